/** Each promise of the document by its number: ordinary inputs, edges, wrong inputs. */
public final class PromiseTest {
    private static final int NONE = -1;
    private static final int BAD = -2;
    private static final int FULL = -3;
    private static final int[] OUTSIDE = {-1, Integer.MIN_VALUE, Integer.MAX_VALUE};
    private static int wrong = 0;
    private static int promise = 0;

    private static void due(String call, long got, long want) {
        if (got != want) {
            wrong++;
            System.out.println("promise " + promise + ": " + call + " answered " + got + ", due is " + want);
        }
    }

    private static TurnGroups withPoints(int n) {
        TurnGroups x = new TurnGroups();
        due("points(" + n + ")", x.points(n), 0);
        return x;
    }

    /** A new group of some turns. */
    private static int groupOf(TurnGroups x, long... turns) {
        long before = x.told();
        int a = x.group(0);
        for (long told : turns) {
            due("turn(" + Long.toHexString(told) + ")", x.turn(told), 1);
            x.add(a);
        }
        x.turn(before);
        return a;
    }

    /** That nothing which can be seen without a change is other than it was. */
    private static long seen(TurnGroups x) {
        long seen = x.told();
        for (int what = 0; what < 4; what++) {
            seen = seen * 31 + x.count(what);
        }
        for (int a = 0; a < x.count(1); a++) {
            seen = (seen * 31 + x.size(a)) * 31 + x.orbit(a, 0);
            for (int m = 0; m <= x.count(0); m++) {
                seen = seen * 31 + x.still(a, m);
            }
        }
        return seen;
    }

    private static void fill(TurnGroups x) {
        for (int k = x.count(1); k < 10; k++) {
            due("group(0)", x.group(0), k);
        }
    }

    public static void main(String[] args) {
        newObject();
        points();
        turn();
        told();
        to();
        shelf();
        back();
        power();
        group();
        add();
        join();
        meet();
        closed();
        fix();
        keep();
        beside();
        centre();
        carried();
        down();
        undo();
        size();
        has();
        is();
        orbit();
        block();
        steps();
        still();
        element();
        place();
        carry();
        count();
        refusedAndFull();
        System.out.println(wrong == 0 ? "all promises are as due" : wrong + " answers are not as due");
        if (wrong != 0) {
            System.exit(1);
        }
    }

    private static void newObject() {
        promise = 1;
        TurnGroups x = new TurnGroups();
        due("count(0)", x.count(0), 4);
        due("count(1)", x.count(1), 0);
        due("told()", x.told(), 0x3210);
        for (int place = 0; place < 8; place++) {
            x.turn(0x0123);
            due("take", x.take(place), 1);
            due("told()", x.told(), 0x3210);
        }
        TurnGroups y = new TurnGroups();
        y.points(3);
        y.group(0);
        due("another object's points", x.count(0), 4);
        due("another object's groups", x.count(1), 0);
    }

    private static void points() {
        promise = 2;
        TurnGroups x = new TurnGroups();
        long[] one = {0x10, 0x210, 0x3210, 0x43210, 0x543210, 0x6543210, 0x76543210};
        for (int n = 2; n <= 8; n++) {
            due("points(" + n + ")", x.points(n), n == 2 ? 0 : 2);
            due("count(0)", x.count(0), n);
            due("count(1)", x.count(1), 0);
            due("told()", x.told(), one[n - 2]);
            x.group(1);
            x.group(0);
            x.element(0, 1);
            x.lay(5);
        }
        due("points(8)", x.points(8), 2);
        x.take(5);
        due("told() off the shelf", x.told(), 0x76543210L);
        x.turn(0x76543201L);
        x.lay(7);
        x.group(0);
        long before = seen(x);
        for (int n : new int[] {-1, 0, 1, 9, 10, Integer.MIN_VALUE, Integer.MAX_VALUE}) {
            due("points(" + n + ")", x.points(n), BAD);
            due("what is seen", seen(x), before);
        }
        x.then(7);
        due("told()", x.told(), 0x76543210L);
    }

    private static void turn() {
        promise = 3;
        TurnGroups x = new TurnGroups();
        due("turn", x.turn(0x0321), 1);
        due("told()", x.told(), 0x0321);
        long[] none = {0, 1, 0x210, 0x43210, 0x3211, 0x4210, 0xF210, 0x2310 + 0x10000, -1, Long.MIN_VALUE,
            Long.MAX_VALUE, 0x3210 | 1L << 32, 0x3210 | 1L << 63, 0x100003210L, 0x7654321076543210L};
        for (long told : none) {
            due("turn(" + told + ")", x.turn(told), BAD);
            due("told()", x.told(), 0x0321);
        }
        x.points(8);
        due("turn", x.turn(0x01234567), 1);
        due("told()", x.told(), 0x01234567);
        due("turn", x.turn(0x176543210L), BAD);
        due("turn", x.turn(0x86543210L), BAD);
        due("turn", x.turn(0xF6543210L), BAD);
        due("turn", x.turn(0x66543210L), BAD);
        due("turn", x.turn(0x76543210L | 1L << 63), BAD);
        due("told()", x.told(), 0x01234567);
        x.points(2);
        due("turn", x.turn(1), 1);
        due("turn", x.turn(0x10), 1);
        due("turn", x.turn(0), BAD);
        due("turn", x.turn(0x11), BAD);
        due("turn", x.turn(0x210), BAD);
    }

    private static void told() {
        promise = 4;
        TurnGroups x = withPoints(8);
        due("told()", x.told(), 1985229328L);
        for (long told : new long[] {0x67452301, 0x70123456, 0x35712460}) {
            x.turn(told);
            due("told()", x.told(), told);
            due("told() again", x.told(), told);
        }
        x.points(3);
        x.turn(0x102);
        due("told()", x.told(), 2 + 16 * 0 + 256);
    }

    private static void to() {
        promise = 5;
        TurnGroups x = withPoints(5);
        x.turn(0x40132);
        int[] images = {2, 3, 1, 0, 4};
        for (int point = 0; point < 5; point++) {
            due("to(" + point + ")", x.to(point), images[point]);
        }
        due("to(5)", x.to(5), BAD);
        due("to(7)", x.to(7), BAD);
        due("to(8)", x.to(8), BAD);
        for (int point : OUTSIDE) {
            due("to(" + point + ")", x.to(point), BAD);
        }
        x.points(8);
        due("to(7)", x.to(7), 7);
        due("to(8)", x.to(8), BAD);
    }

    private static void shelf() {
        TurnGroups x = withPoints(3);
        long[] turns = {0x210, 0x120, 0x201, 0x021, 0x102, 0x012, 0x201, 0x102};
        promise = 6;
        for (int place = 0; place < 8; place++) {
            x.turn(turns[place]);
            due("lay", x.lay(place), 1);
            due("told()", x.told(), turns[place]);
        }
        promise = 7;
        for (int place = 7; place >= 0; place--) {
            due("take", x.take(place), 1);
            due("told()", x.told(), turns[place]);
        }
        promise = 8;
        // 0 and 1 change, and then 1 and 2 do: 0 to 2, 1 to 0, 2 to 1.
        x.turn(0x201);
        due("then", x.then(1), 1);
        due("told()", x.told(), 0x102);
        due("then", x.then(7), 1);
        due("told()", x.told(), 0x021);
        x.take(1);
        due("the shelf stays", x.told(), 0x120);
        for (int place : new int[] {-1, 8, 9, Integer.MIN_VALUE, Integer.MAX_VALUE}) {
            promise = 6;
            due("lay", x.lay(place), BAD);
            promise = 7;
            due("take", x.take(place), BAD);
            promise = 8;
            due("then", x.then(place), BAD);
            due("told()", x.told(), 0x120);
        }
    }

    private static void back() {
        promise = 9;
        TurnGroups x = withPoints(8);
        due("back() of ONE", x.back(), 1);
        due("told()", x.told(), 0x76543210L);
        // Rounds of 3 and 5.
        x.turn(0x37654021);
        due("back()", x.back(), 15);
        due("told()", x.told(), 0x65437102);
        due("back()", x.back(), 15);
        due("told()", x.told(), 0x37654021);
        x.turn(0x07654321);
        due("back()", x.back(), 8);
        due("told()", x.told(), 0x65432107);
        x.turn(0x76543201);
        due("back()", x.back(), 2);
        due("told()", x.told(), 0x76543201);
        x.points(5);
        x.turn(0x34021);
        due("back()", x.back(), 6);
        due("told()", x.told(), 0x34102);
    }

    private static void power() {
        promise = 10;
        TurnGroups x = withPoints(5);
        // One round of all five points.
        int[][] shifts = {{0, 0}, {1, 1}, {2, 2}, {4, 4}, {5, 0}, {-1, 4}, {-2, 3}, {-5, 0}, {7, 2},
            {Integer.MAX_VALUE, 2}, {Integer.MIN_VALUE, 2}, {Integer.MIN_VALUE + 1, 3}};
        for (int[] shift : shifts) {
            x.turn(0x04321);
            due("power(" + shift[0] + ")", x.power(shift[0]), shift[1] == 0 ? 1 : 0);
            due("to(0)", x.to(0), shift[1]);
            due("to(4)", x.to(4), (4 + shift[1]) % 5);
        }
        x.turn(0x34021);
        due("power(3)", x.power(3), 0);
        due("told()", x.told(), 0x34210);
        due("power(2)", x.power(2), 1);
        due("told()", x.told(), 0x43210);
        due("power(-7) of ONE", x.power(-7), 1);
    }

    private static void group() {
        promise = 11;
        int[] all = {2, 6, 24, 120, 720, 5040, 40320};
        for (int n = 2; n <= 8; n++) {
            TurnGroups x = withPoints(n);
            due("group(0)", x.group(0), 0);
            due("group(1)", x.group(1), 1);
            due("group(2)", x.group(2), 2);
            due("size(0)", x.size(0), 1);
            due("size(1)", x.size(1), all[n - 2]);
            due("size(2)", x.size(2), all[n - 2] / 2);
            x.element(1, 1);
            due("has(2) of a swap", x.has(2), 0);
            due("has(1) of a swap", x.has(1), 1);
            due("has(0) of a swap", x.has(0), 0);
            for (int way : new int[] {-1, 3, Integer.MIN_VALUE, Integer.MAX_VALUE}) {
                due("group(" + way + ")", x.group(way), BAD);
            }
            fill(x);
            for (int way = 0; way < 3; way++) {
                due("group(" + way + ")", x.group(way), FULL);
            }
            due("group(3)", x.group(3), BAD);
            due("count(1)", x.count(1), 10);
        }
    }

    private static void add() {
        promise = 12;
        TurnGroups x = withPoints(7);
        x.group(0);
        x.group(0);
        due("add of ONE", x.add(0), 1);
        due("size(0)", x.size(0), 1);
        x.turn(0x0654321);
        due("add", x.add(0), 0);
        due("size(0)", x.size(0), 7);
        due("told()", x.told(), 0x0654321);
        due("add again", x.add(0), 1);
        x.power(3);
        due("add of a power", x.add(0), 1);
        // Two changes of two points.
        x.turn(0x5634210);
        due("size(1)", x.size(1), 1);
        due("add", x.add(1), 0);
        due("size(1)", x.size(1), 2);
        due("group 0 stays", x.size(0), 7);
        for (int a : new int[] {2, 10, -1, Integer.MIN_VALUE, Integer.MAX_VALUE}) {
            due("add(" + a + ")", x.add(a), BAD);
        }
        x.points(7);
        // i to 2 i keeps the round of seven.
        int a = groupOf(x, 0x0654321, 0x5316420);
        due("size", x.size(a), 21);
    }

    private static void join() {
        promise = 13;
        TurnGroups x = withPoints(4);
        int a = groupOf(x, 0x3201);
        int b = groupOf(x, 0x2310);
        int square = groupOf(x, 0x0321);
        due("JOIN", x.of(0, a, b), 3);
        due("size", x.size(3), 4);
        due("JOIN", x.of(0, a, square), 4);
        due("size", x.size(4), 24);
        due("JOIN with itself", x.of(0, square, square), 5);
        due("same", x.is(2, 5, square), 1);
        due("a stays", x.size(a), 2);
        x.turn(0x3021);
        x.add(5);
        due("what was joined stays", x.size(square), 4);
        due("what came of it grows", x.size(5), 24);
    }

    private static void meet() {
        promise = 13;
        TurnGroups x = withPoints(4);
        int square = groupOf(x, 0x0321, 0x0123);
        due("size", x.size(square), 8);
        int even = x.group(2);
        int all = x.group(1);
        due("MEET", x.of(1, square, even), 3);
        due("size", x.size(3), 4);
        due("MEET", x.of(1, even, square), 4);
        due("same", x.is(2, 3, 4), 1);
        due("MEET", x.of(1, all, square), 5);
        due("same", x.is(2, 5, square), 1);
        int triple = groupOf(x, 0x3021);
        due("MEET", x.of(1, triple, square), 7);
        due("size", x.size(7), 1);
    }

    private static void closed() {
        promise = 13;
        TurnGroups x = withPoints(4);
        int all = x.group(1);
        int swap = groupOf(x, 0x3201);
        int two = groupOf(x, 0x2301);
        int triple = groupOf(x, 0x3021);
        due("CLOSED", x.of(2, swap, all), 4);
        due("size", x.size(4), 24);
        due("CLOSED", x.of(2, two, all), 5);
        due("size", x.size(5), 4);
        due("CLOSED by b outside of a", x.of(2, two, triple), 6);
        due("size", x.size(6), 4);
        due("CLOSED", x.of(2, triple, swap), 7);
        due("size", x.size(7), 3);
        due("CLOSED", x.of(2, swap, triple), 8);
        due("size", x.size(8), 6);
        due("CLOSED by itself", x.of(2, swap, swap), 9);
        due("size", x.size(9), 2);
    }

    private static void fix() {
        promise = 14;
        TurnGroups x = withPoints(6);
        int all = x.group(1);
        int[] sizes = {720, 120, 120, 24};
        for (int set = 0; set < 4; set++) {
            due("FIX", x.by(0, all, set), 1);
            due("size", x.size(1), sizes[set]);
            x.undo();
        }
        due("FIX", x.by(0, all, 32), 1);
        due("size", x.size(1), 120);
        due("orbit", x.orbit(1, 0), 31);
        due("FIX", x.by(0, 1, 63), 2);
        due("size", x.size(2), 1);
        due("FIX", x.by(0, 1, 16), 3);
        due("size", x.size(3), 24);
        setsAreLookedAt(x, 0);
    }

    private static void keep() {
        promise = 14;
        TurnGroups x = withPoints(6);
        int all = x.group(1);
        int[] sizes = {720, 120, 48, 36, 48, 120, 720};
        for (int k = 0; k <= 6; k++) {
            due("KEEP", x.by(1, all, (1 << k) - 1), 1);
            due("size", x.size(1), sizes[k]);
            x.undo();
            due("KEEP", x.by(1, all, (1 << k) - 1 << 6 - k), 1);
            due("size", x.size(1), sizes[k]);
            x.undo();
        }
        int round = groupOf(x, 0x054321);
        due("KEEP", x.by(1, round, 0b010101), 2);
        due("size", x.size(2), 3);
        due("KEEP", x.by(1, round, 0b001001), 3);
        due("size", x.size(3), 2);
        due("FIX", x.by(0, round, 0b001001), 4);
        due("size", x.size(4), 1);
        setsAreLookedAt(x, 1);
    }

    private static void setsAreLookedAt(TurnGroups x, int way) {
        long before = seen(x);
        for (int set : new int[] {64, 255, -1, Integer.MIN_VALUE, Integer.MAX_VALUE}) {
            due("by with set " + set, x.by(way, 0, set), BAD);
        }
        due("by of no group", x.by(way, x.count(1), 1), BAD);
        due("by of no group", x.by(way, -1, 1), BAD);
        due("by(2, ..)", x.by(2, 0, 1), BAD);
        due("by(-1, ..)", x.by(-1, 0, 1), BAD);
        due("what is seen", seen(x), before);
    }

    private static void beside() {
        promise = 15;
        TurnGroups x = withPoints(6);
        int all = x.group(1);
        int even = x.group(2);
        long[] turns = {0x543210, 0x543201, 0x452301, 0x543021, 0x354021, 0x054321, 0x504321};
        int[] sizes = {720, 48, 48, 18, 18, 6, 5};
        for (int k = 0; k < turns.length; k++) {
            x.turn(turns[k]);
            due("BESIDE", x.made(0, all), 2);
            due("size", x.size(2), sizes[k]);
            due("told()", x.told(), turns[k]);
            x.undo();
        }
        x.turn(0x543201);
        due("BESIDE a turn that is not in a", x.made(0, even), 2);
        due("size", x.size(2), 24);
        due("has", x.has(2), 0);
    }

    private static void centre() {
        promise = 15;
        TurnGroups x = withPoints(8);
        due("CENTRE", x.made(1, x.group(1)), 1);
        due("size", x.size(1), 1);
        int octagon = groupOf(x, 0x07654321, 0x01234567);
        due("size", x.size(octagon), 16);
        due("CENTRE", x.made(1, octagon), 3);
        due("size", x.size(3), 2);
        x.element(3, 1);
        due("told()", x.told(), 0x32107654);
        int round = groupOf(x, 0x07654321);
        due("CENTRE", x.made(1, round), 5);
        due("same", x.is(2, 5, round), 1);
    }

    private static void carried() {
        promise = 15;
        TurnGroups x = withPoints(5);
        // Leaves 4; carried by the round of five it leaves 0.
        int a = groupOf(x, 0x43201, 0x40321);
        due("size", x.size(a), 24);
        x.turn(0x04321);
        due("CARRIED", x.made(2, a), 1);
        due("size", x.size(1), 24);
        due("orbit", x.orbit(1, 0), 1);
        due("orbit", x.orbit(1, 4), 30);
        int b = groupOf(x, 0x43021);
        x.turn(0x01234);
        due("CARRIED", x.made(2, b), 3);
        due("orbit", x.orbit(3, 4), 28);
        due("told()", x.told(), 0x01234);
        // (0 1 2) carried by i to i + 1 is (1 2 3), and BACK of it is not the same way round.
        x.turn(0x04321);
        x.made(2, b);
        x.element(4, 1);
        due("told()", x.told(), 0x41320);
    }

    private static void down() {
        promise = 15;
        TurnGroups x = withPoints(4);
        int all = x.group(1);
        due("DOWN", x.made(3, all), 1);
        due("size", x.size(1), 12);
        due("DOWN", x.made(3, 1), 2);
        due("size", x.size(2), 4);
        due("DOWN", x.made(3, 2), 3);
        due("size", x.size(3), 1);
        due("DOWN", x.made(3, 3), 4);
        due("size", x.size(4), 1);
        int square = groupOf(x, 0x0321, 0x0123);
        due("DOWN", x.made(3, square), 6);
        x.element(6, 1);
        due("told()", x.told(), 0x1032);
        long before = seen(x);
        for (int way : new int[] {-1, 4, Integer.MIN_VALUE, Integer.MAX_VALUE}) {
            due("made(" + way + ", 0)", x.made(way, 0), BAD);
        }
        for (int way = 0; way < 4; way++) {
            due("made of no group", x.made(way, 7), BAD);
            due("made of no group", x.made(way, -1), BAD);
        }
        due("what is seen", seen(x), before);
    }

    private static void undo() {
        promise = 16;
        TurnGroups x = new TurnGroups();
        due("undo()", x.undo(), NONE);
        fill(x);
        for (int left = 9; left >= 0; left--) {
            due("undo()", x.undo(), left);
            due("count(1)", x.count(1), left);
            due("size", x.size(left), BAD);
        }
        due("undo()", x.undo(), NONE);
        x.group(1);
        x.undo();
        due("group(0)", x.group(0), 0);
        due("size(0)", x.size(0), 1);
    }

    private static void size() {
        promise = 17;
        TurnGroups x = withPoints(8);
        due("size(0)", x.size(0), BAD);
        // Points as rows of three bits: one bit changed, bits turned round, one bit added to another.
        int a = groupOf(x, 0x67452301, 0x73625140, 0x56741230);
        due("size", x.size(a), 1344);
        int b = groupOf(x, 0x76543201, 0x54763210, 0x32107654);
        due("size", x.size(b), 128);
        for (int k : new int[] {2, 10, -1, Integer.MIN_VALUE, Integer.MAX_VALUE}) {
            due("size(" + k + ")", x.size(k), BAD);
        }
    }

    private static void has() {
        promise = 18;
        TurnGroups x = withPoints(4);
        due("has(0)", x.has(0), BAD);
        int square = groupOf(x, 0x0321);
        long[] turns = {0x3210, 0x0321, 0x1032, 0x2103, 0x0123, 0x3201, 0x3012};
        for (int k = 0; k < turns.length; k++) {
            x.turn(turns[k]);
            due("has", x.has(square), k < 4 ? 1 : 0);
        }
        for (int a : new int[] {1, 10, -1, Integer.MIN_VALUE, Integer.MAX_VALUE}) {
            due("has(" + a + ")", x.has(a), BAD);
        }
    }

    private static void is() {
        promise = 19;
        TurnGroups x = withPoints(4);
        x.group(0);
        x.group(1);
        int four = groupOf(x, 0x2301, 0x1032);
        int pair = groupOf(x, 0x2301);
        int swaps = groupOf(x, 0x3201, 0x2310);
        int[][] isDue = {{0, four, 1, 1}, {1, four, 1, 1}, {2, four, 1, 0}, {0, pair, four, 1}, {1, pair, four, 1},
            {0, four, pair, 0}, {1, four, pair, 0}, {1, pair, 1, 0}, {0, pair, 1, 1}, {0, swaps, four, 0},
            {2, swaps, four, 0}, {1, swaps, 1, 0}, {1, pair, swaps, 1}, {1, 0, 1, 1}, {2, 0, 0, 1}, {1, 1, 1, 1},
            {0, 1, 0, 0}, {2, four, swaps, 0}, {1, swaps, four, 0}};
        for (int[] row : isDue) {
            due("is(" + row[0] + ", " + row[1] + ", " + row[2] + ")", x.is(row[0], row[1], row[2]), row[3]);
        }
        // The same group made of other turns.
        int other = groupOf(x, 0x0123, 0x1032);
        due("is the same", x.is(2, four, other), 1);
        for (int bad : new int[] {-1, 6, Integer.MIN_VALUE, Integer.MAX_VALUE}) {
            due("is", x.is(0, bad, 0), BAD);
            due("is", x.is(1, 0, bad), BAD);
            due("is", x.is(bad, 0, 0), BAD);
        }
        due("is(3, ..)", x.is(3, 0, 0), BAD);
    }

    private static void orbit() {
        promise = 20;
        TurnGroups x = withPoints(7);
        int a = groupOf(x, 0x5643021, 0x6534210);
        int[] orbits = {7, 7, 7, 24, 24, 96, 96};
        int one = x.group(0);
        for (int point = 0; point < 7; point++) {
            due("orbit", x.orbit(a, point), orbits[point]);
            due("orbit of ONE alone", x.orbit(one, point), 1 << point);
        }
        for (int point : new int[] {7, 8, -1, Integer.MIN_VALUE, Integer.MAX_VALUE}) {
            due("orbit", x.orbit(a, point), BAD);
        }
        due("orbit of no group", x.orbit(2, 0), BAD);
        due("orbit of no group", x.orbit(-1, 0), BAD);
    }

    private static void block() {
        promise = 21;
        TurnGroups x = withPoints(8);
        int round = groupOf(x, 0x07654321);
        int[] blocks = {1, 255, 0x55, 255, 0x11, 255, 0x55, 255};
        for (int j = 0; j < 8; j++) {
            due("block(0, " + j + ")", x.block(round, 0, j), blocks[j]);
            due("block(" + j + ", 0)", x.block(round, j, 0), blocks[j]);
        }
        int one = x.group(0);
        due("block", x.block(one, 2, 6), 0x44);
        due("block", x.block(one, 6, 6), 0x40);
        // Two orbits, one swap: 0 with 7 is 1 with 7.
        int swap = groupOf(x, 0x76543201);
        due("block", x.block(swap, 0, 7), 0x83);
        due("block", x.block(swap, 0, 1), 3);
        due("block", x.block(swap, 6, 7), 0xC0);
        // Both change at once: the pair is carried to one beside it.
        int both = groupOf(x, 0x67543201);
        due("block", x.block(both, 0, 7), 0x81);
        for (int bad : new int[] {8, -1, Integer.MIN_VALUE, Integer.MAX_VALUE}) {
            due("block", x.block(round, bad, 0), BAD);
            due("block", x.block(round, 0, bad), BAD);
            due("block", x.block(bad, 0, 0), BAD);
        }
        x.points(3);
        x.group(1);
        due("block", x.block(0, 0, 3), BAD);
        due("block", x.block(0, 2, 1), 7);
    }

    private static void steps() {
        promise = 22;
        int[] whole = {1, 2, 3, NONE, NONE, NONE, NONE};
        int[] even = {0, 1, 2, NONE, NONE, NONE, NONE};
        for (int n = 2; n <= 8; n++) {
            TurnGroups x = withPoints(n);
            due("steps of ONE", x.steps(x.group(0)), 0);
            due("steps of all", x.steps(x.group(1)), whole[n - 2]);
            due("steps of the even", x.steps(x.group(2)), even[n - 2]);
            due("count(1)", x.count(1), 3);
            due("steps of no group", x.steps(3), BAD);
            due("steps of no group", x.steps(-1), BAD);
        }
        TurnGroups x = withPoints(8);
        // All turns of four points, twice, and a change of both: four steps.
        int a = groupOf(x, 0x76543201, 0x76540321, 0x32107654);
        due("size", x.size(a), 1152);
        due("steps", x.steps(a), 4);
    }

    private static void still() {
        promise = 23;
        TurnGroups x = withPoints(5);
        int all = x.group(1);
        int[] counts = {44, 45, 20, 10, 0, 1};
        int even = x.group(2);
        int[] evenCounts = {24, 15, 20, 0, 0, 1};
        int one = x.group(0);
        for (int m = 0; m <= 5; m++) {
            due("still", x.still(all, m), counts[m]);
            due("still", x.still(even, m), evenCounts[m]);
            due("still", x.still(one, m), m == 5 ? 1 : 0);
        }
        for (int m : new int[] {6, 8, 9, -1, Integer.MIN_VALUE, Integer.MAX_VALUE}) {
            due("still", x.still(all, m), BAD);
        }
        due("still of no group", x.still(3, 0), BAD);
        due("still of no group", x.still(-1, 0), BAD);
    }

    private static void element() {
        promise = 24;
        TurnGroups x = withPoints(3);
        int all = x.group(1);
        long[] order = {0x210, 0x120, 0x201, 0x021, 0x102, 0x012};
        for (int k = 0; k < 6; k++) {
            due("element", x.element(all, k), 1);
            due("told()", x.told(), order[k]);
        }
        for (int k : new int[] {6, 7, -1, Integer.MIN_VALUE, Integer.MAX_VALUE}) {
            due("element", x.element(all, k), BAD);
            due("told()", x.told(), order[5]);
        }
        due("element of no group", x.element(1, 0), BAD);
        due("element of no group", x.element(-1, 0), BAD);
        due("element", x.element(x.group(0), 0), 1);
        due("told()", x.told(), 0x210);
        due("element", x.element(1, 1), BAD);
    }

    private static void place() {
        promise = 25;
        TurnGroups x = withPoints(4);
        int all = x.group(1);
        int square = groupOf(x, 0x0321);
        // The square's turns have the places 0, 9, 16 and 18 among all.
        for (int k = 0; k < 24; k++) {
            x.element(all, k);
            due("place", x.place(all), k);
            due("place among four", x.place(square), (k > 0 ? 1 : 0) + (k > 9 ? 1 : 0) + (k > 16 ? 1 : 0)
                + (k > 18 ? 1 : 0));
        }
        for (int a : new int[] {2, 10, -1, Integer.MIN_VALUE, Integer.MAX_VALUE}) {
            due("place(" + a + ")", x.place(a), BAD);
        }
    }

    private static void carry() {
        promise = 26;
        TurnGroups x = withPoints(4);
        int all = x.group(1);
        int square = groupOf(x, 0x0321);
        due("carry", x.carry(all, 0b0011, 0b1100), 1);
        due("told()", x.told(), 0x1032);
        due("carry", x.carry(all, 0b0001, 0b1000), 1);
        due("told()", x.told(), 0x2103);
        due("carry", x.carry(square, 0b0011, 0b0110), 1);
        due("told()", x.told(), 0x0321);
        due("carry", x.carry(square, 0b0011, 0b0101), NONE);
        due("told()", x.told(), 0x0321);
        due("carry", x.carry(all, 0b0011, 0b0111), NONE);
        due("carry", x.carry(all, 0b0111, 0b0011), NONE);
        due("carry", x.carry(all, 0, 0b1000), NONE);
        due("told()", x.told(), 0x0321);
        due("carry", x.carry(square, 0b1010, 0b0101), 1);
        due("told()", x.told(), 0x0321);
        due("carry of none to none", x.carry(square, 0, 0), 1);
        due("told()", x.told(), 0x3210);
        x.turn(0x0123);
        due("carry of all to all", x.carry(square, 15, 15), 1);
        due("told()", x.told(), 0x3210);
        x.turn(0x0123);
        for (int bad : new int[] {16, -1, Integer.MIN_VALUE, Integer.MAX_VALUE}) {
            due("carry", x.carry(all, bad, 1), BAD);
            due("carry", x.carry(all, 1, bad), BAD);
            due("carry", x.carry(bad, 1, 1), BAD);
        }
        due("told()", x.told(), 0x0123);
    }

    private static void count() {
        promise = 27;
        TurnGroups x = withPoints(6);
        long[] turns = {0x543210, 0x543201, 0x542301, 0x452301, 0x543021, 0x053421, 0x054321};
        int[] left = {6, 4, 2, 0, 3, 1, 0};
        int[] even = {1, 0, 1, 0, 1, 1, 0};
        for (int k = 0; k < turns.length; k++) {
            due("turn", x.turn(turns[k]), 1);
            due("count(0)", x.count(0), 6);
            due("count(1)", x.count(1), k);
            due("count(2)", x.count(2), left[k]);
            due("count(3)", x.count(3), even[k]);
            x.group(0);
        }
        for (int what : new int[] {4, -1, Integer.MIN_VALUE, Integer.MAX_VALUE}) {
            due("count(" + what + ")", x.count(what), BAD);
        }
    }

    /** BAD comes before FULL, and what is refused changes nothing. */
    private static void refusedAndFull() {
        TurnGroups x = withPoints(4);
        x.group(1);
        x.turn(0x0321);
        fill(x);
        long before = seen(x);
        promise = 11;
        due("group(0)", x.group(0), FULL);
        for (int way = 0; way < 3; way++) {
            promise = 13;
            due("of", x.of(way, 0, 9), FULL);
            due("of", x.of(way, 0, 10), BAD);
            due("of", x.of(way, -1, 0), BAD);
        }
        due("of(3, ..)", x.of(3, 0, 0), BAD);
        due("of(-1, ..)", x.of(-1, 0, 0), BAD);
        promise = 14;
        for (int way = 0; way < 2; way++) {
            due("by", x.by(way, 0, 15), FULL);
            due("by", x.by(way, 0, 16), BAD);
            due("by", x.by(way, 10, 0), BAD);
        }
        due("by(2, ..)", x.by(2, 0, 0), BAD);
        promise = 15;
        for (int way = 0; way < 4; way++) {
            due("made", x.made(way, 0), FULL);
            due("made", x.made(way, 10), BAD);
        }
        due("made(4, 0)", x.made(4, 0), BAD);
        due("what is seen", seen(x), before);
        promise = 12;
        due("add when full", x.add(9), 0);
        due("size(9)", x.size(9), 4);
    }
}
