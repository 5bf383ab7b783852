import java.util.ArrayList;
import java.util.List;

/**
 * "Refused, and nothing changes, the first that fits: BAD (no such POINT, SET, GROUP, place, TURN, or
 * a number out of its bounds), FULL." Each call with each argument out of its bounds, on both sides,
 * with no groups, with some and with ten: its answer, and the whole state behind it.
 */
public final class RefusalTest {
    private static final int NONE = -1;
    private static final int BAD = -2;
    private static final int FULL = -3;
    private static final int[] GROUP_COUNTS = {0, 1, 3, 9, 10};

    private interface Call {
        long on(TurnGroups x);
    }

    private interface CallOfThree {
        int on(TurnGroups x, int p, int q, int r);
    }

    /** A state of an object, and calls that are refused in it. */
    private static final class Refusals {
        final int n;
        final int groups;
        private final String before;

        Refusals(int n, int groups) {
            this.n = n;
            this.groups = groups;
            before = Stand.of(Stand.with(n, groups));
        }

        /** Each on an object of its own, so that none uses up the calls of another. */
        void due(String name, int want, Call call) {
            TurnGroups x = Stand.with(n, groups);
            String where = name + " (" + n + " points, " + groups + " groups)";
            Due.answer(where, call.on(x), want);
            Due.state(where, Stand.of(x), before);
        }

        /** Numbers that are none of first .. last. */
        int[] outside(int first, int last) {
            return new int[] {first - 1, last + 1, first - 2, last + 2, last + 16, last + 256, Integer.MIN_VALUE,
                Integer.MIN_VALUE + 1, Integer.MAX_VALUE, Integer.MAX_VALUE - 1};
        }

        int[] noGroups() {
            return outside(0, groups - 1);
        }

        int[] noPoints() {
            return outside(0, n - 1);
        }

        int[] noSets() {
            return outside(0, Stand.allPoints(n));
        }
    }

    public static void main(String[] args) {
        for (int n = 2; n <= 8; n++) {
            for (int groups : GROUP_COUNTS) {
                Refusals in = new Refusals(n, groups);
                noSuchNumberOfPoints(in);
                noSuchTurn(in);
                noSuchPoint(in);
                noSuchPlace(in);
                noSuchSet(in);
                noSuchGroup(in);
                noSuchGroupOfTwo(in);
                noSuchWay(in);
                noSuchStill(in);
                noSuchElement(in);
                noSuchCount(in);
                badJustWhenOneIsOut(in);
            }
            badIsAheadOfFull(new Refusals(n, 10));
            fullWithTen(new Refusals(n, 10));
            notFullWithNine(n);
            noneAndNothingChanges(n);
            badIsAheadOfNone(n);
        }
        goneGroupsAreNone();
        Due.end();
    }

    private static void noSuchNumberOfPoints(Refusals in) {
        Due.by("points: n POINTS, n 2 .. 8. BAD");
        for (int number : in.outside(2, 8)) {
            in.due("points(" + number + ")", BAD, x -> x.points(number));
        }
        in.due("points(0)", BAD, x -> x.points(0));
    }

    private static void noSuchTurn(Refusals in) {
        Due.by("turn: BAD: it is none of n POINTS");
        for (long told : noTurns(in.n)) {
            in.due("turn(" + told + ")", BAD, x -> x.turn(told));
        }
    }

    /** None of these tells a turn of n points: wrong points, two to one, too few or too many. */
    private static List<Long> noTurns(int n) {
        List<Long> none = new ArrayList<>(List.of(0L, -1L, Long.MIN_VALUE, Long.MAX_VALUE, -Stand.one(n),
            Stand.one(n + 1), Stand.one(n) + 1, Stand.one(n) - 1, Stand.last(n + 1), Stand.round(n + 1, 1)));
        if (n > 2) {
            none.add(Stand.one(n - 1));
        }
        for (int bit = 0; bit < 64; bit++) {
            none.add(Stand.one(n) ^ 1L << bit);
        }
        for (int i = 0; i < n; i++) {
            long others = Stand.one(n) & ~(15L << 4 * i);
            none.add(others | (long) n << 4 * i);
            none.add(others | 15L << 4 * i);
            none.add(others | (long) ((i + 1) % n) << 4 * i);
        }
        return none;
    }

    private static void noSuchPoint(Refusals in) {
        for (int point : in.noPoints()) {
            Due.by("to: Where THE TURN carries a POINT. BAD");
            in.due("to(" + point + ")", BAD, x -> x.to(point));
            Due.by("orbit: THE ORBIT, a SET. BAD");
            in.due("orbit(0, " + point + ")", BAD, x -> x.orbit(0, point));
            Due.by("block: THE BLOCK of two POINTS, a SET. BAD");
            in.due("block(0, " + point + ", 0)", BAD, x -> x.block(0, point, 0));
            in.due("block(0, 0, " + point + ")", BAD, x -> x.block(0, 0, point));
            in.due("block(0, n - 1, " + point + ")", BAD, x -> x.block(0, in.n - 1, point));
            in.due("block(0, " + point + ", " + point + ")", BAD, x -> x.block(0, point, point));
        }
    }

    private static void noSuchPlace(Refusals in) {
        for (int place : in.outside(0, 7)) {
            Due.by("lay: THE TURN comes on a place of THE SHELF (0 .. 7): 1. BAD");
            in.due("lay(" + place + ")", BAD, x -> x.lay(place));
            Due.by("take: THE TURN becomes that of a place: 1. BAD");
            in.due("take(" + place + ")", BAD, x -> x.take(place));
            Due.by("then: THE TURN becomes itself THEN that of a place: 1. BAD");
            in.due("then(" + place + ")", BAD, x -> x.then(place));
        }
    }

    private static void noSuchSet(Refusals in) {
        for (int set : in.noSets()) {
            Due.by("by: FIX (way 0), KEEP (1) of a SET. BAD");
            in.due("by(0, 0, " + set + ")", BAD, x -> x.by(0, 0, set));
            in.due("by(1, 0, " + set + ")", BAD, x -> x.by(1, 0, set));
            Due.by("carry: The first TURN of a that carries SET one to SET two. BAD");
            in.due("carry(0, " + set + ", 0)", BAD, x -> x.carry(0, set, 0));
            in.due("carry(0, 0, " + set + ")", BAD, x -> x.carry(0, 0, set));
            in.due("carry(0, 1, " + set + ")", BAD, x -> x.carry(0, 1, set));
            in.due("carry(0, " + set + ", " + set + ")", BAD, x -> x.carry(0, set, set));
        }
    }

    private static void noSuchGroup(Refusals in) {
        Due.by("BAD (no such GROUP)");
        for (int a : in.noGroups()) {
            in.due("add(" + a + ")", BAD, x -> x.add(a));
            in.due("size(" + a + ")", BAD, x -> x.size(a));
            in.due("has(" + a + ")", BAD, x -> x.has(a));
            in.due("steps(" + a + ")", BAD, x -> x.steps(a));
            in.due("place(" + a + ")", BAD, x -> x.place(a));
            in.due("orbit(" + a + ", 0)", BAD, x -> x.orbit(a, 0));
            in.due("block(" + a + ", 0, 1)", BAD, x -> x.block(a, 0, 1));
            in.due("still(" + a + ", 0)", BAD, x -> x.still(a, 0));
            in.due("element(" + a + ", 0)", BAD, x -> x.element(a, 0));
            in.due("carry(" + a + ", 1, 1)", BAD, x -> x.carry(a, 1, 1));
            for (int way = 0; way <= 1; way++) {
                int kind = way;
                in.due("by(" + kind + ", " + a + ", 1)", BAD, x -> x.by(kind, a, 1));
            }
            for (int way = 0; way <= 3; way++) {
                int kind = way;
                in.due("made(" + kind + ", " + a + ")", BAD, x -> x.made(kind, a));
            }
        }
    }

    private static void noSuchGroupOfTwo(Refusals in) {
        Due.by("BAD (no such GROUP)");
        for (int a : in.noGroups()) {
            for (int way = 0; way <= 2; way++) {
                int kind = way;
                in.due("of(" + kind + ", " + a + ", 0)", BAD, x -> x.of(kind, a, 0));
                in.due("of(" + kind + ", 0, " + a + ")", BAD, x -> x.of(kind, 0, a));
                in.due("of(" + kind + ", " + a + ", " + a + ")", BAD, x -> x.of(kind, a, a));
                in.due("is(" + kind + ", " + a + ", 0)", BAD, x -> x.is(kind, a, 0));
                in.due("is(" + kind + ", 0, " + a + ")", BAD, x -> x.is(kind, 0, a));
                in.due("is(" + kind + ", " + a + ", " + a + ")", BAD, x -> x.is(kind, a, a));
            }
        }
    }

    private static void noSuchWay(Refusals in) {
        Due.by("group: A GROUP: 0, 1, 2. BAD");
        for (int way : in.outside(0, 2)) {
            in.due("group(" + way + ")", BAD, x -> x.group(way));
        }
        Due.by("of: JOIN (way 0), MEET (1), CLOSED by b (2). BAD");
        for (int way : in.outside(0, 2)) {
            in.due("of(" + way + ", 0, 0)", BAD, x -> x.of(way, 0, 0));
        }
        Due.by("by: FIX (way 0), KEEP (1). BAD");
        for (int way : in.outside(0, 1)) {
            in.due("by(" + way + ", 0, 1)", BAD, x -> x.by(way, 0, 1));
        }
        Due.by("made: BESIDE (way 0), CENTRE (1), CARRIED (2), DOWN (3). BAD");
        for (int way : in.outside(0, 3)) {
            in.due("made(" + way + ", 0)", BAD, x -> x.made(way, 0));
        }
        Due.by("is: WITHIN b (way 0), NORMAL in b (1), the same as b (2). BAD");
        for (int way : in.outside(0, 2)) {
            in.due("is(" + way + ", 0, 0)", BAD, x -> x.is(way, 0, 0));
        }
    }

    private static void noSuchStill(Refusals in) {
        Due.by("still: STILL m (0 .. n). BAD");
        for (int m : in.outside(0, in.n)) {
            in.due("still(0, " + m + ")", BAD, x -> x.still(0, m));
        }
    }

    private static void noSuchElement(Refusals in) {
        Due.by("element: TURN k becomes THE TURN: 1. BAD: there are not so many");
        TurnGroups asked = Stand.with(in.n, in.groups);
        for (int a = 0; a < in.groups; a++) {
            int group = a;
            for (int k : in.outside(0, asked.size(a) - 1)) {
                in.due("element(" + a + ", " + k + ")", BAD, x -> x.element(group, k));
            }
        }
    }

    private static void noSuchCount(Refusals in) {
        Due.by("count: 0, 1, 2, 3. BAD");
        for (int what : in.outside(0, 3)) {
            in.due("count(" + what + ")", BAD, x -> x.count(what));
        }
    }

    private static void badJustWhenOneIsOut(Refusals in) {
        Due.by("BAD (no such POINT, SET, GROUP, or a number out of its bounds)");
        int group = in.groups - 1;
        int point = in.n - 1;
        int set = Stand.allPoints(in.n);
        badJustAbove(in, "of", (x, p, q, r) -> x.of(p, q, r), 2, group, group);
        badJustAbove(in, "is", (x, p, q, r) -> x.is(p, q, r), 2, group, group);
        badJustAbove(in, "by", (x, p, q, r) -> x.by(p, q, r), 1, group, set);
        badJustAbove(in, "block", (x, p, q, r) -> x.block(p, q, r), group, point, point);
        badJustAbove(in, "carry", (x, p, q, r) -> x.carry(p, q, r), group, set, set);
    }

    /** All three arguments in and out of bounds at once, each allowed from 0 to its greatest. */
    private static void badJustAbove(Refusals in, String name, CallOfThree call, int... most) {
        int[] numbers = {Integer.MIN_VALUE, -1, 0, 1, 2, 3, in.n - 1, in.n, in.groups - 1, in.groups, 10,
            Stand.allPoints(in.n), 1 << in.n, Integer.MAX_VALUE};
        for (int p : numbers) {
            for (int q : numbers) {
                TurnGroups x = Stand.with(in.n, in.groups);
                for (int r : numbers) {
                    boolean bad = p < 0 || p > most[0] || q < 0 || q > most[1] || r < 0 || r > most[2];
                    int answer = call.on(x, p, q, r);
                    Due.answer("whether " + name + "(" + p + ", " + q + ", " + r + ") is BAD with " + in.n
                        + " points, " + in.groups + " groups", answer == BAD ? 1 : 0, bad ? 1 : 0);
                    if (x.count(1) > in.groups) {
                        x.undo();
                    }
                }
            }
        }
    }

    /** Two things wrong at once, or one and no room: it is BAD. */
    private static void badIsAheadOfFull(Refusals in) {
        Due.by("Refused, the first that fits: BAD, FULL");
        int sets = 1 << in.n;
        for (int bad : new int[] {-1, 3}) {
            in.due("group(" + bad + ")", BAD, x -> x.group(bad));
            in.due("of(" + bad + ", 0, 0)", BAD, x -> x.of(bad, 0, 0));
            in.due("of(" + bad + ", 10, 10)", BAD, x -> x.of(bad, 10, 10));
        }
        for (int way = 0; way <= 2; way++) {
            int kind = way;
            for (int bad : new int[] {-1, 10}) {
                in.due("of(" + way + ", " + bad + ", 9)", BAD, x -> x.of(kind, bad, 9));
                in.due("of(" + way + ", 9, " + bad + ")", BAD, x -> x.of(kind, 9, bad));
            }
        }
        for (int way = -1; way <= 2; way++) {
            int kind = way;
            in.due("by(" + way + ", 9, 2^n)", BAD, x -> x.by(kind, 9, sets));
            in.due("by(" + way + ", 9, -1)", BAD, x -> x.by(kind, 9, -1));
            in.due("by(" + way + ", 10, 0)", BAD, x -> x.by(kind, 10, 0));
            in.due("by(" + way + ", -1, 0)", BAD, x -> x.by(kind, -1, 0));
            in.due("by(" + way + ", -1, 2^n)", BAD, x -> x.by(kind, -1, sets));
        }
        in.due("by(-1, 0, 0)", BAD, x -> x.by(-1, 0, 0));
        in.due("by(2, 0, 0)", BAD, x -> x.by(2, 0, 0));
        for (int way = -1; way <= 4; way++) {
            int kind = way;
            in.due("made(" + way + ", 10)", BAD, x -> x.made(kind, 10));
            in.due("made(" + way + ", -1)", BAD, x -> x.made(kind, -1));
        }
        in.due("made(-1, 0)", BAD, x -> x.made(-1, 0));
        in.due("made(4, 0)", BAD, x -> x.made(4, 0));
    }

    private static void fullWithTen(Refusals in) {
        Due.by("GROUPS are numbered from 0 as they are made, 10 at most");
        int all = Stand.allPoints(in.n);
        for (int way = 0; way <= 2; way++) {
            int kind = way;
            in.due("group(" + way + ")", FULL, x -> x.group(kind));
            in.due("of(" + way + ", 0, 9)", FULL, x -> x.of(kind, 0, 9));
            in.due("of(" + way + ", 9, 0)", FULL, x -> x.of(kind, 9, 0));
            in.due("of(" + way + ", 9, 9)", FULL, x -> x.of(kind, 9, 9));
        }
        for (int way = 0; way <= 1; way++) {
            int kind = way;
            in.due("by(" + way + ", 0, 0)", FULL, x -> x.by(kind, 0, 0));
            in.due("by(" + way + ", 9, all)", FULL, x -> x.by(kind, 9, all));
        }
        for (int way = 0; way <= 3; way++) {
            int kind = way;
            in.due("made(" + way + ", 0)", FULL, x -> x.made(kind, 0));
            in.due("made(" + way + ", 9)", FULL, x -> x.made(kind, 9));
        }
        TurnGroups x = Stand.with(in.n, 10);
        for (int again = 0; again < 3; again++) {
            Due.answer("group(0) once more", x.group(0), FULL);
        }
        Due.answer("undo()", x.undo(), 9);
        Due.answer("group(0) in the place that is free", x.group(0), 9);
        Due.answer("group(0)", x.group(0), FULL);
    }

    /** The tenth group can be made in each way there is, and the state is the same again without it. */
    private static void notFullWithNine(int n) {
        Due.by("GROUPS are numbered from 0 as they are made, 10 at most");
        String before = Stand.of(Stand.with(n, 9));
        List<Call> makers = new ArrayList<>();
        for (int way = 0; way <= 3; way++) {
            int kind = way;
            makers.add(x -> x.made(kind, 8));
            if (way <= 2) {
                makers.add(x -> x.group(kind));
                makers.add(x -> x.of(kind, 8, 7));
            }
            if (way <= 1) {
                makers.add(x -> x.by(kind, 8, 1));
            }
        }
        for (int k = 0; k < makers.size(); k++) {
            TurnGroups x = Stand.with(n, 9);
            Due.answer("the tenth group, made in way " + k, makers.get(k).on(x), 9);
            Due.answer("count(1)", x.count(1), 10);
            Due.answer("undo()", x.undo(), 9);
            Due.state("a group that was made and went", Stand.of(x), before);
        }
    }

    private static void noneAndNothingChanges(int n) {
        Due.by("undo: NONE: there is none");
        Refusals empty = new Refusals(n, 0);
        empty.due("undo()", NONE, x -> x.undo());
        Due.by("carry: NONE: there is none (THE TURN stays)");
        int all = Stand.allPoints(n);
        for (int groups : new int[] {1, 10}) {
            Refusals in = new Refusals(n, groups);
            // The first group has ONE alone.
            in.due("carry(0, 1, 2)", NONE, x -> x.carry(0, 1, 2));
            in.due("carry(0, 2, 1)", NONE, x -> x.carry(0, 2, 1));
            in.due("carry(0, 0, all)", NONE, x -> x.carry(0, 0, all));
            in.due("carry(0, all, 0)", NONE, x -> x.carry(0, all, 0));
            in.due("carry(0, all, all but 0)", NONE, x -> x.carry(0, all, all - 1));
            in.due("carry(0, 0, 1)", NONE, x -> x.carry(0, 0, 1));
        }
    }

    private static void badIsAheadOfNone(int n) {
        Due.by("carry: Refused, the first that fits: BAD");
        Refusals in = new Refusals(n, 1);
        int sets = 1 << n;
        // One set has a point more than the other, so none is carried there.
        in.due("carry(1, 0, 1)", BAD, x -> x.carry(1, 0, 1));
        in.due("carry(-1, 1, 0)", BAD, x -> x.carry(-1, 1, 0));
        in.due("carry(0, 0, 2^n)", BAD, x -> x.carry(0, 0, sets));
        in.due("carry(0, 2^n + 1, 1)", BAD, x -> x.carry(0, sets + 1, 1));
    }

    private static void goneGroupsAreNone() {
        Due.by("undo: The GROUP that came last goes");
        for (int groups = 1; groups <= 10; groups++) {
            TurnGroups x = Stand.with(5, groups);
            int gone = groups - 1;
            Due.answer("undo()", x.undo(), gone);
            Due.answer("size of what went", x.size(gone), BAD);
            Due.answer("add to what went", x.add(gone), BAD);
            Due.answer("element of what went", x.element(gone, 0), BAD);
            Due.state("undo()", Stand.of(x), Stand.of(Stand.with(5, gone)));
        }
        Due.by("points: how many GROUPS went");
        TurnGroups x = Stand.with(5, 10);
        Due.answer("points(5)", x.points(5), 10);
        for (int a = 0; a < 10; a++) {
            Due.answer("size(" + a + ")", x.size(a), BAD);
        }
    }
}
