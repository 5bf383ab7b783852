/**
 * Each sentence of the document that names a bound: what is allowed up to it, what is least, greatest,
 * empty and full. What is refused beyond a bound, and that it changes nothing, is RefusalTest's.
 */
public final class BoundTest {
    private static final int NONE = -1;
    private static final int BAD = -2;
    private static final int FULL = -3;

    public static void main(String[] args) {
        newObject();
        objectsStandAlone();
        pointsTwoToEight();
        pointsMakeAllNew();
        pointsAnswerGroupsGone();
        turnsOfTwoAndThree();
        turnsLeastAndGreatest();
        toEachPoint();
        shelfPlaces();
        thenOneAndItself();
        backLeastAndGreatest();
        powerAnyInt();
        powerIsOneWhenDue();
        groupNumbers();
        groupWays();
        addWhatItHas();
        addWithTenGroups();
        joinEdges();
        meetEdges();
        closedEdges();
        fixEdges();
        keepEdges();
        besideEdges();
        centreEdges();
        carriedEdges();
        downEdges();
        whatIsMadeStandsAlone();
        undoEdges();
        undoneLeavesNothing();
        sizeLeastAndGreatest();
        hasEdges();
        withinEdges();
        normalEdges();
        sameEdges();
        orbitEdges();
        blockEdges();
        blockOfOneAndItself();
        stepsEdges();
        stillEdges();
        elementEdges();
        placeEdges();
        placeOfTurnsOutside();
        carryEdges();
        countEdges();
        askingChangesNothing();
        lastOf512Calls();
        Due.end();
    }

    // ---- 1, 2: the object and its points

    private static void newObject() {
        Due.by("TurnGroups(): 4 POINTS, no GROUPS; ONE everywhere");
        TurnGroups x = new TurnGroups();
        Due.answer("count(0)", x.count(0), 4);
        Due.answer("to(3)", x.to(3), 3);
        Due.answer("to(4)", x.to(4), BAD);
        Due.answer("count(1)", x.count(1), 0);
        Due.answer("size(0)", x.size(0), BAD);
        Due.answer("undo()", x.undo(), NONE);
        Due.turn("new", x.told(), 0x3210);
        for (int place = 0; place < 8; place++) {
            x.turn(0x0123);
            Due.answer("take", x.take(place), 1);
            Due.turn("take(" + place + ")", x.told(), 0x3210);
        }
        Due.answer("group(1)", x.group(1), 0);
        Due.answer("size(0)", x.size(0), 24);
    }

    private static void objectsStandAlone() {
        Due.by("TurnGroups(): ... (whatever other objects have)");
        TurnGroups x = Stand.with(4, 3);
        String before = Stand.of(x);
        TurnGroups y = Stand.with(8, 10);
        Due.state("what another object did", Stand.of(x), before);
        Due.state("a new object beside two", Stand.of(new TurnGroups()),
            "points 4, turn 3210, shelf 3210 3210 3210 3210 3210 3210 3210 3210, groups 0");
        x.points(2);
        Due.state("points(2) of another object", Stand.of(y), Stand.of(Stand.with(8, 10)));
    }

    private static void pointsTwoToEight() {
        Due.by("POINTS are 0 .. n - 1, n 2 .. 8 (4 at first)");
        TurnGroups x = new TurnGroups();
        int[] numbers = {8, 2, 8, 7, 6, 5, 4, 3, 2, 3, 4, 5, 6, 7, 8};
        for (int n : numbers) {
            Due.answer("points(" + n + ")", x.points(n), 0);
            Due.answer("count(0)", x.count(0), n);
            Due.turn("points(" + n + ")", x.told(), Stand.one(n));
        }
        Due.answer("points(9)", x.points(9), BAD);
        Due.answer("count(0)", x.count(0), 8);
        x.points(2);
        Due.answer("points(1)", x.points(1), BAD);
        Due.answer("count(0)", x.count(0), 2);
    }

    private static void pointsMakeAllNew() {
        Due.by("points: all is as it was at first but for that");
        for (int from = 2; from <= 8; from++) {
            for (int to = 2; to <= 8; to++) {
                TurnGroups x = Stand.with(from, 10);
                x.points(to);
                String behind = "points(" + to + ") with " + from + " points";
                Due.state(behind, Stand.of(x), Stand.of(Stand.withPoints(to)));
                Due.answer("group(0) " + behind, x.group(0), 0);
                Due.answer("size(0) " + behind, x.size(0), 1);
                Due.answer("group(1) " + behind, x.group(1), 1);
                Due.answer("size(1) " + behind, x.size(1), Stand.turnsOf(to));
            }
        }
        TurnGroups x = new TurnGroups();
        x.points(8);
        x.points(4);
        Due.state("points(8) and points(4)", Stand.of(x), Stand.of(new TurnGroups()));
    }

    private static void pointsAnswerGroupsGone() {
        Due.by("points: how many GROUPS went");
        for (int groups = 0; groups <= 10; groups++) {
            TurnGroups x = Stand.with(4, groups);
            Due.answer("points(4) with " + groups + " groups", x.points(4), groups);
            Due.answer("points(8) at once", x.points(8), 0);
        }
        TurnGroups x = Stand.with(6, 10);
        x.group(0);
        x.undo();
        x.points(9);
        Due.answer("points(2) behind what was refused and what went", x.points(2), 9);
    }

    // ---- 3 .. 5: THE TURN

    private static void turnsOfTwoAndThree() {
        Due.by("turn: THE TURN becomes what is TOLD: 1. BAD: it is none of n POINTS");
        allTold(2, 0xFFF, 2);
        allTold(3, 0xFFFF, 6);
    }

    /** Every number up to one: just so many of them are turns. */
    private static void allTold(int n, int most, int turns) {
        TurnGroups x = Stand.withPoints(n);
        int taken = 0;
        for (int told = 0; told <= most; told++) {
            if (told % 150 == 0) {
                x = Stand.withPoints(n);
            }
            long before = x.told();
            int answer = x.turn(told);
            taken += answer == 1 ? 1 : 0;
            Due.turn("turn(" + told + ") of " + n + " points", x.told(), answer == 1 ? told : before);
        }
        Due.answer("how many turns of " + n + " points are taken", taken, turns);
    }

    private static void turnsLeastAndGreatest() {
        Due.by("A TURN is TOLD as a long: t(i) times 16^i, all together");
        for (int n = 2; n <= 8; n++) {
            TurnGroups x = Stand.withPoints(n);
            for (long told : new long[] {Stand.last(n), Stand.one(n), Stand.round(n, 1), Stand.swap(n, 0, n - 1)}) {
                Due.answer("turn", x.turn(told), 1);
                Due.turn("turn", x.told(), told);
                long together = 0;
                for (int i = n - 1; i >= 0; i--) {
                    together = together * 16 + x.to(i);
                }
                Due.turn("to(0) .. to(n - 1)", together, told);
            }
        }
        TurnGroups x = Stand.withPoints(8);
        Due.turn("points(8)", x.told(), 1985229328L);
        x.turn(19088743L);
        Due.turn("turn(19088743)", x.told(), 19088743L);
        x.points(2);
        Due.turn("points(2)", x.told(), 16);
        Due.answer("turn(1)", x.turn(1), 1);
        Due.turn("turn(1)", x.told(), 1);
    }

    private static void toEachPoint() {
        Due.by("to: Where THE TURN carries a POINT. BAD");
        for (int n = 2; n <= 8; n++) {
            TurnGroups x = Stand.withPoints(n);
            x.turn(Stand.last(n));
            Due.answer("to(0)", x.to(0), n - 1);
            Due.answer("to(n - 1)", x.to(n - 1), 0);
            for (int point = n; point <= 40; point++) {
                Due.answer("to(" + point + ") of " + n, x.to(point), BAD);
                Due.answer("to(-" + point + ") of " + n, x.to(-point), BAD);
            }
        }
    }

    // ---- 6 .. 10: turns one behind another

    private static void shelfPlaces() {
        Due.by("8 places of THE SHELF (0 .. 7)");
        for (int n = 2; n <= 8; n++) {
            for (int place = 0; place < 8; place++) {
                TurnGroups x = Stand.withPoints(n);
                x.turn(Stand.last(n));
                Due.answer("lay(" + place + ")", x.lay(place), 1);
                Due.turn("lay(" + place + ")", x.told(), Stand.last(n));
                for (int other = 0; other < 8; other++) {
                    Due.answer("take(" + other + ")", x.take(other), 1);
                    long want = other == place ? Stand.last(n) : Stand.one(n);
                    Due.turn("take(" + other + ")", x.told(), want);
                    x.turn(Stand.one(n));
                    Due.answer("then(" + other + ")", x.then(other), 1);
                    Due.turn("then(" + other + ")", x.told(), want);
                }
                Due.answer("take(8)", x.take(8), BAD);
                Due.answer("take(-1)", x.take(-1), BAD);
            }
        }
    }

    private static void thenOneAndItself() {
        Due.by("then: THE TURN becomes itself THEN that of a place: 1");
        for (int n = 2; n <= 8; n++) {
            TurnGroups x = Stand.withPoints(n);
            x.turn(Stand.round(n, 1));
            x.then(0);
            Due.turn("THEN ONE", x.told(), Stand.round(n, 1));
            x.lay(7);
            x.then(7);
            Due.turn("THEN itself", x.told(), Stand.round(n, 2));
            for (int k = 2; k < n; k++) {
                x.then(7);
            }
            Due.turn("n times round", x.told(), Stand.one(n));
            x.take(7);
            Due.turn("the place keeps its own", x.told(), Stand.round(n, 1));
        }
    }

    private static void backLeastAndGreatest() {
        Due.by("back: the least number above 0 of times that it must be done to be ONE");
        int[] greatest = {2, 3, 4, 6, 6, 12, 15};
        for (int n = 2; n <= 8; n++) {
            TurnGroups x = Stand.withPoints(n);
            Due.answer("back() of ONE", x.back(), 1);
            Due.turn("back() of ONE", x.told(), Stand.one(n));
            x.turn(Stand.round(n, 1));
            Due.answer("back() of a round", x.back(), n);
            Due.turn("back() of a round", x.told(), Stand.round(n, n - 1));
            x.turn(Stand.swap(n, 0, n - 1));
            Due.answer("back() of a swap", x.back(), 2);
            Due.turn("back() of a swap", x.told(), Stand.swap(n, 0, n - 1));
            Due.answer("greatest of back()", greatestBack(n), greatest[n - 2]);
        }
    }

    /** Over all turns of n points; an object is used for 400 calls alone. */
    private static int greatestBack(int n) {
        int greatest = 0;
        TurnGroups x = null;
        for (int k = 0; k < Stand.turnsOf(n); k++) {
            if (k % 200 == 0) {
                x = Stand.withPoints(n);
                x.group(1);
            }
            x.element(0, k);
            greatest = Math.max(greatest, x.back());
        }
        return greatest;
    }

    private static void powerAnyInt() {
        Due.by("power: itself done m times one behind another (below 0: BACK of it, -m times; any int)");
        int[] edges = {0, 1, -1, 2, -2, 15, -15, 16, -16, 31, 32, 255, 256, 65535, 65536, 1 << 30, -(1 << 30),
            Integer.MAX_VALUE, Integer.MAX_VALUE - 1, Integer.MIN_VALUE, Integer.MIN_VALUE + 1};
        for (int n = 2; n <= 8; n++) {
            for (int m : edges) {
                TurnGroups x = Stand.withPoints(n);
                int by = (int) Math.floorMod((long) m, (long) n);
                x.turn(Stand.round(n, 1));
                Due.answer("power(" + m + ") of a round of " + n, x.power(m), by == 0 ? 1 : 0);
                Due.turn("power(" + m + ") of a round of " + n, x.told(), Stand.round(n, by));
                x.turn(Stand.one(n));
                Due.answer("power(" + m + ") of ONE", x.power(m), 1);
                Due.turn("power(" + m + ") of ONE", x.told(), Stand.one(n));
            }
        }
    }

    private static void powerIsOneWhenDue() {
        Due.by("power: 1 if it is ONE then, else 0");
        // Rounds of 3 and 5 points: ONE behind 15 times.
        long turn = Stand.told(1, 2, 0, 4, 5, 6, 7, 3);
        for (int m = -32; m <= 32; m++) {
            TurnGroups x = Stand.withPoints(8);
            x.turn(turn);
            Due.answer("power(" + m + ")", x.power(m), m % 15 == 0 ? 1 : 0);
            int by = Math.floorMod(m, 3);
            int on = Math.floorMod(m, 5);
            Due.answer("to(0) behind power(" + m + ")", x.to(0), by);
            Due.answer("to(3) behind power(" + m + ")", x.to(3), 3 + on);
        }
        // 2147483647 is 7 and 2147483648 is 8 above a number that 15 divides.
        int[][] greatest = {{Integer.MAX_VALUE, 1, 5}, {Integer.MIN_VALUE, 1, 5}, {Integer.MIN_VALUE + 1, 2, 6}};
        for (int[] row : greatest) {
            TurnGroups x = Stand.withPoints(8);
            x.turn(turn);
            Due.answer("power(" + row[0] + ")", x.power(row[0]), 0);
            Due.answer("to(0) behind power(" + row[0] + ")", x.to(0), row[1]);
            Due.answer("to(3) behind power(" + row[0] + ")", x.to(3), row[2]);
        }
    }

    // ---- 11, 12: groups

    private static void groupNumbers() {
        Due.by("GROUPS are numbered from 0 as they are made, 10 at most");
        for (int way = 0; way <= 2; way++) {
            TurnGroups x = new TurnGroups();
            for (int k = 0; k < 10; k++) {
                Due.answer("group(" + way + ")", x.group(way), k);
                Due.answer("count(1)", x.count(1), k + 1);
            }
            Due.answer("group(" + way + ")", x.group(way), FULL);
            Due.answer("count(1)", x.count(1), 10);
        }
    }

    private static void groupWays() {
        Due.by("group: 0 that has ONE alone, 1 all TURNS, 2 all of an even number of TURNS that change two POINTS");
        for (int n = 2; n <= 8; n++) {
            TurnGroups x = Stand.withPoints(n);
            x.turn(Stand.last(n));
            for (int way = 0; way <= 2; way++) {
                x.group(way);
            }
            Due.answer("size(0)", x.size(0), 1);
            Due.answer("size(1)", x.size(1), Stand.turnsOf(n));
            Due.answer("size(2)", x.size(2), Stand.turnsOf(n) / 2);
            Due.turn("group", x.told(), Stand.last(n));
            Due.answer("has(1) of the last", x.has(1), 1);
            Due.answer("has(2) of the last", x.has(2), x.count(3));
        }
        TurnGroups x = Stand.withPoints(2);
        x.group(0);
        x.group(2);
        Due.answer("the even turns of two points are ONE alone", x.is(2, 0, 1), 1);
    }

    private static void addWhatItHas() {
        Due.by("add: A GROUP becomes the GROUP OF all of it and THE TURN: whether it had it (1, 0)");
        for (int n = 2; n <= 8; n++) {
            TurnGroups x = Stand.withPoints(n);
            x.group(0);
            x.group(1);
            Due.answer("add of ONE to ONE alone", x.add(0), 1);
            Due.answer("size(0)", x.size(0), 1);
            x.turn(Stand.last(n));
            Due.answer("add to all turns", x.add(1), 1);
            Due.answer("size(1)", x.size(1), Stand.turnsOf(n));
            Due.answer("add to ONE alone", x.add(0), 0);
            Due.answer("size(0)", x.size(0), 2);
            Due.answer("add once more", x.add(0), 1);
            Due.answer("size(0)", x.size(0), 2);
            Due.turn("add", x.told(), Stand.last(n));
        }
        TurnGroups x = Stand.withPoints(8);
        Stand.groupOf(x, Stand.swap(8, 0, 1), Stand.round(8, 1));
        Due.answer("a swap and a round make all", x.size(0), 40320);
    }

    private static void addWithTenGroups() {
        Due.by("add: A GROUP becomes ... BAD (and never FULL: no group is made)");
        for (int a = 0; a < 10; a++) {
            TurnGroups x = Stand.withPoints(8);
            for (int k = 0; k < 10; k++) {
                x.group(0);
            }
            x.turn(Stand.round(8, 1));
            Due.answer("add(" + a + ")", x.add(a), 0);
            for (int k = 0; k < 10; k++) {
                Due.answer("size(" + k + ") behind add(" + a + ")", x.size(k), k == a ? 8 : 1);
            }
            Due.answer("count(1)", x.count(1), 10);
        }
    }

    // ---- 13: of

    /** ONE alone, all turns, the even ones, one round, one swap: groups 0 .. 4. THE TURN is ONE. */
    private static TurnGroups withFive(int n) {
        TurnGroups x = Stand.withPoints(n);
        x.group(0);
        x.group(1);
        x.group(2);
        Stand.groupOf(x, Stand.round(n, 1));
        Stand.groupOf(x, Stand.swap(n, 0, 1));
        x.turn(Stand.one(n));
        return x;
    }

    private static void sameDue(TurnGroups x, String what, int a, int b) {
        Due.answer("is(2, " + a + ", " + b + "), as " + what, x.is(2, a, b), 1);
    }

    private static void joinEdges() {
        Due.by("JOIN of a, b: the GROUP OF all of both");
        for (int n = 2; n <= 8; n++) {
            for (int a = 0; a < 5; a++) {
                withOneItselfAndAll(n, 0, a, a, 1);
            }
        }
    }

    private static void meetEdges() {
        Due.by("MEET: TURNS that are in both");
        for (int n = 2; n <= 8; n++) {
            for (int a = 0; a < 5; a++) {
                withOneItselfAndAll(n, 1, a, 0, a);
            }
        }
    }

    /** JOIN or MEET of a with ONE alone, with itself and with all turns, either of the two first. */
    private static void withOneItselfAndAll(int n, int way, int a, int withOne, int withAll) {
        TurnGroups x = withFive(n);
        int[] others = {0, a, 1};
        int[] wants = {withOne, a, withAll};
        for (int k = 0; k < 3; k++) {
            Due.answer("of(" + way + ", ..)", x.of(way, a, others[k]), 5);
            sameDue(x, "of " + a + " and " + others[k], 5, wants[k]);
            Due.answer("of(" + way + ", ..)", x.of(way, others[k], a), 6);
            sameDue(x, "of " + others[k] + " and " + a, 6, wants[k]);
            x.undo();
            x.undo();
        }
    }

    private static void closedEdges() {
        Due.by("CLOSED by b: the GROUP OF all (BACK of s) THEN t THEN s, t in a, s in the GROUP OF all of both");
        for (int n = 2; n <= 8; n++) {
            TurnGroups x = withFive(n);
            for (int a = 0; a < 5; a++) {
                Due.answer("of(2, a, a)", x.of(2, a, a), 5);
                sameDue(x, "CLOSED of " + a + " by itself", 5, a);
                Due.answer("of(2, a, 0)", x.of(2, a, 0), 6);
                sameDue(x, "CLOSED of " + a + " by ONE alone", 6, a);
                Due.answer("of(2, 0, a)", x.of(2, 0, a), 7);
                sameDue(x, "CLOSED of ONE alone by " + a, 7, 0);
                Due.answer("of(2, 1, a)", x.of(2, 1, a), 8);
                sameDue(x, "CLOSED of all by " + a, 8, 1);
                for (int k = 0; k < 4; k++) {
                    x.undo();
                }
            }
            Due.answer("of(2, 4, 1)", x.of(2, 4, 1), 5);
            sameDue(x, "CLOSED of a swap by all", 5, 1);
            Due.answer("of(2, 2, 4)", x.of(2, 2, 4), 6);
            sameDue(x, "CLOSED of the even by a swap outside of them", 6, 2);
        }
    }

    // ---- 14: by

    private static void fixEdges() {
        Due.by("FIX by a SET: TURNS of a that carry each POINT of it to itself");
        for (int n = 2; n <= 8; n++) {
            int all = Stand.allPoints(n);
            TurnGroups x = withFive(n);
            for (int a = 0; a < 5; a++) {
                Due.answer("by(0, a, none)", x.by(0, a, 0), 5);
                sameDue(x, "FIX of " + a + " by no point", 5, a);
                Due.answer("by(0, a, all)", x.by(0, a, all), 6);
                sameDue(x, "FIX of " + a + " by all points", 6, 0);
                Due.answer("by(0, a, all but the last)", x.by(0, a, all >> 1), 7);
                sameDue(x, "FIX of " + a + " by all points but one", 7, 0);
                Due.answer("by(0, a, all but the first)", x.by(0, a, all - 1), 8);
                sameDue(x, "FIX of " + a + " by all points but one", 8, 0);
                for (int k = 0; k < 4; k++) {
                    x.undo();
                }
            }
            for (int k = 0; k <= n; k++) {
                Due.answer("by(0, 1, ..)", x.by(0, 1, (1 << k) - 1), 5);
                Due.answer("size of FIX by " + k + " points", x.size(5), Stand.turnsOf(n - k));
                x.undo();
            }
        }
    }

    private static void keepEdges() {
        Due.by("KEEP: TURNS of a that carry the SET to itself");
        for (int n = 2; n <= 8; n++) {
            int all = Stand.allPoints(n);
            TurnGroups x = withFive(n);
            for (int a = 0; a < 5; a++) {
                Due.answer("by(1, a, none)", x.by(1, a, 0), 5);
                sameDue(x, "KEEP of " + a + " of no point", 5, a);
                Due.answer("by(1, a, all)", x.by(1, a, all), 6);
                sameDue(x, "KEEP of " + a + " of all points", 6, a);
                x.by(1, a, 1 << n - 1);
                x.by(1, a, all >> 1);
                sameDue(x, "KEEP of " + a + " of one point and of all others", 7, 8);
                x.by(0, a, 1 << n - 1);
                sameDue(x, "KEEP of one point and FIX by it", 7, 9);
                Due.answer("by with ten groups", x.by(1, a, all), FULL);
                for (int k = 0; k < 5; k++) {
                    x.undo();
                }
            }
            for (int k = 0; k <= n; k++) {
                x.by(1, 1, (1 << k) - 1);
                Due.answer("size of KEEP of " + k, x.size(5), Stand.turnsOf(k) * Stand.turnsOf(n - k));
                x.undo();
            }
        }
    }

    // ---- 15: made

    private static void besideEdges() {
        Due.by("BESIDE: TURNS t of a for which t THEN THE TURN is THE TURN THEN t");
        for (int n = 2; n <= 8; n++) {
            TurnGroups x = withFive(n);
            for (int a = 0; a < 5; a++) {
                Due.answer("made(0, a)", x.made(0, a), 5);
                sameDue(x, "BESIDE of " + a + " with ONE at hand", 5, a);
                x.undo();
            }
            x.turn(Stand.round(n, 1));
            x.made(0, 1);
            sameDue(x, "BESIDE of all with a round at hand", 5, 3);
            x.made(0, 0);
            sameDue(x, "BESIDE of ONE alone", 6, 0);
            x.made(0, 4);
            Due.answer("BESIDE of a swap with a round that is not in it", x.size(7), n == 2 ? 2 : 1);
            Due.turn("made(0, ..)", x.told(), Stand.round(n, 1));
        }
    }

    private static void centreEdges() {
        Due.by("CENTRE: TURNS of a for which that is so with each TURN of a");
        for (int n = 2; n <= 8; n++) {
            TurnGroups x = withFive(n);
            x.made(1, 0);
            sameDue(x, "CENTRE of ONE alone", 5, 0);
            x.made(1, 1);
            sameDue(x, "CENTRE of all", 6, n == 2 ? 1 : 0);
            x.made(1, 2);
            sameDue(x, "CENTRE of the even", 7, n == 3 ? 2 : 0);
            x.made(1, 3);
            sameDue(x, "CENTRE of a round", 8, 3);
            x.made(1, 4);
            sameDue(x, "CENTRE of a swap", 9, 4);
            Due.answer("made with ten groups", x.made(1, 0), FULL);
        }
    }

    private static void carriedEdges() {
        Due.by("CARRIED: with p THE TURN, all (BACK of p) THEN t THEN p, t in a");
        for (int n = 2; n <= 8; n++) {
            TurnGroups x = withFive(n);
            for (int a = 0; a < 5; a++) {
                Due.answer("made(2, a)", x.made(2, a), 5);
                sameDue(x, "CARRIED of " + a + " by ONE", 5, a);
                x.undo();
            }
            x.turn(Stand.last(n));
            for (int a = 0; a < 3; a++) {
                x.made(2, a);
                sameDue(x, "CARRIED of " + a + ", which is normal", 5, a);
                x.undo();
            }
            x.made(2, 4);
            x.element(5, 1);
            Due.turn("the swap of the first two, CARRIED by the last", x.told(), Stand.swap(n, n - 2, n - 1));
        }
    }

    private static void downEdges() {
        Due.by("DOWN: the GROUP OF all (BACK of s) THEN (BACK of t) THEN s THEN t, s and t in a");
        int[] ofEven = {1, 1, 4, 60, 360, 2520, 20160};
        for (int n = 2; n <= 8; n++) {
            TurnGroups x = withFive(n);
            int[] sizes = {1, Stand.turnsOf(n) / 2, ofEven[n - 2], 1, 1};
            for (int a = 0; a < 5; a++) {
                Due.answer("made(3, a)", x.made(3, a), 5 + a);
                Due.answer("size of DOWN of " + a + " of " + n + " points", x.size(5 + a), sizes[a]);
            }
            sameDue(x, "DOWN of all and the even", 6, 2);
            Due.answer("made with ten groups", x.made(3, 0), FULL);
        }
    }

    /** Makes group 5 of group 1, so that both have all turns that keep the last point. */
    private static void makeAlike(TurnGroups x, int kind) {
        if (kind < 3) {
            x.of(kind, 5, 5);
        } else if (kind < 5) {
            x.by(kind - 3, 5, 0);
        } else {
            x.made(kind == 5 ? 0 : 2, 5);
        }
    }

    private static void whatIsMadeStandsAlone() {
        Due.by("add: A GROUP becomes (and no other does)");
        for (int kind = 0; kind < 7; kind++) {
            TurnGroups x = withFive(6);
            x.by(0, 1, 1 << 5);
            makeAlike(x, kind);
            sameDue(x, "made in way " + kind, 6, 5);
            x.turn(Stand.round(6, 1));
            Due.answer("add to what was made", x.add(6), 0);
            Due.answer("size of what it was made of", x.size(5), 120);
            Due.answer("size of what was made", x.size(6), 720);
            x.undo();
            x.turn(Stand.one(6));
            makeAlike(x, kind);
            x.turn(Stand.round(6, 1));
            Due.answer("add to what it was made of", x.add(5), 0);
            Due.answer("size of what was made", x.size(6), 120);
            Due.answer("size of what it was made of", x.size(5), 720);
        }
    }

    // ---- 16: undo

    private static void undoEdges() {
        Due.by("undo: The GROUP that came last goes: how many are left. NONE: there is none");
        for (int groups = 0; groups <= 10; groups++) {
            TurnGroups x = Stand.with(3, groups);
            for (int left = groups - 1; left >= 0; left--) {
                Due.answer("undo()", x.undo(), left);
                Due.answer("count(1)", x.count(1), left);
            }
            Due.answer("undo()", x.undo(), NONE);
            Due.answer("undo() again", x.undo(), NONE);
            Due.answer("count(1)", x.count(1), 0);
            Due.answer("group(1)", x.group(1), 0);
            Due.answer("undo()", x.undo(), 0);
            Due.answer("undo()", x.undo(), NONE);
        }
    }

    private static void undoneLeavesNothing() {
        Due.by("undo: The GROUP that came last goes (and what comes in its place has nothing of it)");
        for (int kind = 0; kind < 10; kind++) {
            TurnGroups x = Stand.withPoints(7);
            x.group(0);
            x.group(1);
            x.undo();
            Due.answer("a group in its place, of way " + kind, makeOfOne(x, kind), 1);
            Due.answer("size(1) of way " + kind, x.size(1), 1);
            x.turn(Stand.round(7, 1));
            Due.answer("has(1)", x.has(1), 0);
            Due.answer("add(1)", x.add(1), 0);
            Due.answer("size(1)", x.size(1), 7);
        }
    }

    /** A new group that is made of the first one, which has ONE alone, and so is the same. */
    private static int makeOfOne(TurnGroups x, int kind) {
        if (kind < 3) {
            return x.of(kind, 0, 0);
        }
        return kind < 5 ? x.by(kind - 3, 0, 1) : kind < 9 ? x.made(kind - 5, 0) : x.group(0);
    }

    // ---- 17 .. 19: size, has, is

    private static void sizeLeastAndGreatest() {
        Due.by("SIZE is how many TURNS a GROUP has");
        for (int n = 2; n <= 8; n++) {
            TurnGroups x = withFive(n);
            int[] sizes = {1, Stand.turnsOf(n), Stand.turnsOf(n) / 2, n, 2};
            for (int a = 0; a < 5; a++) {
                Due.answer("size(" + a + ")", x.size(a), sizes[a]);
            }
            Due.answer("size(5)", x.size(5), BAD);
            Due.answer("size(-1)", x.size(-1), BAD);
        }
    }

    private static void hasEdges() {
        Due.by("has: Whether THE TURN is in a (1, 0). BAD");
        for (int n = 2; n <= 8; n++) {
            TurnGroups x = withFive(n);
            for (int a = 0; a < 5; a++) {
                Due.answer("has(" + a + ") of ONE", x.has(a), 1);
            }
            x.turn(Stand.swap(n, n - 2, n - 1));
            int[] wants = {0, 1, 0, n == 2 ? 1 : 0, n == 2 ? 1 : 0};
            for (int a = 0; a < 5; a++) {
                Due.answer("has(" + a + ") of the last swap", x.has(a), wants[a]);
            }
            Due.answer("has(5)", x.has(5), BAD);
            Due.turn("has", x.told(), Stand.swap(n, n - 2, n - 1));
        }
    }

    private static void withinEdges() {
        Due.by("a is WITHIN b, if each of its TURNS is in b");
        for (int n = 2; n <= 8; n++) {
            TurnGroups x = withFive(n);
            for (int a = 0; a < 5; a++) {
                Due.answer("is(0, a, a)", x.is(0, a, a), 1);
                Due.answer("is(0, 0, a)", x.is(0, 0, a), 1);
                Due.answer("is(0, a, 1)", x.is(0, a, 1), 1);
                Due.answer("is(0, a, 0), a with " + x.size(a), x.is(0, a, 0), x.size(a) == 1 ? 1 : 0);
                Due.answer("is(0, 1, a), a with " + x.size(a), x.is(0, 1, a), x.size(a) == x.size(1) ? 1 : 0);
            }
        }
    }

    private static void normalEdges() {
        Due.by("NORMAL in b, if it is WITHIN b, and (BACK of s) THEN t THEN s is in a for each t of a, s of b");
        for (int n = 2; n <= 8; n++) {
            TurnGroups x = withFive(n);
            for (int a = 0; a < 5; a++) {
                Due.answer("is(1, a, a)", x.is(1, a, a), 1);
                Due.answer("is(1, 0, a)", x.is(1, 0, a), 1);
                Due.answer("is(1, 1, a), a with " + x.size(a), x.is(1, 1, a), x.size(a) == x.size(1) ? 1 : 0);
                Due.answer("is(1, a, 0), a with " + x.size(a), x.is(1, a, 0), x.size(a) == 1 ? 1 : 0);
            }
            Due.answer("the even in all", x.is(1, 2, 1), 1);
            Due.answer("a swap in all", x.is(1, 4, 1), n == 2 ? 1 : 0);
            Due.answer("a round in all", x.is(1, 3, 1), n <= 3 ? 1 : 0);
        }
        // Each turn of b carries a to itself, but a is not within b.
        TurnGroups x = Stand.withPoints(4);
        int a = Stand.groupOf(x, Stand.swap(4, 0, 1));
        int b = Stand.groupOf(x, Stand.swap(4, 2, 3));
        Due.answer("is(1, a, b), a not WITHIN b", x.is(1, a, b), 0);
        Due.answer("is(1, b, a), b not WITHIN a", x.is(1, b, a), 0);
    }

    private static void sameEdges() {
        Due.by("is: the same as b (2): 1, 0");
        for (int n = 2; n <= 8; n++) {
            TurnGroups x = withFive(n);
            for (int a = 0; a < 5; a++) {
                for (int b = 0; b < 5; b++) {
                    boolean within = x.is(0, a, b) == 1 && x.is(0, b, a) == 1;
                    Due.answer("is(2, " + a + ", " + b + ") of " + n, x.is(2, a, b), within ? 1 : 0);
                }
            }
        }
        // As many turns, but others; and the same turns, told by others.
        TurnGroups x = Stand.withPoints(8);
        int a = Stand.groupOf(x, Stand.swap(8, 0, 1));
        int b = Stand.groupOf(x, Stand.swap(8, 6, 7));
        Due.answer("two swaps", x.is(2, a, b), 0);
        int on = Stand.groupOf(x, Stand.round(8, 1));
        int back = Stand.groupOf(x, Stand.round(8, 2), Stand.round(8, 5));
        Due.answer("a round and its back", x.is(2, on, back), 1);
    }

    // ---- 20, 21: orbit, block

    private static void orbitEdges() {
        Due.by("THE ORBIT of a POINT: all POINTS to which TURNS of the GROUP carry it");
        for (int n = 2; n <= 8; n++) {
            int all = Stand.allPoints(n);
            TurnGroups x = withFive(n);
            for (int point = 0; point < n; point++) {
                Due.answer("orbit(0, " + point + ")", x.orbit(0, point), 1 << point);
                Due.answer("orbit(1, " + point + ")", x.orbit(1, point), all);
                Due.answer("orbit(2, " + point + ")", x.orbit(2, point), n == 2 ? 1 << point : all);
                Due.answer("orbit(3, " + point + ")", x.orbit(3, point), all);
                Due.answer("orbit(4, " + point + ")", x.orbit(4, point), point < 2 ? 3 : 1 << point);
            }
            Due.answer("orbit(1, n)", x.orbit(1, n), BAD);
            Due.answer("orbit(1, -1)", x.orbit(1, -1), BAD);
        }
    }

    private static void blockEdges() {
        Due.by("THE BLOCK of two POINTS: the least SET with both");
        for (int n = 2; n <= 8; n++) {
            int all = Stand.allPoints(n);
            for (int i = 0; i < n; i++) {
                TurnGroups x = withFive(n);
                for (int j = 0; j < n; j++) {
                    int both = 1 << i | 1 << j;
                    Due.answer("block(0, " + i + ", " + j + ")", x.block(0, i, j), both);
                    int want = i == j ? both : all;
                    Due.answer("block(1, " + i + ", " + j + ")", x.block(1, i, j), want);
                    // The even turns of three points and more carry any point to any, and two of them are ONE.
                    Due.answer("block(2, " + i + ", " + j + ")", x.block(2, i, j), n == 2 ? both : want);
                    Due.answer("block(3, " + i + ", " + j + ")", x.block(3, i, j), ofRound(n, i, j));
                    boolean oneMoves = i != j && (both & 3) != 0;
                    Due.answer("block(4, " + i + ", " + j + ")", x.block(4, i, j), oneMoves ? both | 3 : both);
                }
                Due.answer("block(1, " + i + ", n)", x.block(1, i, n), BAD);
                Due.answer("block(1, -1, " + i + ")", x.block(1, -1, i), BAD);
            }
        }
    }

    /** A round carries all points that stand a measure of n and of the way between both apart. */
    private static int ofRound(int n, int i, int j) {
        int step = n;
        for (int k = 1; k < n; k++) {
            if (i != j && n % k == 0 && (j - i) % k == 0) {
                step = k;
            }
        }
        int set = 0;
        for (int point = 0; point < n; point++) {
            set |= (point - i) % step == 0 ? 1 << point : 0;
        }
        return set;
    }

    private static void blockOfOneAndItself() {
        Due.by("block: THE BLOCK of two POINTS (also of one and itself), a SET");
        for (int n = 2; n <= 8; n++) {
            TurnGroups x = withFive(n);
            for (int a = 0; a < 5; a++) {
                for (int i = 0; i < n; i++) {
                    Due.answer("block(" + a + ", " + i + ", " + i + ")", x.block(a, i, i), 1 << i);
                }
                Due.answer("block(" + a + ", n, n)", x.block(a, n, n), BAD);
                Due.answer("block(" + a + ", -1, -1)", x.block(a, -1, -1), BAD);
            }
        }
    }

    // ---- 22, 23: steps, still

    private static void stepsEdges() {
        Due.by("STEPS: how often DOWN must be taken until it has ONE alone; NONE: it never has");
        int[] all = {1, 2, 3, NONE, NONE, NONE, NONE};
        int[] even = {0, 1, 2, NONE, NONE, NONE, NONE};
        for (int n = 2; n <= 8; n++) {
            TurnGroups x = withFive(n);
            int[] wants = {0, all[n - 2], even[n - 2], 1, 1};
            for (int a = 0; a < 5; a++) {
                Due.answer("steps(" + a + ") of " + n + " points", x.steps(a), wants[a]);
            }
        }
        // Groups that go down some steps, and then stand still with the even turns of five points.
        TurnGroups x = Stand.withPoints(8);
        int five = Stand.groupOf(x, Stand.told(1, 2, 3, 4, 0, 5, 6, 7), Stand.swap(8, 0, 1));
        int three = Stand.groupOf(x, Stand.swap(8, 5, 6), Stand.swap(8, 6, 7));
        int both = x.of(0, five, three);
        Due.answer("size of all of five and of three points", x.size(both), 720);
        Due.answer("steps of all of three points", x.steps(three), 2);
        Due.answer("steps of all of five and of three points", x.steps(both), NONE);
        // The changes of two points in four pairs, and all turns of the pairs.
        int pairs = Stand.groupOf(x, Stand.swap(8, 0, 1), Stand.told(2, 3, 0, 1, 4, 5, 6, 7),
            Stand.told(2, 3, 4, 5, 6, 7, 0, 1));
        goesDown(x, pairs, 384, 96, 32, 2, 1);
        x.points(8);
        // Rows of two numbers modulo 3, but for the row of noughts, and what carries sums to sums.
        int rows = Stand.groupOf(x, Stand.told(3, 7, 2, 6, 1, 5, 0, 4), Stand.told(2, 5, 0, 3, 6, 1, 4, 7));
        goesDown(x, rows, 48, 24, 8, 2, 1);
    }

    /** DOWN of what came of it has so many turns, the last time ONE alone. */
    private static void goesDown(TurnGroups x, int a, int... sizes) {
        Due.answer("steps(" + a + ")", x.steps(a), sizes.length - 1);
        int now = a;
        for (int size : sizes) {
            Due.answer("size of what came of DOWN", x.size(now), size);
            now = x.made(3, now);
        }
    }

    private static void stillEdges() {
        Due.by("still: STILL m (0 .. n)");
        int[] none = {1, 2, 9, 44, 265, 1854, 14833};
        for (int n = 2; n <= 8; n++) {
            TurnGroups x = withFive(n);
            Due.answer("still(1, 0)", x.still(1, 0), none[n - 2]);
            Due.answer("still(0, 0)", x.still(0, 0), 0);
            Due.answer("still(3, 0)", x.still(3, 0), n - 1);
            Due.answer("still(4, n - 2)", x.still(4, n - 2), 1);
            Due.answer("still(1, n - 2)", x.still(1, n - 2), n * (n - 1) / 2);
            for (int a = 0; a < 5; a++) {
                Due.answer("still(" + a + ", n)", x.still(a, n), 1);
                Due.answer("still(" + a + ", n - 1)", x.still(a, n - 1), 0);
                Due.answer("still(" + a + ", n + 1)", x.still(a, n + 1), BAD);
                Due.answer("still(" + a + ", -1)", x.still(a, -1), BAD);
                int sum = 0;
                for (int m = 0; m <= n; m++) {
                    sum += x.still(a, m);
                }
                Due.answer("all of still(" + a + ", ..)", sum, x.size(a));
            }
        }
    }

    // ---- 24 .. 26: element, place, carry

    private static void elementEdges() {
        Due.by("TURN k: the one of a which just k others of a are ahead of in ORDER. BAD: there are not so many");
        for (int n = 2; n <= 8; n++) {
            TurnGroups x = withFive(n);
            long[] lasts = {Stand.one(n), Stand.last(n), n % 4 < 2 ? Stand.last(n) : 0, Stand.round(n, n - 1),
                Stand.swap(n, 0, 1)};
            for (int a = 0; a < 5; a++) {
                int size = x.size(a);
                Due.answer("element(" + a + ", last)", x.element(a, size - 1), 1);
                if (lasts[a] != 0) {
                    Due.turn("element(" + a + ", last)", x.told(), lasts[a]);
                }
                long before = x.told();
                Due.answer("element(" + a + ", size)", x.element(a, size), BAD);
                Due.answer("element(" + a + ", -1)", x.element(a, -1), BAD);
                Due.turn("element(" + a + ", size)", x.told(), before);
                Due.answer("element(" + a + ", 0)", x.element(a, 0), 1);
                Due.turn("element(" + a + ", 0)", x.told(), Stand.one(n));
            }
            x.element(1, 1);
            Due.turn("element(1, 1)", x.told(), Stand.swap(n, n - 2, n - 1));
        }
    }

    private static void placeEdges() {
        Due.by("PLACE: how many of a are ahead of THE TURN");
        for (int n = 2; n <= 8; n++) {
            TurnGroups x = withFive(n);
            for (int a = 0; a < 5; a++) {
                x.turn(Stand.one(n));
                Due.answer("place(" + a + ") of ONE", x.place(a), 0);
                x.element(a, x.size(a) - 1);
                Due.answer("place(" + a + ") of its last", x.place(a), x.size(a) - 1);
                x.element(a, x.size(a) / 2);
                Due.answer("place(" + a + ") of its middle", x.place(a), x.size(a) / 2);
            }
            Due.answer("place(5)", x.place(5), BAD);
            Due.answer("place(-1)", x.place(-1), BAD);
        }
    }

    private static void placeOfTurnsOutside() {
        Due.by("PLACE: how many of a are ahead of THE TURN (which need not be in a)");
        for (int n = 2; n <= 8; n++) {
            TurnGroups x = withFive(n);
            x.turn(Stand.last(n));
            for (int a = 0; a < 5; a++) {
                int behind = x.has(a) == 1 ? x.size(a) - 1 : x.size(a);
                Due.answer("place(" + a + ") of the last of all", x.place(a), behind);
            }
            Due.turn("place", x.told(), Stand.last(n));
            // The first that is not ONE: behind ONE alone.
            x.turn(Stand.swap(n, n - 2, n - 1));
            for (int a = 0; a < 5; a++) {
                Due.answer("place(" + a + ") of the second of all", x.place(a), 1);
            }
        }
        TurnGroups x = Stand.withPoints(3);
        int a = Stand.groupOf(x, Stand.round(3, 1));
        long[] order = {0x210, 0x120, 0x201, 0x021, 0x102, 0x012};
        int[] places = {0, 1, 1, 1, 2, 3};
        for (int k = 0; k < 6; k++) {
            x.turn(order[k]);
            Due.answer("place of turn " + k, x.place(a), places[k]);
        }
    }

    private static void carryEdges() {
        Due.by("carry: The first TURN of a in ORDER that carries SET one to SET two becomes THE TURN: 1");
        for (int n = 2; n <= 8; n++) {
            int all = Stand.allPoints(n);
            for (int a = 0; a < 5; a++) {
                TurnGroups x = withFive(n);
                for (int set : new int[] {0, 1, 1 << n - 1, all - 1, all >> 1, all}) {
                    x.turn(Stand.last(n));
                    Due.answer("carry(" + a + ", " + set + ", " + set + ")", x.carry(a, set, set), 1);
                    Due.turn("carry to itself", x.told(), Stand.one(n));
                }
                x.turn(Stand.last(n));
                Due.answer("carry(" + a + ", none, all)", x.carry(a, 0, all), NONE);
                Due.answer("carry(" + a + ", all, none)", x.carry(a, all, 0), NONE);
                Due.answer("carry(" + a + ", all, 2^n)", x.carry(a, all, all + 1), BAD);
                Due.answer("carry(" + a + ", -1, -1)", x.carry(a, -1, -1), BAD);
                Due.turn("carry that finds none", x.told(), Stand.last(n));
            }
            TurnGroups x = withFive(n);
            Due.answer("carry of the first to the last", x.carry(3, 1, 1 << n - 1), 1);
            Due.turn("carry of the first to the last", x.told(), Stand.round(n, n - 1));
            Due.answer("carry of the last to the first", x.carry(3, 1 << n - 1, 1), 1);
            Due.turn("carry of the last to the first", x.told(), Stand.round(n, 1));
        }
    }

    // ---- 27: count, and all

    private static void countEdges() {
        Due.by("count: 0 POINTS, 1 GROUPS, 2 how many POINTS THE TURN carries to themselves, 3 whether it is even");
        for (int n = 2; n <= 8; n++) {
            TurnGroups x = Stand.withPoints(n);
            long[] turns = {Stand.one(n), Stand.swap(n, 0, n - 1), Stand.swap(n, 0, 1), Stand.round(n, 1)};
            int[] left = {n, n - 2, n - 2, 0};
            int[] even = {1, 0, 0, n % 2};
            for (int k = 0; k < 4; k++) {
                x.turn(turns[k]);
                Due.answer("count(0)", x.count(0), n);
                Due.answer("count(1)", x.count(1), k);
                Due.answer("count(2)", x.count(2), left[k]);
                Due.answer("count(3)", x.count(3), even[k]);
                Due.answer("count(4)", x.count(4), BAD);
                Due.answer("count(-1)", x.count(-1), BAD);
                x.group(0);
            }
        }
    }

    private static void askingChangesNothing() {
        Due.by("size .. count: asked (and but for element and carry nothing changes)");
        for (int n = 2; n <= 8; n++) {
            String before = Stand.of(Stand.with(n, 10));
            for (int a = 0; a < 10; a++) {
                TurnGroups x = Stand.with(n, 10);
                x.size(a);
                x.has(a);
                x.steps(a);
                x.place(a);
                x.told();
                for (int k = 0; k < n; k++) {
                    x.to(k);
                    x.orbit(a, k);
                    x.block(a, k, n - 1 - k);
                    x.still(a, k);
                    x.count(k);
                }
                for (int way = 0; way <= 2; way++) {
                    x.is(way, a, 9 - a);
                }
                Due.state("what was asked of group " + a, Stand.of(x), before);
            }
        }
    }

    private static void lastOf512Calls() {
        Due.by("An object is used for at most 512 calls after it has been made");
        manyOf("turn", x -> x.turn(Stand.last(8)), 1);
        manyOf("told()", x -> (int) x.told(), (int) Stand.round(8, 1));
        manyOf("to(7)", x -> x.to(7), 0);
        manyOf("lay(7)", x -> x.lay(7), 1);
        manyOf("take(7)", x -> x.take(7), 1);
        manyOf("then(7)", x -> x.then(7), 1);
        manyOf("back()", x -> x.back(), 8);
        manyOf("power(-1)", x -> x.power(-1), 0);
        manyOf("group(3)", x -> x.group(3), BAD);
        manyOf("add(3)", x -> x.add(3), 1);
        manyOf("size(1)", x -> x.size(1), 40320);
        manyOf("has(3)", x -> x.has(3), 1);
        manyOf("is(1, 2, 1)", x -> x.is(1, 2, 1), 1);
        manyOf("orbit(3, 0)", x -> x.orbit(3, 0), 255);
        manyOf("block(3, 0, 4)", x -> x.block(3, 0, 4), 0x11);
        manyOf("steps(1)", x -> x.steps(1), NONE);
        manyOf("still(1, 0)", x -> x.still(1, 0), 14833);
        manyOf("element(1, 40319)", x -> x.element(1, 40319), 1);
        manyOf("place(3)", x -> x.place(3), 1);
        manyOf("carry(1, 15, 240)", x -> x.carry(1, 15, 240), 1);
        manyOf("count(2)", x -> x.count(2), 0);
        for (int kind = 0; kind < 10; kind++) {
            TurnGroups x = withFive(8);
            // The 11 calls of withFive, 249 times two, and three.
            for (int k = 0; k < 249; k++) {
                Due.answer("a group of way " + kind, makeOfOne(x, kind), 5);
                Due.answer("undo()", x.undo(), 5);
            }
            Due.answer("call 510", makeOfOne(x, kind), 5);
            Due.answer("call 511", x.size(5), 1);
            Due.answer("call 512", x.undo(), 5);
        }
        TurnGroups x = new TurnGroups();
        for (int k = 0; k < 512; k++) {
            Due.answer("points, time and again", x.points(2 + k % 7), 0);
        }
    }

    private interface Call {
        int on(TurnGroups x);
    }

    private static void manyOf(String name, Call call, int want) {
        TurnGroups x = Stand.withPoints(8);
        x.group(0);
        x.group(1);
        x.group(2);
        Stand.groupOf(x, Stand.round(8, 1));
        for (int k = 8; k <= 512; k++) {
            Due.answer(name + " as call " + k, call.on(x), want);
        }
    }
}
