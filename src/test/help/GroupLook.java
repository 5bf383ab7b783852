import java.util.Arrays;
import java.util.BitSet;
import java.util.HashMap;
import java.util.List;
import java.util.Map;

/** Every call on one group or two, with every TURN, SET and POINT: what is due comes of ByWords. */
final class GroupLook {
    /** Of groups made of groups of so few points all turns are read, of others the size and makers. */
    private static final int MOST_POINTS_READ = 4;
    private static final int MOST_POINTS_OF_ALL_SETS = 5;
    /** What an object answers beyond these is free. */
    private static final int CALLS = 512;

    private final ByWords words;
    private final Turns turns;
    private final int n;
    /** BESIDE, CARRIED and add are looked at with one of so many TURNS. */
    private final int step;
    private final Map<BitSet, List<Integer>> makers = new HashMap<>();
    /** The groups of the object at hand, by their numbers in it. */
    private List<BitSet> standing = List.of();
    private TurnGroups x = new TurnGroups();
    private int callsLeft;

    GroupLook(ByWords words, int step) {
        this.words = words;
        this.turns = words.turns;
        this.n = turns.n;
        this.step = step;
    }

    // ---- objects of at most 512 calls

    private void stand(BitSet... with) {
        standing = List.of(with);
        standAnew();
    }

    private void standAnew() {
        x = new TurnGroups();
        x.points(n);
        callsLeft = CALLS - 1;
        for (int a = 0; a < standing.size(); a++) {
            x.group(0);
            callsLeft--;
            List<Integer> few = makersOf(standing.get(a));
            for (int k = 0; k < few.size(); k++) {
                // One way round or the other, so that not all are made from the first turns on.
                int t = few.get(a % 2 == 0 ? k : few.size() - 1 - k);
                x.turn(turns.told(t));
                x.add(a);
                callsLeft -= 2;
            }
        }
    }

    /** Each group comes time and again. */
    private List<Integer> makersOf(BitSet group) {
        return makers.computeIfAbsent(group, words::makersOf);
    }

    /** What is called next needs so many calls at most, and the groups that stand and no others. */
    private TurnGroups with(int calls) {
        if (callsLeft < calls) {
            standAnew();
        }
        callsLeft -= calls;
        return x;
    }

    /** The text is made only of what is wrong: most is not. */
    private void due(String call, long with, long got, long want) {
        if (got != want) {
            Due.answer(call + " with " + with + ", " + n + " points, groups of " + standingTold(), got, want);
        }
    }

    /** A few turns of which each group that stands is made, by sixteens. */
    private String standingTold() {
        StringBuilder text = new StringBuilder();
        for (BitSet group : standing) {
            text.append('[');
            for (int t : makersOf(group)) {
                text.append(' ').append(Long.toHexString(turns.told(t)));
            }
            text.append(" ]");
        }
        return text.toString();
    }

    private void turnDue(String call, long with, int t) {
        due("told() behind " + call, with, x.told(), turns.told(t));
    }

    /** The group that came last is the one that is due; it goes then. */
    private void groupDue(String call, long with, int number, BitSet want) {
        int last = standing.size();
        due(call, with, number, last);
        due("size behind " + call, with, x.size(last), want.cardinality());
        if (n <= MOST_POINTS_READ) {
            int k = 0;
            for (int t = want.nextSetBit(0); t >= 0; t = want.nextSetBit(t + 1)) {
                x.element(last, k);
                turnDue("element of " + call, with, t);
                k++;
            }
        } else {
            for (int t : makersOf(want)) {
                x.turn(turns.told(t));
                due("has behind " + call, with, x.has(last), 1);
            }
        }
        due("undo() behind " + call, with, x.undo(), last);
    }

    /** At most so many calls make, read and undo a group. */
    private int callsOfOne() {
        return 4 + (n <= MOST_POINTS_READ ? 2 * turns.rows.length : 16);
    }

    // ---- one group

    void lookAt(BitSet group) {
        stand(group);
        sizeHasPlace(group);
        elements(group);
        pointsAndStill(group);
        carries(group);
        bySets(group);
        made(group);
        besideAndCarried(group);
        adds(group);
    }

    private void sizeHasPlace(BitSet group) {
        Due.by("SIZE is how many TURNS a GROUP has");
        due("size", 0, with(1).size(0), group.cardinality());
        int ahead = 0;
        for (int t = 0; t < turns.rows.length; t++) {
            TurnGroups y = with(3);
            y.turn(turns.told(t));
            Due.by("has: Whether THE TURN is in a");
            due("has", t, y.has(0), group.get(t) ? 1 : 0);
            Due.by("PLACE: how many of a are ahead of THE TURN (which need not be in a)");
            due("place", t, y.place(0), ahead);
            ahead += group.get(t) ? 1 : 0;
        }
    }

    private void elements(BitSet group) {
        Due.by("TURN k: the one of a which just k others of a are ahead of in ORDER");
        int k = 0;
        for (int t = group.nextSetBit(0); t >= 0; t = group.nextSetBit(t + 1)) {
            due("element", k, with(2).element(0, k), 1);
            turnDue("element", k, t);
            k++;
        }
        due("element", k, with(1).element(0, k), TurnGroups.BAD);
    }

    private void pointsAndStill(BitSet group) {
        for (int i = 0; i < n; i++) {
            Due.by("THE ORBIT of a POINT: all POINTS to which TURNS of the GROUP carry it");
            due("orbit", i, with(1).orbit(0, i), words.orbit(group, i));
            Due.by("THE BLOCK of two POINTS: the least SET with both that each TURN of the GROUP carries to itself, "
                + "or to a SET that has no POINT of it");
            for (int j = 0; j < n; j++) {
                due("block", 10 * i + j, with(1).block(0, i, j), words.block(group, i, j));
            }
        }
        Due.by("STILL m: how many TURNS of a carry just m POINTS to themselves");
        for (int m = 0; m <= n; m++) {
            due("still", m, with(1).still(0, m), words.still(group, m));
        }
    }

    private void carries(BitSet group) {
        Due.by("carry: The first TURN of a in ORDER that carries SET one to SET two becomes THE TURN: 1; NONE: there is "
            + "none (THE TURN stays)");
        for (int one = 0; one < 1 << n; one++) {
            int[] first = firstThatCarry(group, one);
            for (int two = 0; two < 1 << n; two++) {
                // The SETS of other numbers of points, for which there is none, are too many.
                if (n <= MOST_POINTS_OF_ALL_SETS || Integer.bitCount(one) == Integer.bitCount(two)) {
                    TurnGroups y = with(3);
                    y.turn(turns.told(turns.rows.length - 1));
                    due("carry", 100 * one + two, y.carry(0, one, two), first[two] < 0 ? TurnGroups.NONE : 1);
                    turnDue("carry", 100 * one + two, first[two] < 0 ? turns.rows.length - 1 : first[two]);
                }
            }
        }
    }

    /** For each SET the first turn that carries a SET to it, or -1. */
    private int[] firstThatCarry(BitSet group, int one) {
        int[] first = new int[1 << n];
        Arrays.fill(first, -1);
        for (int t = group.nextSetBit(0); t >= 0; t = group.nextSetBit(t + 1)) {
            int two = turns.imageOfSet(t, one);
            first[two] = first[two] < 0 ? t : first[two];
        }
        return first;
    }

    private void bySets(BitSet group) {
        for (int set = 0; set < 1 << n; set++) {
            Due.by("FIX by a SET: TURNS of a that carry each POINT of it to itself");
            groupDue("FIX", set, with(callsOfOne()).by(0, 0, set), words.fix(group, set));
            Due.by("KEEP: TURNS of a that carry the SET to itself");
            groupDue("KEEP", set, with(callsOfOne()).by(1, 0, set), words.keep(group, set));
        }
    }

    private void made(BitSet group) {
        Due.by("CENTRE: TURNS of a for which that is so with each TURN of a");
        groupDue("CENTRE", 0, with(callsOfOne()).made(1, 0), words.centre(group));
        Due.by("DOWN: the GROUP OF all (BACK of s) THEN (BACK of t) THEN s THEN t, s and t in a");
        groupDue("DOWN", 0, with(callsOfOne()).made(3, 0), words.down(group));
        Due.by("STEPS: how often DOWN must be taken (of what came of it) until it has ONE alone; NONE: it never has");
        due("steps", 0, with(1).steps(0), words.steps(group));
    }

    private void besideAndCarried(BitSet group) {
        for (int t = group.cardinality() % step; t < turns.rows.length; t += step) {
            Due.by("BESIDE: TURNS t of a for which t THEN THE TURN is THE TURN THEN t");
            groupDue("BESIDE", t, besideOrCarried(0, t), words.beside(group, t));
            Due.by("CARRIED: with p THE TURN, all (BACK of p) THEN t THEN p, t in a");
            groupDue("CARRIED", t, besideOrCarried(2, t), words.carried(group, t));
        }
    }

    private int besideOrCarried(int way, int t) {
        TurnGroups y = with(1 + callsOfOne());
        y.turn(turns.told(t));
        return y.made(way, 0);
    }

    private void adds(BitSet group) {
        Due.by("add: A GROUP becomes the GROUP OF all of it and THE TURN: whether it had it (1, 0)");
        for (int t = group.cardinality() % step; t < turns.rows.length; t += step) {
            TurnGroups y = with(2 + callsOfOne());
            int copy = y.by(0, 0, 0);
            y.turn(turns.told(t));
            due("add", t, y.add(copy), group.get(t) ? 1 : 0);
            groupDue("add", t, copy, words.join(group, ByWords.only(t)));
        }
    }

    // ---- two groups

    void lookAtTwo(BitSet a, BitSet b) {
        stand(a, b);
        Due.by("JOIN of a, b: the GROUP OF all of both");
        groupDue("JOIN", 0, with(callsOfOne()).of(0, 0, 1), words.join(a, b));
        Due.by("MEET: TURNS that are in both");
        groupDue("MEET", 0, with(callsOfOne()).of(1, 0, 1), ByWords.meet(a, b));
        Due.by("CLOSED by b: the GROUP OF all (BACK of s) THEN t THEN s, t in a, s in the GROUP OF all of both");
        groupDue("CLOSED", 0, with(callsOfOne()).of(2, 0, 1), words.closed(a, b));
        Due.by("a is WITHIN b, if each of its TURNS is in b");
        due("is WITHIN", 0, with(1).is(0, 0, 1), ByWords.within(a, b) ? 1 : 0);
        Due.by("NORMAL in b, if it is WITHIN b, and (BACK of s) THEN t THEN s is in a for each t of a, s of b");
        due("is NORMAL", 0, with(1).is(1, 0, 1), words.normal(a, b) ? 1 : 0);
        Due.by("is: the same as b (2): 1, 0");
        due("is the same", 0, with(1).is(2, 0, 1), a.equals(b) ? 1 : 0);
    }
}
