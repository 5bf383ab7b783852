import java.util.ArrayList;
import java.util.Arrays;
import java.util.BitSet;
import java.util.List;

/** The document's object, kept plainly: each group is the set of all its turns. */
final class Model {
    private static final int NONE = -1;
    private static final int BAD = -2;
    private static final int FULL = -3;
    private static final Turns[] OF = new Turns[9];

    final List<BitSet> groups = new ArrayList<>();
    final int[] shelf = new int[8];
    private final long mostPairs;
    int n;
    ByWords words;
    Turns turns;
    /** The number of THE TURN. */
    int now;

    Model(long mostPairs) {
        this.mostPairs = mostPairs;
        points(4);
    }

    int points(int n) {
        if (n < 2 || n > 8) {
            return BAD;
        }
        int gone = groups.size();
        groups.clear();
        if (OF[n] == null) {
            OF[n] = new Turns(n);
        }
        this.n = n;
        turns = OF[n];
        words = new ByWords(turns, mostPairs);
        now = 0;
        Arrays.fill(shelf, 0);
        return gone;
    }

    private boolean noGroup(int a) {
        return a < 0 || a >= groups.size();
    }

    private boolean noPoint(int point) {
        return point < 0 || point >= n;
    }

    private boolean noSet(int set) {
        return set < 0 || set >= 1 << n;
    }

    private static boolean outside(int number, int most) {
        return number < 0 || number > most;
    }

    private boolean isFull() {
        return groups.size() == 10;
    }

    private static int truth(boolean so) {
        return so ? 1 : 0;
    }

    // ---- turns

    int turn(long told) {
        int t = turns.ofTold(told);
        if (t < 0) {
            return BAD;
        }
        now = t;
        return 1;
    }

    long told() {
        return turns.told(now);
    }

    int to(int point) {
        return noPoint(point) ? BAD : turns.rows[now][point];
    }

    int lay(int place) {
        if (outside(place, 7)) {
            return BAD;
        }
        shelf[place] = now;
        return 1;
    }

    int take(int place) {
        if (outside(place, 7)) {
            return BAD;
        }
        now = shelf[place];
        return 1;
    }

    int then(int place) {
        if (outside(place, 7)) {
            return BAD;
        }
        now = turns.then(now, shelf[place]);
        return 1;
    }

    int back() {
        int times = turns.timesToOne(now);
        now = turns.back(now);
        return times;
    }

    int power(int m) {
        long times = Math.floorMod((long) m, (long) turns.timesToOne(now));
        int done = 0;
        for (long k = 0; k < times; k++) {
            done = turns.then(done, now);
        }
        now = done;
        return truth(now == 0);
    }

    // ---- groups

    private int come(BitSet group) {
        groups.add(group);
        return groups.size() - 1;
    }

    int group(int way) {
        if (outside(way, 2)) {
            return BAD;
        }
        if (isFull()) {
            return FULL;
        }
        return come(way == 0 ? words.groupOf(new BitSet()) : way == 1 ? words.all() : words.even());
    }

    int add(int a) {
        if (noGroup(a)) {
            return BAD;
        }
        if (groups.get(a).get(now)) {
            return 1;
        }
        BitSet all = (BitSet) groups.get(a).clone();
        all.set(now);
        groups.set(a, words.groupOf(all));
        return 0;
    }

    int of(int way, int a, int b) {
        if (outside(way, 2) || noGroup(a) || noGroup(b)) {
            return BAD;
        }
        if (isFull()) {
            return FULL;
        }
        BitSet one = groups.get(a);
        BitSet two = groups.get(b);
        return come(way == 0 ? words.join(one, two) : way == 1 ? ByWords.meet(one, two) : words.closed(one, two));
    }

    int by(int way, int a, int set) {
        if (outside(way, 1) || noGroup(a) || noSet(set)) {
            return BAD;
        }
        if (isFull()) {
            return FULL;
        }
        return come(way == 0 ? words.fix(groups.get(a), set) : words.keep(groups.get(a), set));
    }

    int made(int way, int a) {
        if (outside(way, 3) || noGroup(a)) {
            return BAD;
        }
        if (isFull()) {
            return FULL;
        }
        BitSet one = groups.get(a);
        if (way == 0) {
            return come(words.beside(one, now));
        }
        return come(way == 1 ? words.centre(one) : way == 2 ? words.carried(one, now) : words.down(one));
    }

    int undo() {
        if (groups.isEmpty()) {
            return NONE;
        }
        groups.remove(groups.size() - 1);
        return groups.size();
    }

    // ---- asked

    int size(int a) {
        return noGroup(a) ? BAD : groups.get(a).cardinality();
    }

    int has(int a) {
        return noGroup(a) ? BAD : truth(groups.get(a).get(now));
    }

    int is(int way, int a, int b) {
        if (outside(way, 2) || noGroup(a) || noGroup(b)) {
            return BAD;
        }
        BitSet one = groups.get(a);
        BitSet two = groups.get(b);
        return truth(way == 0 ? ByWords.within(one, two) : way == 1 ? words.normal(one, two) : one.equals(two));
    }

    int orbit(int a, int point) {
        return noGroup(a) || noPoint(point) ? BAD : words.orbit(groups.get(a), point);
    }

    int block(int a, int i, int j) {
        return noGroup(a) || noPoint(i) || noPoint(j) ? BAD : words.block(groups.get(a), i, j);
    }

    int steps(int a) {
        return noGroup(a) ? BAD : words.steps(groups.get(a));
    }

    int still(int a, int m) {
        return noGroup(a) || outside(m, n) ? BAD : words.still(groups.get(a), m);
    }

    int element(int a, int k) {
        if (noGroup(a) || k < 0 || k >= groups.get(a).cardinality()) {
            return BAD;
        }
        int t = groups.get(a).nextSetBit(0);
        for (int ahead = 0; ahead < k; ahead++) {
            t = groups.get(a).nextSetBit(t + 1);
        }
        now = t;
        return 1;
    }

    int place(int a) {
        return noGroup(a) ? BAD : groups.get(a).get(0, now).cardinality();
    }

    int carry(int a, int one, int two) {
        if (noGroup(a) || noSet(one) || noSet(two)) {
            return BAD;
        }
        int first = words.firstThatCarries(groups.get(a), one, two);
        if (first < 0) {
            return NONE;
        }
        now = first;
        return 1;
    }

    int count(int what) {
        switch (what) {
            case 0:
                return n;
            case 1:
                return groups.size();
            case 2:
                return turns.left(now);
            case 3:
                return truth(turns.even(now));
            default:
                return BAD;
        }
    }
}
