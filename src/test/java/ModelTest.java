import java.util.ArrayList;
import java.util.BitSet;
import java.util.List;
import java.util.Random;

/**
 * Long runs of calls against a model that keeps each group as the set of all its turns and answers
 * by the document's words, turn by turn, but for MOST_PAIRS. Arguments: the first run's number, how
 * many runs.
 */
public final class ModelTest {
    private static final int CALLS = 512;
    /** Above so many pairs of turns the model takes a few turns that make the group for all of it. */
    private static final long MOST_PAIRS = 600_000;

    public static void main(String[] args) {
        int first = args.length > 0 ? Integer.parseInt(args[0]) : 1;
        int runs = args.length > 1 ? Integer.parseInt(args[1]) : 100;
        int wrong = 0;
        for (int run = first; run < first + runs && wrong < 10; run++) {
            if (!new Run(run).isAsDue()) {
                wrong++;
            }
        }
        System.out.println(wrong == 0 ? runs + " runs are as due" : wrong + " runs are not as due");
        if (wrong != 0) {
            System.exit(1);
        }
    }

    /** All turns of n points in order; a turn is its number there. */
    private static final class Turns {
        final int n;
        final int[][] rows;

        Turns(int n) {
            this.n = n;
            List<int[]> found = new ArrayList<>();
            fill(new int[n], 0, 0, found);
            rows = found.toArray(new int[0][]);
        }

        private void fill(int[] row, int at, int used, List<int[]> found) {
            if (at == n) {
                found.add(row.clone());
                return;
            }
            for (int point = 0; point < n; point++) {
                if ((used >> point & 1) == 0) {
                    row[at] = point;
                    fill(row, at + 1, used | 1 << point, found);
                }
            }
        }

        int number(int[] row) {
            int number = 0;
            for (int i = 0; i < n; i++) {
                int lower = 0;
                for (int j = i + 1; j < n; j++) {
                    if (row[j] < row[i]) {
                        lower++;
                    }
                }
                number = number * (n - i) + lower;
            }
            return number;
        }

        int then(int s, int t) {
            int[] row = new int[n];
            for (int i = 0; i < n; i++) {
                row[i] = rows[t][rows[s][i]];
            }
            return number(row);
        }

        int back(int t) {
            int[] row = new int[n];
            for (int i = 0; i < n; i++) {
                row[rows[t][i]] = i;
            }
            return number(row);
        }

        int carried(int t, int s) {
            return then(then(back(s), t), s);
        }

        int imageOfSet(int t, int set) {
            int images = 0;
            for (int i = 0; i < n; i++) {
                if ((set >> i & 1) == 1) {
                    images |= 1 << rows[t][i];
                }
            }
            return images;
        }

        int left(int t) {
            int left = 0;
            for (int i = 0; i < n; i++) {
                left += rows[t][i] == i ? 1 : 0;
            }
            return left;
        }

        /** A round of points, each carried to the next, is made of one swap less than it has points. */
        boolean even(int t) {
            int seen = 0;
            int swaps = 0;
            for (int i = 0; i < n; i++) {
                int length = 0;
                for (int at = i; (seen >> at & 1) == 0; at = rows[t][at]) {
                    seen |= 1 << at;
                    length++;
                }
                swaps += Math.max(0, length - 1);
            }
            return swaps % 2 == 0;
        }

        long told(int t) {
            long told = 0;
            for (int i = n - 1; i >= 0; i--) {
                told = told * 16 + rows[t][i];
            }
            return told;
        }

        /** The number of the turn that is told, or -1. */
        int ofTold(long told) {
            int[] row = new int[n];
            int used = 0;
            long rest = told;
            for (int i = 0; i < n; i++) {
                row[i] = (int) (rest & 15);
                rest >>>= 4;
                if (row[i] >= n || (used >> row[i] & 1) == 1) {
                    return -1;
                }
                used |= 1 << row[i];
            }
            return rest == 0 ? number(row) : -1;
        }
    }

    /** The document's object, kept plainly. */
    private static final class Model {
        static final Turns[] OF = new Turns[9];
        final List<BitSet> groups = new ArrayList<>();
        final int[] shelf = new int[8];
        int n;
        Turns turns;
        int now;

        Model() {
            points(4);
        }

        int points(int n) {
            if (n < 2 || n > 8) {
                return -2;
            }
            int gone = groups.size();
            groups.clear();
            if (OF[n] == null) {
                OF[n] = new Turns(n);
            }
            this.n = n;
            turns = OF[n];
            now = 0;
            java.util.Arrays.fill(shelf, 0);
            return gone;
        }

        private boolean noGroup(int a) {
            return a < 0 || a >= groups.size();
        }

        private boolean noPoint(int point) {
            return point < 0 || point >= n;
        }

        private boolean noSet(int set) {
            return set < 0 || set >= 1 << n;
        }

        private static boolean outside(int number, int most) {
            return number < 0 || number > most;
        }

        int turn(long told) {
            int t = turns.ofTold(told);
            if (t < 0) {
                return -2;
            }
            now = t;
            return 1;
        }

        int to(int point) {
            return noPoint(point) ? -2 : turns.rows[now][point];
        }

        int lay(int place) {
            if (outside(place, 7)) {
                return -2;
            }
            shelf[place] = now;
            return 1;
        }

        int take(int place) {
            if (outside(place, 7)) {
                return -2;
            }
            now = shelf[place];
            return 1;
        }

        int then(int place) {
            if (outside(place, 7)) {
                return -2;
            }
            now = turns.then(now, shelf[place]);
            return 1;
        }

        private int order(int t) {
            int times = 1;
            for (int done = t; done != 0; done = turns.then(done, t)) {
                times++;
            }
            return times;
        }

        int back() {
            int times = order(now);
            now = turns.back(now);
            return times;
        }

        int power(int m) {
            long times = Math.floorMod((long) m, (long) order(now));
            int done = 0;
            for (long k = 0; k < times; k++) {
                done = turns.then(done, now);
            }
            now = done;
            return now == 0 ? 1 : 0;
        }

        /** The least group that has all of some turns. */
        private BitSet groupOf(BitSet some) {
            BitSet group = new BitSet();
            group.set(0);
            List<Integer> makers = new ArrayList<>();
            for (int t = some.nextSetBit(0); t >= 0; t = some.nextSetBit(t + 1)) {
                if (!group.get(t)) {
                    makers.add(t);
                    group = spread(makers);
                }
            }
            return group;
        }

        private BitSet spread(List<Integer> makers) {
            BitSet group = new BitSet();
            group.set(0);
            int[] list = new int[turns.rows.length];
            int end = 1;
            for (int at = 0; at < end; at++) {
                for (int maker : makers) {
                    int t = turns.then(list[at], maker);
                    if (!group.get(t)) {
                        group.set(t);
                        list[end++] = t;
                    }
                }
            }
            return group;
        }

        /** All turns of a group; only a few that make it, if with so many others they are too many. */
        private BitSet someOf(BitSet group, long others) {
            if (group.cardinality() * others <= MOST_PAIRS) {
                return group;
            }
            BitSet few = new BitSet();
            BitSet reached = new BitSet();
            reached.set(0);
            List<Integer> makers = new ArrayList<>();
            for (int t = group.nextSetBit(0); t >= 0; t = group.nextSetBit(t + 1)) {
                if (!reached.get(t)) {
                    makers.add(t);
                    few.set(t);
                    reached = spread(makers);
                }
            }
            return few;
        }

        private static BitSet both(BitSet a, BitSet b) {
            BitSet all = (BitSet) a.clone();
            all.or(b);
            return all;
        }

        private BitSet closed(BitSet a, BitSet b) {
            BitSet whole = groupOf(both(someOf(a, MOST_PAIRS), someOf(b, MOST_PAIRS)));
            BitSet result = a;
            while (true) {
                BitSet all = (BitSet) result.clone();
                BitSet carriers = someOf(whole, a.cardinality());
                BitSet moved = someOf(result, carriers.cardinality());
                for (int s = carriers.nextSetBit(0); s >= 0; s = carriers.nextSetBit(s + 1)) {
                    for (int t = moved.nextSetBit(0); t >= 0; t = moved.nextSetBit(t + 1)) {
                        all.set(turns.carried(t, s));
                    }
                }
                BitSet next = groupOf(all);
                if (next.equals(result) || carriers == whole && moved == result) {
                    return next;
                }
                result = next;
            }
        }

        private BitSet down(BitSet a) {
            BitSet some = someOf(a, a.cardinality());
            BitSet all = new BitSet();
            for (int s = some.nextSetBit(0); s >= 0; s = some.nextSetBit(s + 1)) {
                for (int t = some.nextSetBit(0); t >= 0; t = some.nextSetBit(t + 1)) {
                    all.set(turns.then(turns.then(turns.back(s), turns.back(t)), turns.then(s, t)));
                }
            }
            BitSet result = groupOf(all);
            return some == a ? result : closed(result, a);
        }

        private boolean commute(int s, int t) {
            int[] one = turns.rows[s];
            int[] two = turns.rows[t];
            for (int i = 0; i < n; i++) {
                if (one[two[i]] != two[one[i]]) {
                    return false;
                }
            }
            return true;
        }

        private boolean fixes(int t, int set) {
            for (int i = 0; i < n; i++) {
                if ((set >> i & 1) == 1 && turns.rows[t][i] != i) {
                    return false;
                }
            }
            return true;
        }

        private int keep(BitSet group) {
            if (groups.size() == 10) {
                return -3;
            }
            groups.add(group);
            return groups.size() - 1;
        }

        int group(int way) {
            if (outside(way, 2)) {
                return -2;
            }
            BitSet group = new BitSet();
            for (int t = 0; t < turns.rows.length; t++) {
                if (t == 0 || way == 1 || way == 2 && turns.even(t)) {
                    group.set(t);
                }
            }
            return keep(group);
        }

        int add(int a) {
            if (noGroup(a)) {
                return -2;
            }
            BitSet group = groups.get(a);
            if (group.get(now)) {
                return 1;
            }
            BitSet all = (BitSet) group.clone();
            all.set(now);
            groups.set(a, groupOf(all));
            return 0;
        }

        int of(int way, int a, int b) {
            if (outside(way, 2) || noGroup(a) || noGroup(b)) {
                return -2;
            }
            if (groups.size() == 10) {
                return -3;
            }
            BitSet one = groups.get(a);
            BitSet two = groups.get(b);
            if (way == 0) {
                return keep(groupOf(both(one, two)));
            }
            if (way == 2) {
                return keep(closed(one, two));
            }
            BitSet meet = (BitSet) one.clone();
            meet.and(two);
            return keep(meet);
        }

        int by(int way, int a, int set) {
            if (outside(way, 1) || noGroup(a) || noSet(set)) {
                return -2;
            }
            BitSet one = groups.get(a);
            BitSet result = new BitSet();
            for (int t = one.nextSetBit(0); t >= 0; t = one.nextSetBit(t + 1)) {
                if (way == 0 ? fixes(t, set) : turns.imageOfSet(t, set) == set) {
                    result.set(t);
                }
            }
            return keep(result);
        }

        int made(int way, int a) {
            if (outside(way, 3) || noGroup(a)) {
                return -2;
            }
            if (groups.size() == 10) {
                return -3;
            }
            BitSet one = groups.get(a);
            if (way == 3) {
                return keep(down(one));
            }
            BitSet result = new BitSet();
            for (int t = one.nextSetBit(0); t >= 0; t = one.nextSetBit(t + 1)) {
                if (way == 2) {
                    result.set(turns.carried(t, now));
                } else if (way == 0 ? commute(t, now) : central(t, one)) {
                    result.set(t);
                }
            }
            return keep(result);
        }

        private boolean central(int t, BitSet group) {
            for (int s = group.nextSetBit(0); s >= 0; s = group.nextSetBit(s + 1)) {
                if (!commute(s, t)) {
                    return false;
                }
            }
            return true;
        }

        int undo() {
            if (groups.isEmpty()) {
                return -1;
            }
            groups.remove(groups.size() - 1);
            return groups.size();
        }

        int size(int a) {
            return noGroup(a) ? -2 : groups.get(a).cardinality();
        }

        int has(int a) {
            return noGroup(a) ? -2 : groups.get(a).get(now) ? 1 : 0;
        }

        int is(int way, int a, int b) {
            if (outside(way, 2) || noGroup(a) || noGroup(b)) {
                return -2;
            }
            BitSet one = groups.get(a);
            BitSet two = groups.get(b);
            if (way == 2) {
                return one.equals(two) ? 1 : 0;
            }
            if (!both(one, two).equals(two)) {
                return 0;
            }
            return way == 0 || normal(one, two) ? 1 : 0;
        }

        private boolean normal(BitSet a, BitSet b) {
            BitSet some = someOf(b, a.cardinality());
            for (int t = a.nextSetBit(0); t >= 0; t = a.nextSetBit(t + 1)) {
                for (int s = some.nextSetBit(0); s >= 0; s = some.nextSetBit(s + 1)) {
                    if (!a.get(turns.carried(t, s))) {
                        return false;
                    }
                }
            }
            return true;
        }

        int orbit(int a, int point) {
            if (noGroup(a) || noPoint(point)) {
                return -2;
            }
            int set = 0;
            BitSet one = groups.get(a);
            for (int t = one.nextSetBit(0); t >= 0; t = one.nextSetBit(t + 1)) {
                set |= 1 << turns.rows[t][point];
            }
            return set;
        }

        int block(int a, int i, int j) {
            if (noGroup(a) || noPoint(i) || noPoint(j)) {
                return -2;
            }
            int both = 1 << i | 1 << j;
            int least = (1 << n) - 1;
            for (int set = 0; set < 1 << n; set++) {
                boolean fewer = Integer.bitCount(set) < Integer.bitCount(least);
                if ((set & both) == both && fewer && isBlock(groups.get(a), set)) {
                    least = set;
                }
            }
            return least;
        }

        private boolean isBlock(BitSet group, int set) {
            for (int t = group.nextSetBit(0); t >= 0; t = group.nextSetBit(t + 1)) {
                int images = turns.imageOfSet(t, set);
                if (images != set && (images & set) != 0) {
                    return false;
                }
            }
            return true;
        }

        int steps(int a) {
            if (noGroup(a)) {
                return -2;
            }
            BitSet one = groups.get(a);
            int taken = 0;
            while (one.cardinality() > 1) {
                BitSet next = down(one);
                if (next.equals(one)) {
                    return -1;
                }
                one = next;
                taken++;
            }
            return taken;
        }

        int still(int a, int m) {
            if (noGroup(a) || outside(m, n)) {
                return -2;
            }
            int found = 0;
            BitSet one = groups.get(a);
            for (int t = one.nextSetBit(0); t >= 0; t = one.nextSetBit(t + 1)) {
                found += turns.left(t) == m ? 1 : 0;
            }
            return found;
        }

        int element(int a, int k) {
            if (noGroup(a) || k < 0 || k >= groups.get(a).cardinality()) {
                return -2;
            }
            int t = groups.get(a).nextSetBit(0);
            for (int ahead = 0; ahead < k; ahead++) {
                t = groups.get(a).nextSetBit(t + 1);
            }
            now = t;
            return 1;
        }

        int place(int a) {
            return noGroup(a) ? -2 : groups.get(a).get(0, now).cardinality();
        }

        int carry(int a, int one, int two) {
            if (noGroup(a) || noSet(one) || noSet(two)) {
                return -2;
            }
            BitSet group = groups.get(a);
            for (int t = group.nextSetBit(0); t >= 0; t = group.nextSetBit(t + 1)) {
                if (turns.imageOfSet(t, one) == two) {
                    now = t;
                    return 1;
                }
            }
            return -1;
        }

        int count(int what) {
            switch (what) {
                case 0:
                    return n;
                case 1:
                    return groups.size();
                case 2:
                    return turns.left(now);
                case 3:
                    return turns.even(now) ? 1 : 0;
                default:
                    return -2;
            }
        }
    }

    /** One run: the same calls on the class and on the model. */
    private static final class Run {
        private static final int[] POINTS = {2, 3, 3, 4, 4, 4, 5, 5, 5, 6, 6, 6, 7, 8};
        private static final int[] EDGES = {-1, -2, 8, 9, 10, 256, 40320, Integer.MIN_VALUE, Integer.MAX_VALUE};
        private final int run;
        private final Random random;
        /** What most turns of the run keep, so that groups come that are neither small nor whole. */
        private final int flavour;
        private final TurnGroups x = new TurnGroups();
        private final Model model = new Model();
        private final List<String> calls = new ArrayList<>();
        private String call = "";
        private long got;
        private long want;

        Run(int run) {
            this.run = run;
            this.random = new Random(run * 7919L + 17);
            this.flavour = random.nextInt(5);
        }

        boolean isAsDue() {
            for (int k = 0; k < CALLS; k++) {
                if (k == 0 && random.nextInt(8) != 0 || random.nextInt(300) == 0) {
                    int n = POINTS[random.nextInt(POINTS.length)];
                    points(random.nextInt(10) == 0 ? wrongNumber() : n);
                } else {
                    oneCall();
                }
                calls.add(call + " " + got);
                if (got != want || !statesAgree()) {
                    return tellFault();
                }
            }
            for (int a = 0; a < model.groups.size(); a++) {
                if (!groupsAgree(a)) {
                    return tellFault();
                }
            }
            return true;
        }

        private boolean tellFault() {
            System.out.println("run " + run + ": " + call + " answered " + got + ", due is " + want);
            for (int k = Math.max(0, calls.size() - 40); k < calls.size(); k++) {
                System.out.println("    " + calls.get(k));
            }
            return false;
        }

        private boolean agree(String asked, long answer, long due) {
            if (answer != due) {
                call += ", then " + asked;
                got = answer;
                want = due;
            }
            return answer == due;
        }

        private boolean statesAgree() {
            boolean same = agree("told()", x.told(), model.turns.told(model.now));
            for (int what = 0; what < 4 && same; what++) {
                same = agree("count(" + what + ")", x.count(what), model.count(what));
            }
            int last = model.groups.size() - 1;
            return same && (last < 0 || agree("size(" + last + ")", x.size(last), model.size(last)));
        }

        private boolean groupsAgree(int a) {
            BitSet group = model.groups.get(a);
            boolean same = agree("size(" + a + ")", x.size(a), group.cardinality());
            int k = 0;
            for (int t = group.nextSetBit(0); t >= 0 && same; t = group.nextSetBit(t + 1)) {
                same = agree("element(" + a + ", " + k + ")", x.element(a, k), 1)
                    && agree("told()", x.told(), model.turns.told(t))
                    && agree("has(" + a + ")", x.has(a), 1)
                    && agree("place(" + a + ")", x.place(a), k);
                k++;
            }
            return same;
        }

        private void answer(String name, long answer, long due) {
            call = name;
            got = answer;
            want = due;
        }

        private int wrongNumber() {
            return EDGES[random.nextInt(EDGES.length)];
        }

        /** Mostly one of 0 .. most - 1, at times a number that may be none. */
        private int number(int most) {
            if (random.nextInt(25) == 0) {
                return random.nextBoolean() ? wrongNumber() : most;
            }
            return most > 0 ? random.nextInt(most) : 0;
        }

        private int aGroup() {
            return number(model.groups.size());
        }

        private int aSet() {
            int set = number(1 << model.n);
            return random.nextInt(3) == 0 ? set & set >> 1 : set;
        }

        private void points(int n) {
            answer("points(" + n + ")", x.points(n), model.points(n));
        }

        private long aTold() {
            if (random.nextInt(20) == 0) {
                return random.nextBoolean() ? random.nextLong() >> random.nextInt(64)
                    : model.turns.told(model.now) ^ 1L << random.nextInt(64);
            }
            int n = model.n;
            int[] row = new int[n];
            for (int i = 0; i < n; i++) {
                row[i] = i;
            }
            int kind = random.nextInt(6);
            if (flavour > 0 && random.nextInt(60) > 0) {
                keepFlavour(row);
            } else if (kind == 0) {
                shuffle(row, n);
            } else if (kind == 1) {
                shuffle(row, 1 + random.nextInt(n));
            } else if (kind == 2) {
                swap(row, random.nextInt(n), random.nextInt(n));
            } else if (kind == 3) {
                swap(row, 0, random.nextInt(n));
                swap(row, random.nextInt(n), random.nextInt(n));
            } else {
                rotate(row, 1 + random.nextInt(n), random.nextInt(n));
            }
            return model.turns.told(model.turns.number(row));
        }

        private void keepFlavour(int[] row) {
            int n = row.length;
            int part = n % 2 == 0 && random.nextBoolean() ? 2 : n % 3 == 0 ? 3 : n % 2 == 0 ? n / 2 : n - 1;
            int add = random.nextInt(n);
            int times = 1 + random.nextInt(n - 1);
            int low = random.nextInt(3);
            int high = random.nextInt(3);
            for (int i = 0; i < n; i++) {
                if (flavour == 1) {
                    // Parts of equal length, turned round or changed for one another.
                    int within = (i % part + add) % part;
                    row[i] = times % 2 == 0 || i >= n / part * part ? i
                        : times % 3 == 0 ? (i + part) % (n / part * part)
                        : i / part == add % 2 ? i / part * part + within : i;
                } else if (flavour == 2) {
                    row[i] = i * times % n;
                    row[i] = (row[i] + add) % n;
                } else if (flavour == 3) {
                    // The bits of a point: one changed, or one changed where another is.
                    int bits = Integer.highestOneBit(n);
                    int moved = low == high ? i ^ 1 << low : i ^ (i >> low & 1) << high;
                    row[i] = i < bits && moved < bits && 1 << low < bits && 1 << high < bits ? moved : i;
                } else {
                    row[i] = onLine(i, n - 1, add, times);
                }
            }
            if (notATurn(row)) {
                for (int i = 0; i < n; i++) {
                    row[i] = i;
                }
            }
        }

        /** The points of a line over p numbers and one beyond: i + add, i * times or -1 / i. */
        private static int onLine(int i, int p, int add, int times) {
            if (add == 0) {
                for (int j = 0; j < p; j++) {
                    if (i > 0 && i < p && (i * j + 1) % p == 0) {
                        return j;
                    }
                }
                return i == p ? 0 : p;
            }
            return i == p ? p : add % 2 == 0 ? (i + add) % p : i * times % p;
        }

        private static boolean notATurn(int[] row) {
            int seen = 0;
            for (int image : row) {
                seen |= 1 << image;
            }
            return Integer.bitCount(seen) != row.length;
        }

        private static void swap(int[] row, int i, int j) {
            int kept = row[i];
            row[i] = row[j];
            row[j] = kept;
        }

        private void shuffle(int[] row, int first) {
            for (int i = first - 1; i > 0; i--) {
                swap(row, i, random.nextInt(i + 1));
            }
        }

        /** Parts of some length, each turned round by some points. */
        private static void rotate(int[] row, int length, int by) {
            for (int from = 0; from + length <= row.length; from += length) {
                for (int i = 0; i < length; i++) {
                    row[from + i] = from + (i + by) % length;
                }
            }
        }

        private void oneCall() {
            if (model.groups.size() > 8 && random.nextInt(4) == 0) {
                answer("undo()", x.undo(), model.undo());
                return;
            }
            int kind = random.nextInt(3);
            if (kind == 0) {
                turnCall(random.nextInt(9));
            } else if (kind == 1) {
                groupCall(random.nextInt(12));
            } else {
                askingCall(random.nextInt(11));
            }
        }

        private void turnCall(int which) {
            int place = number(8);
            if (which < 3) {
                long told = aTold();
                answer("turn(" + told + ")", x.turn(told), model.turn(told));
            } else if (which == 3) {
                int point = number(model.n);
                answer("to(" + point + ")", x.to(point), model.to(point));
            } else if (which == 4) {
                answer("lay(" + place + ")", x.lay(place), model.lay(place));
            } else if (which == 5) {
                answer("take(" + place + ")", x.take(place), model.take(place));
            } else if (which == 6) {
                answer("then(" + place + ")", x.then(place), model.then(place));
            } else if (which == 7) {
                answer("back()", x.back(), model.back());
            } else {
                int m = random.nextInt(3) == 0 ? random.nextInt() : number(7) - 3;
                answer("power(" + m + ")", x.power(m), model.power(m));
            }
        }

        private void groupCall(int which) {
            int a = aGroup();
            if (which < 2) {
                int way = random.nextInt(3) == 0 ? number(3) : 0;
                answer("group(" + way + ")", x.group(way), model.group(way));
            } else if (which < 5) {
                answer("add(" + a + ")", x.add(a), model.add(a));
            } else if (which < 7) {
                int way = number(3);
                int b = aGroup();
                answer("of(" + way + ", " + a + ", " + b + ")", x.of(way, a, b), model.of(way, a, b));
            } else if (which < 9) {
                int way = number(2);
                int set = aSet();
                answer("by(" + way + ", " + a + ", " + set + ")", x.by(way, a, set), model.by(way, a, set));
            } else if (which < 11) {
                int way = number(4);
                answer("made(" + way + ", " + a + ")", x.made(way, a), model.made(way, a));
            } else {
                answer("undo()", x.undo(), model.undo());
            }
        }

        private void askingCall(int which) {
            int a = aGroup();
            int point = number(model.n);
            if (which == 0) {
                answer("size(" + a + ")", x.size(a), model.size(a));
            } else if (which == 1) {
                answer("has(" + a + ")", x.has(a), model.has(a));
            } else if (which == 2) {
                int way = number(3);
                int b = aGroup();
                answer("is(" + way + ", " + a + ", " + b + ")", x.is(way, a, b), model.is(way, a, b));
            } else if (which == 3) {
                answer("orbit(" + a + ", " + point + ")", x.orbit(a, point), model.orbit(a, point));
            } else if (which == 4) {
                int j = number(model.n);
                answer("block(" + a + ", " + point + ", " + j + ")", x.block(a, point, j), model.block(a, point, j));
            } else if (which == 5) {
                answer("steps(" + a + ")", x.steps(a), model.steps(a));
            } else if (which == 6) {
                int m = number(model.n + 1);
                answer("still(" + a + ", " + m + ")", x.still(a, m), model.still(a, m));
            } else if (which == 7) {
                int k = number(Math.max(0, model.size(a)));
                answer("element(" + a + ", " + k + ")", x.element(a, k), model.element(a, k));
            } else if (which == 8) {
                answer("place(" + a + ")", x.place(a), model.place(a));
            } else if (which == 9) {
                carryCall(a);
            } else {
                int what = number(4);
                answer("count(" + what + ")", x.count(what), model.count(what));
            }
        }

        private void carryCall(int a) {
            int one = aSet();
            int two = aSet();
            if (random.nextBoolean() && one >= 0 && one < 1 << model.n) {
                two = model.turns.imageOfSet(random.nextInt(model.turns.rows.length), one);
            }
            answer("carry(" + a + ", " + one + ", " + two + ")", x.carry(a, one, two), model.carry(a, one, two));
        }
    }
}
