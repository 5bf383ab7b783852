import java.util.ArrayList;
import java.util.List;
import java.util.Random;

/**
 * Long runs of calls against a model that keeps each group as the set of all its turns and answers
 * by the document's words, turn by turn, but for MOST_PAIRS. Arguments: the first run's number, how
 * many runs.
 */
public final class ModelTest {
    /** What an object answers beyond these is free. */
    private static final int CALLS = 512;
    /** Above so many pairs of turns the model takes a few turns that make the group for all of it. */
    private static final long MOST_PAIRS = 600_000;

    public static void main(String[] args) {
        int first = args.length > 0 ? Integer.parseInt(args[0]) : 1;
        int runs = args.length > 1 ? Integer.parseInt(args[1]) : 200;
        int wrong = 0;
        for (int run = first; run < first + runs && wrong < 10; run++) {
            if (!new Run(run).isAsDue()) {
                wrong++;
            }
        }
        System.out.println(wrong == 0 ? runs + " runs are as due" : wrong + " runs are not as due");
        if (wrong != 0) {
            System.exit(1);
        }
    }

    /** One run: the same calls on the class and on the model. */
    private static final class Run {
        private static final int[] POINTS = {2, 3, 4, 5, 6, 7, 7, 7, 8, 8, 8, 8, 8, 8};
        private static final int[] EDGES = {-1, -2, 8, 9, 10, 256, 40320, Integer.MIN_VALUE, Integer.MAX_VALUE};
        private final int run;
        private final Random random;
        /** What most turns of the run keep, so that groups come that are neither small nor whole. */
        private final int flavour;
        private final TurnGroups x = new TurnGroups();
        private final Model model = new Model(MOST_PAIRS);
        private final List<String> calls = new ArrayList<>();
        private String call = "";
        private long got;
        private long want;

        Run(int run) {
            this.run = run;
            this.random = new Random(run * 7919L + 17);
            this.flavour = random.nextInt(5);
        }

        /** Every other call looks at what the one ahead of it left. */
        boolean isAsDue() {
            for (int k = 0; k < CALLS; k++) {
                if (k == 0 && random.nextInt(8) != 0 || k % 2 == 0 && random.nextInt(150) == 0) {
                    points(random.nextInt(10) == 0 ? wrongNumber() : POINTS[random.nextInt(POINTS.length)]);
                } else if (k % 2 == 0) {
                    oneCall();
                } else {
                    look();
                }
                calls.add(call + " " + got);
                if (got != want) {
                    return tellFault();
                }
            }
            return true;
        }

        private boolean tellFault() {
            System.out.println("run " + run + ": " + call + " answered " + got + ", due is " + want);
            for (int k = Math.max(0, calls.size() - 40); k < calls.size(); k++) {
                System.out.println("    " + calls.get(k));
            }
            return false;
        }

        private void look() {
            int kind = random.nextInt(8);
            int last = model.groups.size() - 1;
            if (kind < 3) {
                answer("told()", x.told(), model.told());
            } else if (kind < 6) {
                answer("size(" + last + ")", x.size(last), model.size(last));
            } else if (kind < 7) {
                answer("has(" + last + ")", x.has(last), model.has(last));
            } else {
                int what = random.nextInt(4);
                answer("count(" + what + ")", x.count(what), model.count(what));
            }
        }

        private void answer(String name, long answer, long due) {
            call = name;
            got = answer;
            want = due;
        }

        private int wrongNumber() {
            return EDGES[random.nextInt(EDGES.length)];
        }

        /** Mostly one of 0 .. most - 1, at times a number that may be none. */
        private int number(int most) {
            if (random.nextInt(25) == 0) {
                return random.nextBoolean() ? wrongNumber() : most;
            }
            return most > 0 ? random.nextInt(most) : 0;
        }

        private int aGroup() {
            return number(model.groups.size());
        }

        private int aSet() {
            int set = number(1 << model.n);
            return random.nextInt(3) == 0 ? set & set >> 1 : set;
        }

        private void points(int n) {
            answer("points(" + n + ")", x.points(n), model.points(n));
        }

        private long aTold() {
            if (random.nextInt(20) == 0) {
                return random.nextBoolean() ? random.nextLong() >> random.nextInt(64)
                    : model.turns.told(model.now) ^ 1L << random.nextInt(64);
            }
            int n = model.n;
            int[] row = new int[n];
            for (int i = 0; i < n; i++) {
                row[i] = i;
            }
            int kind = random.nextInt(6);
            if (flavour > 0 && random.nextInt(60) > 0) {
                keepFlavour(row);
            } else if (kind == 0) {
                shuffle(row, n);
            } else if (kind == 1) {
                shuffle(row, 1 + random.nextInt(n));
            } else if (kind == 2) {
                swap(row, random.nextInt(n), random.nextInt(n));
            } else if (kind == 3) {
                swap(row, 0, random.nextInt(n));
                swap(row, random.nextInt(n), random.nextInt(n));
            } else {
                rotate(row, 1 + random.nextInt(n), random.nextInt(n));
            }
            return model.turns.told(model.turns.number(row));
        }

        private void keepFlavour(int[] row) {
            int n = row.length;
            int part = n % 2 == 0 && random.nextBoolean() ? 2 : n % 3 == 0 ? 3 : n % 2 == 0 ? n / 2 : n - 1;
            int add = random.nextInt(n);
            int times = 1 + random.nextInt(n - 1);
            int low = random.nextInt(3);
            int high = random.nextInt(3);
            for (int i = 0; i < n; i++) {
                if (flavour == 1) {
                    // Parts of equal length, turned round or changed for one another.
                    int within = (i % part + add) % part;
                    row[i] = times % 2 == 0 || i >= n / part * part ? i
                        : times % 3 == 0 ? (i + part) % (n / part * part)
                        : i / part == add % 2 ? i / part * part + within : i;
                } else if (flavour == 2) {
                    row[i] = i * times % n;
                    row[i] = (row[i] + add) % n;
                } else if (flavour == 3) {
                    // The bits of a point: one changed, or one changed where another is.
                    int bits = Integer.highestOneBit(n);
                    int moved = low == high ? i ^ 1 << low : i ^ (i >> low & 1) << high;
                    row[i] = i < bits && moved < bits && 1 << low < bits && 1 << high < bits ? moved : i;
                } else {
                    row[i] = onLine(i, n - 1, add, times);
                }
            }
            if (notATurn(row)) {
                for (int i = 0; i < n; i++) {
                    row[i] = i;
                }
            }
        }

        /** The points of a line over p numbers and one beyond: i + add, i * times or -1 / i. */
        private static int onLine(int i, int p, int add, int times) {
            if (add == 0) {
                for (int j = 0; j < p; j++) {
                    if (i > 0 && i < p && (i * j + 1) % p == 0) {
                        return j;
                    }
                }
                return i == p ? 0 : p;
            }
            return i == p ? p : add % 2 == 0 ? (i + add) % p : i * times % p;
        }

        private static boolean notATurn(int[] row) {
            int seen = 0;
            for (int image : row) {
                seen |= 1 << image;
            }
            return Integer.bitCount(seen) != row.length;
        }

        private static void swap(int[] row, int i, int j) {
            int kept = row[i];
            row[i] = row[j];
            row[j] = kept;
        }

        private void shuffle(int[] row, int first) {
            for (int i = first - 1; i > 0; i--) {
                swap(row, i, random.nextInt(i + 1));
            }
        }

        /** Parts of some length, each turned round by some points. */
        private static void rotate(int[] row, int length, int by) {
            for (int from = 0; from + length <= row.length; from += length) {
                for (int i = 0; i < length; i++) {
                    row[from + i] = from + (i + by) % length;
                }
            }
        }

        private void oneCall() {
            if (model.groups.size() > 8 && random.nextInt(4) == 0) {
                answer("undo()", x.undo(), model.undo());
                return;
            }
            int kind = random.nextInt(3);
            if (kind == 0) {
                turnCall(random.nextInt(9));
            } else if (kind == 1) {
                groupCall(random.nextInt(12));
            } else {
                askingCall(random.nextInt(11));
            }
        }

        private void turnCall(int which) {
            int place = number(8);
            if (which < 3) {
                long told = aTold();
                answer("turn(" + told + ")", x.turn(told), model.turn(told));
            } else if (which == 3) {
                int point = number(model.n);
                answer("to(" + point + ")", x.to(point), model.to(point));
            } else if (which == 4) {
                answer("lay(" + place + ")", x.lay(place), model.lay(place));
            } else if (which == 5) {
                answer("take(" + place + ")", x.take(place), model.take(place));
            } else if (which == 6) {
                answer("then(" + place + ")", x.then(place), model.then(place));
            } else if (which == 7) {
                answer("back()", x.back(), model.back());
            } else {
                int m = random.nextInt(3) == 0 ? random.nextInt() : number(7) - 3;
                answer("power(" + m + ")", x.power(m), model.power(m));
            }
        }

        private void groupCall(int which) {
            int a = aGroup();
            if (which < 2) {
                int way = random.nextInt(3) == 0 ? number(3) : 0;
                answer("group(" + way + ")", x.group(way), model.group(way));
            } else if (which < 5) {
                answer("add(" + a + ")", x.add(a), model.add(a));
            } else if (which < 7) {
                int way = number(3);
                int b = aGroup();
                answer("of(" + way + ", " + a + ", " + b + ")", x.of(way, a, b), model.of(way, a, b));
            } else if (which < 9) {
                int way = number(2);
                int set = aSet();
                answer("by(" + way + ", " + a + ", " + set + ")", x.by(way, a, set), model.by(way, a, set));
            } else if (which < 11) {
                int way = number(4);
                answer("made(" + way + ", " + a + ")", x.made(way, a), model.made(way, a));
            } else {
                answer("undo()", x.undo(), model.undo());
            }
        }

        private void askingCall(int which) {
            int a = aGroup();
            int point = number(model.n);
            if (which == 0) {
                answer("size(" + a + ")", x.size(a), model.size(a));
            } else if (which == 1) {
                answer("has(" + a + ")", x.has(a), model.has(a));
            } else if (which == 2) {
                int way = number(3);
                int b = aGroup();
                answer("is(" + way + ", " + a + ", " + b + ")", x.is(way, a, b), model.is(way, a, b));
            } else if (which == 3) {
                answer("orbit(" + a + ", " + point + ")", x.orbit(a, point), model.orbit(a, point));
            } else if (which == 4) {
                int j = number(model.n);
                answer("block(" + a + ", " + point + ", " + j + ")", x.block(a, point, j), model.block(a, point, j));
            } else if (which == 5) {
                answer("steps(" + a + ")", x.steps(a), model.steps(a));
            } else if (which == 6) {
                int m = number(model.n + 1);
                answer("still(" + a + ", " + m + ")", x.still(a, m), model.still(a, m));
            } else if (which == 7) {
                int k = number(Math.max(0, model.size(a)));
                answer("element(" + a + ", " + k + ")", x.element(a, k), model.element(a, k));
            } else if (which == 8) {
                answer("place(" + a + ")", x.place(a), model.place(a));
            } else if (which == 9) {
                carryCall(a);
            } else {
                int what = number(4);
                answer("count(" + what + ")", x.count(what), model.count(what));
            }
        }

        private void carryCall(int a) {
            int one = aSet();
            int two = aSet();
            if (random.nextBoolean() && one >= 0 && one < 1 << model.n) {
                two = model.turns.imageOfSet(random.nextInt(model.turns.rows.length), one);
            }
            answer("carry(" + a + ", " + one + ", " + two + ")", x.carry(a, one, two), model.carry(a, one, two));
        }
    }
}
