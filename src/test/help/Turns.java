import java.util.ArrayList;
import java.util.List;

/** All turns of n points in order; a turn is its number there, and ONE is 0. */
final class Turns {
    private static final int MOST_POINTS_OF_TABLE = 6;
    final int n;
    final int[][] rows;
    /** What one THEN another is, for few points; null for more. */
    private final int[][] table;

    Turns(int n) {
        this.n = n;
        List<int[]> found = new ArrayList<>();
        fill(new int[n], 0, 0, found);
        rows = found.toArray(new int[0][]);
        table = n <= MOST_POINTS_OF_TABLE ? new int[rows.length][rows.length] : null;
        for (int s = 0; s < rows.length && table != null; s++) {
            for (int t = 0; t < rows.length; t++) {
                table[s][t] = chain(s, t);
            }
        }
    }

    private void fill(int[] row, int at, int used, List<int[]> found) {
        if (at == n) {
            found.add(row.clone());
            return;
        }
        for (int point = 0; point < n; point++) {
            if ((used >> point & 1) == 0) {
                row[at] = point;
                fill(row, at + 1, used | 1 << point, found);
            }
        }
    }

    int number(int[] row) {
        int number = 0;
        for (int i = 0; i < n; i++) {
            int lower = 0;
            for (int j = i + 1; j < n; j++) {
                if (row[j] < row[i]) {
                    lower++;
                }
            }
            number = number * (n - i) + lower;
        }
        return number;
    }

    int then(int s, int t) {
        return table == null ? chain(s, t) : table[s][t];
    }

    private int chain(int s, int t) {
        int[] row = new int[n];
        for (int i = 0; i < n; i++) {
            row[i] = rows[t][rows[s][i]];
        }
        return number(row);
    }

    int back(int t) {
        int[] row = new int[n];
        for (int i = 0; i < n; i++) {
            row[rows[t][i]] = i;
        }
        return number(row);
    }

    /** (BACK of s) THEN t THEN s. */
    int carried(int t, int s) {
        return then(then(back(s), t), s);
    }

    /** How often a turn must be done to be ONE. */
    int timesToOne(int t) {
        int times = 1;
        for (int done = t; done != 0; done = then(done, t)) {
            times++;
        }
        return times;
    }

    int imageOfSet(int t, int set) {
        int images = 0;
        for (int i = 0; i < n; i++) {
            if ((set >> i & 1) == 1) {
                images |= 1 << rows[t][i];
            }
        }
        return images;
    }

    int left(int t) {
        int left = 0;
        for (int i = 0; i < n; i++) {
            left += rows[t][i] == i ? 1 : 0;
        }
        return left;
    }

    /** A round of points, each carried to the next, is made of one swap less than it has points. */
    boolean even(int t) {
        int seen = 0;
        int swaps = 0;
        for (int i = 0; i < n; i++) {
            int length = 0;
            for (int at = i; (seen >> at & 1) == 0; at = rows[t][at]) {
                seen |= 1 << at;
                length++;
            }
            swaps += Math.max(0, length - 1);
        }
        return swaps % 2 == 0;
    }

    boolean commute(int s, int t) {
        int[] one = rows[s];
        int[] two = rows[t];
        for (int i = 0; i < n; i++) {
            if (one[two[i]] != two[one[i]]) {
                return false;
            }
        }
        return true;
    }

    boolean fixes(int t, int set) {
        for (int i = 0; i < n; i++) {
            if ((set >> i & 1) == 1 && rows[t][i] != i) {
                return false;
            }
        }
        return true;
    }

    long told(int t) {
        long told = 0;
        for (int i = n - 1; i >= 0; i--) {
            told = told * 16 + rows[t][i];
        }
        return told;
    }

    /** The number of the turn that is told, or -1. */
    int ofTold(long told) {
        int[] row = new int[n];
        int used = 0;
        long rest = told;
        for (int i = 0; i < n; i++) {
            row[i] = (int) (rest & 15);
            rest >>>= 4;
            if (row[i] >= n || (used >> row[i] & 1) == 1) {
                return -1;
            }
            used |= 1 << row[i];
        }
        return rest == 0 ? number(row) : -1;
    }
}
