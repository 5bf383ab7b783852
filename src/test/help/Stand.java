/** Turns as they are told, objects in some state, and the whole state of an object as a text. */
final class Stand {
    private Stand() {
    }

    // ---- turns

    /** The turn that carries 0, 1, .. to these points. */
    static long told(int... images) {
        long told = 0;
        for (int i = images.length - 1; i >= 0; i--) {
            told = told * 16 + images[i];
        }
        return told;
    }

    static long one(int n) {
        return round(n, 0);
    }

    /** All points in one round, each carried some points on. */
    static long round(int n, int by) {
        int[] images = new int[n];
        for (int i = 0; i < n; i++) {
            images[i] = (i + by) % n;
        }
        return told(images);
    }

    static long swap(int n, int i, int j) {
        int[] images = new int[n];
        for (int k = 0; k < n; k++) {
            images[k] = k == i ? j : k == j ? i : k;
        }
        return told(images);
    }

    /** The last of all turns in ORDER. */
    static long last(int n) {
        int[] images = new int[n];
        for (int i = 0; i < n; i++) {
            images[i] = n - 1 - i;
        }
        return told(images);
    }

    /** Turns of which, for each n, some are ONE and some are not. */
    static long some(int n, int k) {
        int[] images = new int[n];
        for (int i = 0; i < n; i++) {
            int from = k / 2 % 2 == 1 && i < 2 ? 1 - i : i;
            images[i] = (from + k) % n;
        }
        return told(images);
    }

    static int turnsOf(int n) {
        return n < 2 ? 1 : n * turnsOf(n - 1);
    }

    static int allPoints(int n) {
        return (1 << n) - 1;
    }

    // ---- objects

    static TurnGroups withPoints(int n) {
        TurnGroups x = new TurnGroups();
        x.points(n);
        return x;
    }

    /** So many groups of a few turns each; a turn that is not ONE at hand; turns on all of the shelf. */
    static TurnGroups with(int n, int groups) {
        TurnGroups x = withPoints(n);
        for (int place = 0; place < 8; place++) {
            x.turn(some(n, place + 1));
            x.lay(place);
        }
        for (int a = 0; a < groups; a++) {
            x.group(0);
            x.turn(some(n, a));
            x.add(a);
        }
        x.turn(some(n, 1));
        return x;
    }

    /** A new group of some turns; THE TURN is the last of them then. */
    static int groupOf(TurnGroups x, long... turns) {
        int a = x.group(0);
        for (long told : turns) {
            x.turn(told);
            x.add(a);
        }
        return a;
    }

    // ---- states

    /** All that an object has; THE TURN is set again to what it was. */
    static String of(TurnGroups x) {
        long turn = x.told();
        int groups = x.count(1);
        StringBuilder text = new StringBuilder("points ").append(x.count(0)).append(", turn ")
            .append(Long.toHexString(turn)).append(", shelf");
        for (int place = 0; place < 8; place++) {
            x.take(place);
            text.append(' ').append(Long.toHexString(x.told()));
        }
        text.append(", groups ").append(groups);
        for (int a = 0; a < groups && a < 20; a++) {
            text.append(a == 0 ? ": " : "; ").append(groupText(x, a));
        }
        x.turn(turn);
        return text.toString();
    }

    /** All turns of a group; THE TURN is the last of them then. */
    static String groupText(TurnGroups x, int a) {
        StringBuilder text = new StringBuilder();
        int size = x.size(a);
        for (int k = 0; k < size && k < 50000; k++) {
            x.element(a, k);
            text.append(k == 0 ? "" : " ").append(Long.toHexString(x.told()));
        }
        return text.toString();
    }
}
