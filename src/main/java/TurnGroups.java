import java.util.Arrays;

/**
 * Groups of turns of 2 to 8 points. What each call answers is promised in DOC.md.
 *
 * <p>A turn is held as an int, four bits for each point, always on all eight points: the points
 * beyond the object's own stay where they are, so nothing that works on turns needs to know n.
 */
public final class TurnGroups {
    public static final int NONE = -1, BAD = -2, FULL = -3;

    private static final int FEWEST_POINTS = 2;
    private static final int MOST_POINTS = 8;
    private static final int POINTS_AT_FIRST = 4;
    private static final int MOST_GROUPS = 10;
    private static final int SHELF_PLACES = 8;
    /** All 40320 turns of eight points, halved 16 times, would be none. */
    private static final int MOST_HALVINGS = 16;
    private static final int TURN_BITS = 32;
    private static final int ONE = 0x76543210;
    /** The answer of a search that finds none: as a turn it would carry all points to 0. */
    private static final int NO_TURN = 0;

    private final int[] shelf = new int[SHELF_PLACES];
    private final Tower[] groups = new Tower[MOST_GROUPS];
    private final Tower[] spare = new Tower[2];
    private int pointCount;
    private int groupCount;
    private int current;

    public TurnGroups() {
        for (int a = 0; a < MOST_GROUPS; a++) {
            groups[a] = new Tower();
        }
        for (int k = 0; k < spare.length; k++) {
            spare[k] = new Tower();
        }
        beginWith(POINTS_AT_FIRST);
    }

    public int points(int n) {
        if (n < FEWEST_POINTS || n > MOST_POINTS) {
            return BAD;
        }
        int gone = groupCount;
        beginWith(n);
        return gone;
    }

    // ---- turns

    public int turn(long told) {
        if (!tellsTurn(told)) {
            return BAD;
        }
        long beyond = ONE & ~ownBits();
        current = (int) (told | beyond);
        return 1;
    }

    public long told() {
        return current & ownBits();
    }

    public int to(int point) {
        return isPoint(point) ? image(current, point) : BAD;
    }

    public int lay(int place) {
        if (!isShelfPlace(place)) {
            return BAD;
        }
        shelf[place] = current;
        return 1;
    }

    public int take(int place) {
        if (!isShelfPlace(place)) {
            return BAD;
        }
        current = shelf[place];
        return 1;
    }

    public int then(int place) {
        if (!isShelfPlace(place)) {
            return BAD;
        }
        current = chain(current, shelf[place]);
        return 1;
    }

    public int back() {
        int times = timesToOne(current);
        current = reverse(current);
        return times;
    }

    public int power(int m) {
        // A long, because -m of the least int is no int.
        long times = Math.abs((long) m);
        int square = m < 0 ? reverse(current) : current;
        int result = ONE;
        for (long left = times; left > 0; left >>= 1) {
            if ((left & 1) == 1) {
                result = chain(result, square);
            }
            square = chain(square, square);
        }
        current = result;
        return truth(result == ONE);
    }

    // ---- groups

    public int group(int way) {
        if (way < 0 || way > 2) {
            return BAD;
        }
        if (isFull()) {
            return FULL;
        }
        Tower fresh = groups[groupCount];
        fresh.clear();
        if (way == 1) {
            joinSwaps(fresh);
        } else if (way == 2) {
            joinThreeCycles(fresh);
        }
        return groupCount++;
    }

    public int add(int a) {
        if (!isGroup(a)) {
            return BAD;
        }
        return truth(!groups[a].join(current));
    }

    public int of(int way, int a, int b) {
        if (way < 0 || way > 2 || !isGroup(a) || !isGroup(b)) {
            return BAD;
        }
        if (isFull()) {
            return FULL;
        }
        Tower fresh = groups[groupCount];
        if (way == 1) {
            fresh.gather(groups[a], new InTower(groups[b]));
        } else {
            fresh.copyFrom(groups[a]);
            if (way == 0) {
                fresh.joinAll(groups[b]);
            } else {
                fresh.closeUnder(groups[b]);
            }
        }
        return groupCount++;
    }

    public int by(int way, int a, int set) {
        if (way < 0 || way > 1 || !isGroup(a) || !isSet(set)) {
            return BAD;
        }
        if (isFull()) {
            return FULL;
        }
        Wish wish = way == 0 ? new FixesSet(set) : new CarriesSet(set, set);
        groups[groupCount].gather(groups[a], wish);
        return groupCount++;
    }

    public int made(int way, int a) {
        if (way < 0 || way > 3 || !isGroup(a)) {
            return BAD;
        }
        if (isFull()) {
            return FULL;
        }
        Tower fresh = groups[groupCount];
        if (way == 0) {
            // What commutes with a turn commutes with all that is made of it.
            spare[0].clear();
            spare[0].join(current);
            fresh.gather(groups[a], new Commutes(spare[0]));
        } else if (way == 1) {
            fresh.gather(groups[a], new Commutes(groups[a]));
        } else if (way == 2) {
            fresh.becomeCarried(groups[a], current);
        } else {
            fresh.becomeDown(groups[a]);
        }
        return groupCount++;
    }

    public int undo() {
        if (groupCount == 0) {
            return NONE;
        }
        groupCount--;
        return groupCount;
    }

    // ---- asked

    public int size(int a) {
        return isGroup(a) ? groups[a].turnsFrom(0) : BAD;
    }

    public int has(int a) {
        return isGroup(a) ? truth(groups[a].holds(current)) : BAD;
    }

    public int is(int way, int a, int b) {
        if (way < 0 || way > 2 || !isGroup(a) || !isGroup(b)) {
            return BAD;
        }
        if (!groups[a].isWithin(groups[b])) {
            return 0;
        }
        if (way == 1) {
            return truth(groups[a].staysUnder(groups[b]));
        }
        return truth(way == 0 || groups[a].turnsFrom(0) == groups[b].turnsFrom(0));
    }

    public int orbit(int a, int point) {
        return isGroup(a) && isPoint(point) ? groups[a].orbitFrom(0, point) : BAD;
    }

    public int block(int a, int i, int j) {
        return isGroup(a) && isPoint(i) && isPoint(j) ? groups[a].blockOf(i, j) : BAD;
    }

    public int steps(int a) {
        if (!isGroup(a)) {
            return BAD;
        }
        Tower now = groups[a];
        // Each step that is no standstill at least halves the group.
        for (int taken = 0; taken < MOST_HALVINGS; taken++) {
            int turns = now.turnsFrom(0);
            if (turns == 1) {
                return taken;
            }
            Tower next = spare[taken & 1];
            next.becomeDown(now);
            if (next.turnsFrom(0) == turns) {
                return NONE;
            }
            now = next;
        }
        return NONE;
    }

    public int still(int a, int m) {
        if (!isGroup(a) || m < 0 || m > pointCount) {
            return BAD;
        }
        return groups[a].turnsThatLeave(m + MOST_POINTS - pointCount);
    }

    public int element(int a, int k) {
        if (!isGroup(a) || k < 0 || k >= groups[a].turnsFrom(0)) {
            return BAD;
        }
        current = groups[a].turnAt(k);
        return 1;
    }

    public int place(int a) {
        return isGroup(a) ? groups[a].turnsAheadOf(current) : BAD;
    }

    public int carry(int a, int one, int two) {
        if (!isGroup(a) || !isSet(one) || !isSet(two)) {
            return BAD;
        }
        if (Integer.bitCount(one) != Integer.bitCount(two)) {
            return NONE;
        }
        int found = groups[a].firstThat(new CarriesSet(one, two));
        if (found == NO_TURN) {
            return NONE;
        }
        current = found;
        return 1;
    }

    public int count(int what) {
        switch (what) {
            case 0:
                return pointCount;
            case 1:
                return groupCount;
            case 2:
                return pointsLeft(current) - (MOST_POINTS - pointCount);
            case 3:
                return truth(isEven(current));
            default:
                return BAD;
        }
    }

    // ---- what the calls share

    private void beginWith(int n) {
        pointCount = n;
        groupCount = 0;
        current = ONE;
        Arrays.fill(shelf, ONE);
    }

    private boolean isPoint(int point) {
        return point >= 0 && point < pointCount;
    }

    private boolean isSet(int set) {
        return set >= 0 && set < 1 << pointCount;
    }

    private boolean isGroup(int a) {
        return a >= 0 && a < groupCount;
    }

    private boolean isFull() {
        return groupCount >= MOST_GROUPS;
    }

    /** The bits in which a turn of the object's own points is told. */
    private long ownBits() {
        return (1L << 4 * pointCount) - 1;
    }

    private boolean tellsTurn(long told) {
        if ((told & ~ownBits()) != 0) {
            return false;
        }
        int seen = 0;
        for (int point = 0; point < pointCount; point++) {
            int target = (int) (told >> 4 * point) & 15;
            if (target >= pointCount) {
                return false;
            }
            seen |= 1 << target;
        }
        return Integer.bitCount(seen) == pointCount;
    }

    private void joinSwaps(Tower tower) {
        for (int point = 0; point + 1 < pointCount; point++) {
            tower.join(swap(point, point + 1));
        }
    }

    private void joinThreeCycles(Tower tower) {
        for (int point = 0; point + 2 < pointCount; point++) {
            tower.join(chain(swap(point, point + 1), swap(point + 1, point + 2)));
        }
    }

    private static boolean isShelfPlace(int place) {
        return place >= 0 && place < SHELF_PLACES;
    }

    private static int truth(boolean so) {
        return so ? 1 : 0;
    }

    // ---- single turns

    private static int image(int turn, int point) {
        return turn >> 4 * point & 7;
    }

    /** One turn THEN another. */
    private static int chain(int first, int second) {
        int result = 0;
        for (int shift = 0; shift < TURN_BITS; shift += 4) {
            int between = first >> shift & 7;
            result |= (second >> 4 * between & 7) << shift;
        }
        return result;
    }

    private static int reverse(int turn) {
        int result = 0;
        for (int point = 0; point < MOST_POINTS; point++) {
            int target = turn >> 4 * point & 7;
            result |= point << 4 * target;
        }
        return result;
    }

    private static int swap(int i, int j) {
        int changed = i ^ j;
        return ONE ^ changed << 4 * i ^ changed << 4 * j;
    }

    /** (BACK of carrier) THEN turn THEN carrier. */
    private static int carried(int turn, int carrier) {
        return chain(chain(reverse(carrier), turn), carrier);
    }

    private static int commutator(int s, int t) {
        return chain(chain(reverse(s), reverse(t)), chain(s, t));
    }

    private static int timesToOne(int turn) {
        int done = turn;
        int times = 1;
        // No turn of eight points needs more than 15 times.
        while (done != ONE && times < 1000) {
            done = chain(done, turn);
            times++;
        }
        return times;
    }

    private static int pointsLeft(int turn) {
        int left = 0;
        for (int point = 0; point < MOST_POINTS; point++) {
            if (image(turn, point) == point) {
                left++;
            }
        }
        return left;
    }

    /** Each swap makes an odd number of pairs stand the other way round. */
    private static boolean isEven(int turn) {
        int inverted = 0;
        for (int i = 0; i < MOST_POINTS; i++) {
            for (int j = i + 1; j < MOST_POINTS; j++) {
                if (image(turn, i) > image(turn, j)) {
                    inverted++;
                }
            }
        }
        return (inverted & 1) == 0;
    }

    /** What is asked of a turn, told of its first points so that a search can give up early. */
    private abstract static class Wish {
        /** Whether the images of 0 .. level, which alone are settled, speak for the turn. */
        abstract boolean fits(int turn, int level);
    }

    private static final class CarriesSet extends Wish {
        private final int from;
        private final int onto;

        CarriesSet(int from, int onto) {
            this.from = from;
            this.onto = onto;
        }

        boolean fits(int turn, int level) {
            return (from >> level & 1) == (onto >> image(turn, level) & 1);
        }
    }

    private static final class FixesSet extends Wish {
        private final int set;

        FixesSet(int set) {
            this.set = set;
        }

        boolean fits(int turn, int level) {
            int point = image(turn, level);
            return point == level || ((set >> level | set >> point) & 1) == 0;
        }
    }

    private static final class InTower extends Wish {
        private final Tower tower;

        InTower(Tower tower) {
            this.tower = tower;
        }

        boolean fits(int turn, int level) {
            return tower.holdsStart(turn, level);
        }
    }

    private static final class Commutes extends Wish {
        private final Tower tower;

        Commutes(Tower tower) {
            this.tower = tower;
        }

        boolean fits(int turn, int level) {
            for (int k = 0; k < tower.makerCount; k++) {
                if (!agree(turn, tower.makers[k], level)) {
                    return false;
                }
            }
            return true;
        }

        private static boolean agree(int turn, int maker, int level) {
            for (int point = 0; point <= level; point++) {
                int next = image(maker, point);
                if (next <= level && image(turn, next) != image(maker, image(turn, point))) {
                    return false;
                }
            }
            return true;
        }
    }

    /**
     * A GROUP as a tower of levels. Level i has a cell for each point p above i; in it stands one
     * turn of the group that leaves 0 .. i - 1 and carries i to p, if there is any. Each turn of the
     * group is, in just one way, one of level 7 THEN one of level 6 and so on to one of level 0,
     * with ONE where the level's own point stays.
     */
    private static final class Tower {
        private static final int LEVELS = MOST_POINTS;
        private static final int CELLS = LEVELS * MOST_POINTS;
        /** Level i can fill the cells of i + 1 .. 7. */
        private static final int MOST_FILLED = 28;
        /** Each maker at least doubles the group. */
        private static final int MOST_MAKERS = MOST_HALVINGS;

        /** A cell is looked at only where reach has its point; a level's own point needs none. */
        private final int[] cells = new int[CELLS];
        private final int[] cellsBack = new int[CELLS];
        /** For each level the points to which its turns carry its own: that one is always there. */
        private final int[] reach = new int[LEVELS];
        /** The cells that have a turn, in the order in which they got it. */
        private final int[] filled = new int[MOST_FILLED];
        private int filledCount;
        /** A few turns of which the group is the GROUP OF. */
        private final int[] makers = new int[MOST_MAKERS];
        private int makerCount;

        /** Becomes the group that has ONE alone. */
        void clear() {
            for (int level = 0; level < LEVELS; level++) {
                reach[level] = 1 << level;
            }
            filledCount = 0;
            makerCount = 0;
        }

        void copyFrom(Tower from) {
            System.arraycopy(from.cells, 0, cells, 0, CELLS);
            System.arraycopy(from.cellsBack, 0, cellsBack, 0, CELLS);
            System.arraycopy(from.reach, 0, reach, 0, LEVELS);
            System.arraycopy(from.filled, 0, filled, 0, MOST_FILLED);
            System.arraycopy(from.makers, 0, makers, 0, MOST_MAKERS);
            filledCount = from.filledCount;
            makerCount = from.makerCount;
        }

        /** Becomes the GROUP OF itself and a turn; whether that made it greater. */
        boolean join(int turn) {
            int before = filledCount;
            settle(turn);
            if (filledCount == before) {
                return false;
            }
            if (makerCount < MOST_MAKERS) {
                makers[makerCount] = turn;
                makerCount++;
            }
            spreadFrom(before);
            return true;
        }

        void joinAll(Tower other) {
            for (int k = 0; k < other.makerCount; k++) {
                join(other.makers[k]);
            }
        }

        /** Becomes the least group above it that the turns of another one carry to itself. */
        void closeUnder(Tower other) {
            // What is carried may become a maker, and is carried in its turn.
            for (int k = 0; k < makerCount && k < MOST_MAKERS; k++) {
                for (int s = 0; s < other.makerCount; s++) {
                    join(carried(makers[k], other.makers[s]));
                }
            }
        }

        void becomeCarried(Tower from, int carrier) {
            clear();
            for (int k = 0; k < from.makerCount; k++) {
                join(carried(from.makers[k], carrier));
            }
        }

        void becomeDown(Tower from) {
            clear();
            for (int s = 0; s < from.makerCount; s++) {
                for (int t = 0; t < s; t++) {
                    join(commutator(from.makers[s], from.makers[t]));
                }
            }
            closeUnder(from);
        }

        /**
         * Becomes the group of all turns of another one that fit, which must be a group. From the
         * last level up, one turn is enough for each point that is not yet reached there.
         */
        void gather(Tower from, Wish wish) {
            clear();
            for (int level = LEVELS - 1; level >= 0; level--) {
                for (int point = level + 1; point < MOST_POINTS; point++) {
                    if (from.reaches(level, point) && !reaches(level, point)) {
                        int found = from.searchCell(wish, level, point);
                        if (found != NO_TURN) {
                            join(found);
                        }
                    }
                }
            }
        }

        boolean holds(int turn) {
            return holdsStart(turn, LEVELS - 1);
        }

        /** Whether a turn of the group has the same images of 0 .. last. */
        boolean holdsStart(int turn, int last) {
            int rest = turn;
            for (int level = 0; level <= last && level < LEVELS; level++) {
                int point = image(rest, level);
                if (!reaches(level, point)) {
                    return false;
                }
                if (point != level) {
                    rest = chain(rest, cellsBack[cellOf(level, point)]);
                }
            }
            return true;
        }

        boolean isWithin(Tower other) {
            for (int k = 0; k < makerCount; k++) {
                if (!other.holds(makers[k])) {
                    return false;
                }
            }
            return true;
        }

        /** Whether the turns of another group carry it to itself. */
        boolean staysUnder(Tower other) {
            for (int k = 0; k < makerCount; k++) {
                for (int s = 0; s < other.makerCount; s++) {
                    if (!holds(carried(makers[k], other.makers[s]))) {
                        return false;
                    }
                }
            }
            return true;
        }

        /** How many turns of the group leave 0 .. level - 1. */
        int turnsFrom(int level) {
            int turns = 1;
            for (int k = level; k < LEVELS; k++) {
                turns *= Integer.bitCount(reach[k]);
            }
            return turns;
        }

        /** The points to which turns that leave 0 .. level - 1 carry a point. */
        int orbitFrom(int level, int point) {
            int set = 1 << point;
            int before = 0;
            for (int round = 0; round < MOST_POINTS && set != before; round++) {
                before = set;
                for (int k = 0; k < filledCount; k++) {
                    if (levelOf(filled[k]) >= level) {
                        set |= imageOfSet(cells[filled[k]], set);
                    }
                }
            }
            return set;
        }

        /**
         * The points that are one with i if i and j are, and if points that are one are carried to
         * points that are one. Each point is marked with a point that stands for all of its kind.
         */
        int blockOf(int i, int j) {
            int marks = merge(ONE, i, j);
            // Each round but the last merges two kinds at least, and there are eight at most.
            for (int round = 0; round < MOST_POINTS; round++) {
                for (int k = 0; k < makerCount; k++) {
                    marks = mergeImages(marks, makers[k]);
                }
            }
            int set = 0;
            for (int point = 0; point < MOST_POINTS; point++) {
                if (image(marks, point) == image(marks, i)) {
                    set |= 1 << point;
                }
            }
            return set;
        }

        /**
         * How many turns leave just so many points: ONE, and those that move a level's own point and
         * no lower one. Where that point goes may be any point of an orbit that the later levels
         * have: what leaves it there carries the ones to the others, so one count stands for all.
         */
        int turnsThatLeave(int points) {
            int turns = points == MOST_POINTS ? 1 : 0;
            for (int level = 0; level < LEVELS; level++) {
                int seen = 0;
                for (int point = level + 1; point < MOST_POINTS; point++) {
                    if (reaches(level, point) && (seen >> point & 1) == 0) {
                        int alike = orbitFrom(level + 1, point);
                        int turn = cells[cellOf(level, point)];
                        turns += Integer.bitCount(alike) * countLeaving(points - level, level + 1, turn);
                        seen |= alike;
                    }
                }
            }
            return turns;
        }

        /** The turn with k turns of the group ahead of it, k below their number. */
        int turnAt(int k) {
            int ahead = k;
            int above = ONE;
            for (int level = 0; level < LEVELS; level++) {
                int turns = turnsFrom(level + 1);
                int images = imageOfSet(above, reach[level]);
                for (int point = 0; point < MOST_POINTS; point++) {
                    if ((images >> point & 1) == 1) {
                        if (ahead < turns) {
                            above = descend(level, above, point);
                            break;
                        }
                        ahead -= turns;
                    }
                }
            }
            return above;
        }

        int turnsAheadOf(int turn) {
            int ahead = 0;
            int above = ONE;
            for (int level = 0; level < LEVELS; level++) {
                int point = image(turn, level);
                int images = imageOfSet(above, reach[level]);
                int lower = images & (1 << point) - 1;
                ahead += Integer.bitCount(lower) * turnsFrom(level + 1);
                if ((images >> point & 1) == 0) {
                    return ahead;
                }
                above = descend(level, above, point);
            }
            return ahead;
        }

        /** The first turn in ORDER that fits; NO_TURN if none does. */
        int firstThat(Wish wish) {
            return search(wish, 0, ONE);
        }

        private boolean reaches(int level, int point) {
            return (reach[level] >> point & 1) == 1;
        }

        /** Takes off a turn, level by level, what stands in the cells; a rest fills an empty cell. */
        private void settle(int turn) {
            int rest = turn;
            for (int level = 0; level < LEVELS && rest != ONE; level++) {
                int point = image(rest, level);
                int cell = cellOf(level, point);
                if (!reaches(level, point)) {
                    cells[cell] = rest;
                    cellsBack[cell] = reverse(rest);
                    reach[level] |= 1 << point;
                    if (filledCount < MOST_FILLED) {
                        filled[filledCount] = cell;
                        filledCount++;
                    }
                    return;
                }
                if (point != level) {
                    rest = chain(rest, cellsBack[cell]);
                }
            }
        }

        /**
         * Makes a group of the tower again, after cells from one on have been filled: it is one when
         * each turn of a cell, THEN one of the same level or a later one, settles without a rest.
         */
        private void spreadFrom(int first) {
            // A tower with all cells filled has all turns: there is nothing more to look for.
            for (int k = first; k < filledCount && filledCount < MOST_FILLED; k++) {
                int cell = filled[k];
                for (int m = 0; m <= k; m++) {
                    int other = filled[m];
                    if (levelOf(cell) <= levelOf(other)) {
                        settle(chain(cells[cell], cells[other]));
                    }
                    if (levelOf(other) <= levelOf(cell)) {
                        settle(chain(cells[other], cells[cell]));
                    }
                }
            }
        }

        private int searchCell(Wish wish, int level, int point) {
            int turn = cells[cellOf(level, point)];
            return wish.fits(turn, level) ? search(wish, level + 1, turn) : NO_TURN;
        }

        /** The first turn that fits among those that levels from one on can make of what is above. */
        private int search(Wish wish, int level, int above) {
            if (level >= LEVELS) {
                return above;
            }
            int aboveBack = reverse(above);
            for (int point = 0; point < MOST_POINTS; point++) {
                int middle = image(aboveBack, point);
                if (reaches(level, middle)) {
                    int turn = step(level, above, middle);
                    int found = wish.fits(turn, level) ? search(wish, level + 1, turn) : NO_TURN;
                    if (found != NO_TURN) {
                        return found;
                    }
                }
            }
            return NO_TURN;
        }

        /** How many turns leave just so many points among those from level on. */
        private int countLeaving(int points, int level, int above) {
            if (points < 0 || points > LEVELS - level) {
                return 0;
            }
            if (level >= LEVELS) {
                return 1;
            }
            int turns = 0;
            for (int middle = level; middle < MOST_POINTS; middle++) {
                if (reaches(level, middle)) {
                    int turn = step(level, above, middle);
                    int left = image(turn, level) == level ? 1 : 0;
                    turns += countLeaving(points - left, level + 1, turn);
                }
            }
            return turns;
        }

        /** The turn of the level's cell for a point THEN what is above. */
        private int step(int level, int above, int middle) {
            return middle == level ? above : chain(cells[cellOf(level, middle)], above);
        }

        /** What is above, made to carry the level's own point to a point that can be reached. */
        private int descend(int level, int above, int point) {
            return step(level, above, image(reverse(above), point));
        }

        private static int cellOf(int level, int point) {
            return level * MOST_POINTS + point;
        }

        private static int levelOf(int cell) {
            return cell / MOST_POINTS;
        }

        private static int imageOfSet(int turn, int set) {
            int images = 0;
            for (int point = 0; point < MOST_POINTS; point++) {
                if ((set >> point & 1) == 1) {
                    images |= 1 << image(turn, point);
                }
            }
            return images;
        }

        private static int mergeImages(int marks, int turn) {
            int result = marks;
            for (int point = 0; point < MOST_POINTS; point++) {
                result = merge(result, image(turn, point), image(turn, image(result, point)));
            }
            return result;
        }

        /** Marks all points of i's kind as those of j's kind. */
        private static int merge(int marks, int i, int j) {
            int gone = image(marks, i);
            int kept = image(marks, j);
            int result = marks;
            for (int point = 0; point < MOST_POINTS && gone != kept; point++) {
                if (image(marks, point) == gone) {
                    result ^= (gone ^ kept) << 4 * point;
                }
            }
            return result;
        }
    }
}
