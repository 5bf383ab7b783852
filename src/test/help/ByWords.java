import java.util.ArrayList;
import java.util.BitSet;
import java.util.List;

/** What the document's words ask of groups, each of which is the set of all its turns. */
final class ByWords {
    final Turns turns;
    /** Above so many pairs of turns a few that make a group stand for all of it. */
    private final long mostPairs;

    ByWords(Turns turns, long mostPairs) {
        this.turns = turns;
        this.mostPairs = mostPairs;
    }

    // ---- groups of turns

    /** The least group that has all of some turns. */
    BitSet groupOf(BitSet some) {
        return spread(some, new ArrayList<>());
    }

    /** A few of some turns, of which the group of all of them is made. */
    List<Integer> makersOf(BitSet some) {
        List<Integer> makers = new ArrayList<>();
        spread(some, makers);
        return makers;
    }

    private BitSet spread(BitSet some, List<Integer> makers) {
        BitSet group = new BitSet();
        group.set(0);
        for (int t = some.nextSetBit(0); t >= 0; t = some.nextSetBit(t + 1)) {
            if (!group.get(t)) {
                makers.add(t);
                group = withOneMore(group, makers);
            }
        }
        return group;
    }

    /**
     * The group of some makers, all but the last of which make a group that is known. It has all that
     * the known one's turns THEN one turn are, or nothing of it: so only that one turn is looked at.
     */
    BitSet withOneMore(BitSet known, List<Integer> makers) {
        BitSet group = (BitSet) known.clone();
        List<Integer> ends = new ArrayList<>();
        ends.add(0);
        for (int at = 0; at < ends.size(); at++) {
            for (int maker : makers) {
                int end = turns.then(ends.get(at), maker);
                if (!group.get(end)) {
                    ends.add(end);
                    for (int t = known.nextSetBit(0); t >= 0; t = known.nextSetBit(t + 1)) {
                        group.set(turns.then(t, end));
                    }
                }
            }
        }
        return group;
    }

    /** All turns of a group; only a few that make it, if with so many others they are too many. */
    private BitSet someOf(BitSet group, long others) {
        if (group.cardinality() * others <= mostPairs) {
            return group;
        }
        BitSet few = new BitSet();
        for (int maker : makersOf(group)) {
            few.set(maker);
        }
        return few;
    }

    static BitSet only(int t) {
        BitSet only = new BitSet();
        only.set(t);
        return only;
    }

    BitSet all() {
        BitSet all = new BitSet();
        all.set(0, turns.rows.length);
        return all;
    }

    BitSet even() {
        BitSet even = new BitSet();
        for (int t = 0; t < turns.rows.length; t++) {
            even.set(t, turns.even(t));
        }
        return even;
    }

    // ---- made of groups

    static BitSet both(BitSet a, BitSet b) {
        BitSet all = (BitSet) a.clone();
        all.or(b);
        return all;
    }

    BitSet join(BitSet a, BitSet b) {
        return groupOf(both(a, b));
    }

    static BitSet meet(BitSet a, BitSet b) {
        BitSet meet = (BitSet) a.clone();
        meet.and(b);
        return meet;
    }

    BitSet closed(BitSet a, BitSet b) {
        BitSet whole = join(a, b);
        BitSet result = a;
        while (true) {
            BitSet all = (BitSet) result.clone();
            BitSet carriers = someOf(whole, a.cardinality());
            BitSet moved = someOf(result, carriers.cardinality());
            for (int s = carriers.nextSetBit(0); s >= 0; s = carriers.nextSetBit(s + 1)) {
                for (int t = moved.nextSetBit(0); t >= 0; t = moved.nextSetBit(t + 1)) {
                    all.set(turns.carried(t, s));
                }
            }
            BitSet next = groupOf(all);
            if (next.equals(result) || carriers == whole && moved == result) {
                return next;
            }
            result = next;
        }
    }

    BitSet fix(BitSet a, int set) {
        BitSet result = new BitSet();
        for (int t = a.nextSetBit(0); t >= 0; t = a.nextSetBit(t + 1)) {
            result.set(t, turns.fixes(t, set));
        }
        return result;
    }

    BitSet keep(BitSet a, int set) {
        BitSet result = new BitSet();
        for (int t = a.nextSetBit(0); t >= 0; t = a.nextSetBit(t + 1)) {
            result.set(t, turns.imageOfSet(t, set) == set);
        }
        return result;
    }

    BitSet beside(BitSet a, int turn) {
        BitSet result = new BitSet();
        for (int t = a.nextSetBit(0); t >= 0; t = a.nextSetBit(t + 1)) {
            result.set(t, turns.commute(t, turn));
        }
        return result;
    }

    BitSet centre(BitSet a) {
        BitSet result = new BitSet();
        for (int t = a.nextSetBit(0); t >= 0; t = a.nextSetBit(t + 1)) {
            result.set(t, commutesWithAll(t, a));
        }
        return result;
    }

    private boolean commutesWithAll(int t, BitSet group) {
        for (int s = group.nextSetBit(0); s >= 0; s = group.nextSetBit(s + 1)) {
            if (!turns.commute(s, t)) {
                return false;
            }
        }
        return true;
    }

    BitSet carried(BitSet a, int carrier) {
        BitSet result = new BitSet();
        for (int t = a.nextSetBit(0); t >= 0; t = a.nextSetBit(t + 1)) {
            result.set(turns.carried(t, carrier));
        }
        return result;
    }

    BitSet down(BitSet a) {
        BitSet some = someOf(a, a.cardinality());
        BitSet all = new BitSet();
        for (int s = some.nextSetBit(0); s >= 0; s = some.nextSetBit(s + 1)) {
            for (int t = some.nextSetBit(0); t >= 0; t = some.nextSetBit(t + 1)) {
                all.set(turns.then(turns.then(turns.back(s), turns.back(t)), turns.then(s, t)));
            }
        }
        BitSet result = groupOf(all);
        return some == a ? result : closed(result, a);
    }

    // ---- asked of groups

    static boolean within(BitSet a, BitSet b) {
        return both(a, b).equals(b);
    }

    boolean normal(BitSet a, BitSet b) {
        if (!within(a, b)) {
            return false;
        }
        BitSet some = someOf(b, a.cardinality());
        for (int t = a.nextSetBit(0); t >= 0; t = a.nextSetBit(t + 1)) {
            for (int s = some.nextSetBit(0); s >= 0; s = some.nextSetBit(s + 1)) {
                if (!a.get(turns.carried(t, s))) {
                    return false;
                }
            }
        }
        return true;
    }

    int orbit(BitSet a, int point) {
        int set = 0;
        for (int t = a.nextSetBit(0); t >= 0; t = a.nextSetBit(t + 1)) {
            set |= 1 << turns.rows[t][point];
        }
        return set;
    }

    /** What all SETS of that kind have: the least, if it is of that kind itself; -1 if it is not. */
    int block(BitSet a, int i, int j) {
        int both = 1 << i | 1 << j;
        int least = (1 << turns.n) - 1;
        for (int set = 0; set < 1 << turns.n; set++) {
            if ((set & both) == both && (set & least) != least && isBlock(a, set)) {
                least &= set;
            }
        }
        return isBlock(a, least) ? least : -1;
    }

    private boolean isBlock(BitSet a, int set) {
        for (int t = a.nextSetBit(0); t >= 0; t = a.nextSetBit(t + 1)) {
            int images = turns.imageOfSet(t, set);
            if (images != set && (images & set) != 0) {
                return false;
            }
        }
        return true;
    }

    /** -1 if it never has ONE alone. */
    int steps(BitSet a) {
        BitSet now = a;
        int taken = 0;
        while (now.cardinality() > 1) {
            BitSet next = down(now);
            if (next.equals(now)) {
                return -1;
            }
            now = next;
            taken++;
        }
        return taken;
    }

    int still(BitSet a, int m) {
        int found = 0;
        for (int t = a.nextSetBit(0); t >= 0; t = a.nextSetBit(t + 1)) {
            found += turns.left(t) == m ? 1 : 0;
        }
        return found;
    }

    /** The first turn that carries one SET to another, or -1. */
    int firstThatCarries(BitSet a, int one, int two) {
        for (int t = a.nextSetBit(0); t >= 0; t = a.nextSetBit(t + 1)) {
            if (turns.imageOfSet(t, one) == two) {
                return t;
            }
        }
        return -1;
    }
}
