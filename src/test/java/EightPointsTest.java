import java.util.BitSet;
import java.util.LinkedHashSet;
import java.util.List;
import java.util.Set;

/**
 * Groups of eight POINTS of many kinds, each as it is and with its POINTS carried to others, with every
 * SET and POINT and with some TURNS; and some two of them. What is due comes of all TURNS of a group,
 * but for DOWN, CLOSED and NORMAL of great groups, where it comes of a few that make them.
 */
public final class EightPointsTest {
    private static final long MOST_PAIRS = 100_000;
    private static final int STEP = 1999;
    /** Each group stands with so many that come behind it. */
    private static final int OTHERS = 4;
    private static final long SCRAMBLE = Stand.told(3, 6, 0, 5, 7, 2, 4, 1);

    private static final long ROUND_OF_SEVEN = Stand.told(1, 2, 3, 4, 5, 6, 0, 7);
    private static final long TIMES_TWO_OF_SEVEN = Stand.told(0, 2, 4, 6, 1, 3, 5, 7);
    private static final long TIMES_THREE_OF_SEVEN = Stand.told(0, 3, 6, 2, 5, 1, 4, 7);
    private static final long LINE_OF_SEVEN = Stand.told(7, 6, 3, 2, 5, 4, 1, 0);
    private static final long FIRST_BIT = Stand.told(1, 0, 3, 2, 5, 4, 7, 6);
    private static final long SECOND_BIT = Stand.told(2, 3, 0, 1, 6, 7, 4, 5);
    private static final long THIRD_BIT = Stand.told(4, 5, 6, 7, 0, 1, 2, 3);
    private static final long BITS_ROUND = Stand.told(0, 2, 4, 6, 1, 3, 5, 7);
    private static final long FIRST_BIT_ADDED = Stand.told(0, 3, 2, 1, 4, 7, 6, 5);
    private static final long ROUND_OF_FOUR = Stand.told(1, 2, 3, 0, 4, 5, 6, 7);
    private static final long FIRST_SWAP = Stand.swap(8, 0, 1);
    private static final long LAST_SWAP = Stand.swap(8, 6, 7);

    /** A few turns that make a group, and how many turns it has. */
    private record Kind(int size, long... makers) {
    }

    private static final List<Kind> KINDS = List.of(
        new Kind(1),
        new Kind(8, Stand.round(8, 1)),
        new Kind(4, Stand.round(8, 2)),
        new Kind(16, Stand.round(8, 1), Stand.last(8)),
        // The other groups that carry each point to each in one way.
        new Kind(8, FIRST_BIT, SECOND_BIT, THIRD_BIT),
        new Kind(8, Stand.told(1, 2, 3, 0, 5, 6, 7, 4), THIRD_BIT),
        new Kind(8, Stand.told(1, 2, 3, 0, 7, 4, 5, 6), Stand.told(4, 5, 6, 7, 2, 3, 0, 1)),
        // Points as rows of bits: sums, sums and multiples, and all that carries sums to sums.
        new Kind(56, FIRST_BIT, Stand.told(0, 2, 4, 6, 3, 1, 7, 5)),
        new Kind(168, FIRST_BIT, Stand.told(0, 2, 4, 6, 3, 1, 7, 5), Stand.told(0, 1, 4, 5, 6, 7, 2, 3)),
        new Kind(168, BITS_ROUND, FIRST_BIT_ADDED),
        new Kind(1344, FIRST_BIT, BITS_ROUND, FIRST_BIT_ADDED),
        // The corners of a cube, turned, and seen in a mirror.
        new Kind(24, BITS_ROUND, Stand.told(1, 3, 0, 2, 5, 7, 4, 6)),
        new Kind(48, BITS_ROUND, Stand.told(1, 3, 0, 2, 5, 7, 4, 6), Stand.last(8)),
        // The numbers modulo 7 and one beyond.
        new Kind(21, ROUND_OF_SEVEN, TIMES_TWO_OF_SEVEN),
        new Kind(42, ROUND_OF_SEVEN, TIMES_THREE_OF_SEVEN),
        new Kind(168, ROUND_OF_SEVEN, TIMES_TWO_OF_SEVEN, LINE_OF_SEVEN),
        new Kind(336, ROUND_OF_SEVEN, TIMES_THREE_OF_SEVEN, LINE_OF_SEVEN),
        // The numbers modulo 5 and one beyond, and with them a swap of the last two.
        new Kind(120, Stand.told(1, 2, 3, 4, 0, 5, 6, 7), Stand.told(0, 2, 4, 1, 3, 5, 7, 6),
            Stand.told(5, 4, 2, 3, 1, 0, 6, 7)),
        // Rows of two numbers modulo 3, but for the row of noughts.
        new Kind(48, Stand.told(3, 7, 2, 6, 1, 5, 0, 4), Stand.told(2, 5, 0, 3, 6, 1, 4, 7)),
        // Parts of the points by themselves, or changed for one another.
        new Kind(2, FIRST_BIT),
        new Kind(16, FIRST_SWAP, Stand.swap(8, 2, 3), Stand.swap(8, 4, 5), LAST_SWAP),
        new Kind(128, FIRST_SWAP, Stand.told(2, 3, 0, 1, 4, 5, 6, 7), THIRD_BIT),
        new Kind(384, FIRST_SWAP, Stand.told(2, 3, 0, 1, 4, 5, 6, 7), Stand.round(8, 2)),
        new Kind(24, Stand.told(1, 0, 2, 3, 5, 4, 6, 7), Stand.told(1, 2, 3, 0, 5, 6, 7, 4)),
        new Kind(576, FIRST_SWAP, ROUND_OF_FOUR, LAST_SWAP, Stand.told(0, 1, 2, 3, 5, 6, 7, 4)),
        new Kind(1152, FIRST_SWAP, ROUND_OF_FOUR, THIRD_BIT),
        new Kind(9, Stand.told(1, 2, 0, 3, 4, 5, 6, 7), Stand.told(0, 1, 2, 4, 5, 3, 6, 7)),
        new Kind(72, FIRST_SWAP, Stand.told(1, 2, 0, 3, 4, 5, 6, 7), Stand.told(3, 4, 5, 0, 1, 2, 6, 7)),
        new Kind(720, FIRST_SWAP, Stand.swap(8, 1, 2), LAST_SWAP, Stand.told(0, 1, 2, 4, 5, 6, 7, 3)),
        new Kind(1440, FIRST_SWAP, Stand.told(1, 2, 3, 4, 5, 0, 6, 7), LAST_SWAP),
        new Kind(5040, FIRST_SWAP, ROUND_OF_SEVEN),
        new Kind(20160, ROUND_OF_SEVEN, Stand.told(0, 1, 2, 3, 4, 6, 7, 5)),
        new Kind(40320, FIRST_SWAP, Stand.round(8, 1)));

    private final Turns turns = new Turns(8);
    private final ByWords words = new ByWords(turns, MOST_PAIRS);
    private final GroupLook look = new GroupLook(words, STEP);

    public static void main(String[] args) {
        EightPointsTest test = new EightPointsTest();
        List<BitSet> groups = List.copyOf(test.groups());
        for (BitSet group : groups) {
            test.look.lookAt(group);
        }
        for (int a = 0; a < groups.size(); a++) {
            for (int k = 0; k <= OTHERS; k++) {
                BitSet other = groups.get((a + k * k) % groups.size());
                test.look.lookAtTwo(groups.get(a), other);
                test.look.lookAtTwo(other, groups.get(a));
            }
        }
        Due.end();
    }

    /** All kinds, and those that become others when their points are carried to others. */
    private Set<BitSet> groups() {
        Due.by("The GROUP OF some TURNS is the least one that has them");
        Set<BitSet> groups = new LinkedHashSet<>();
        int scramble = turns.ofTold(SCRAMBLE);
        for (Kind kind : KINDS) {
            BitSet some = new BitSet();
            for (long told : kind.makers()) {
                some.set(turns.ofTold(told));
            }
            BitSet group = words.groupOf(some);
            Due.answer("how many turns a group has, as the test says", group.cardinality(), kind.size());
            groups.add(group);
            groups.add(words.carried(group, scramble));
        }
        return groups;
    }
}
