import java.util.ArrayList;
import java.util.BitSet;
import java.util.HashSet;
import java.util.List;
import java.util.Set;

/**
 * Every GROUP of 2 to 6 POINTS with every TURN, SET and POINT, and every two GROUPS of 2 to 5 POINTS.
 * Where the document's words speak of each TURN of a GROUP, what is due comes of all of them, and not
 * of a few that make it.
 */
public final class EachGroupTest {
    /** How many groups of n points there are; these numbers are known. */
    private static final int[] GROUPS = {0, 0, 2, 6, 30, 156, 1455};
    private static final int MOST_POINTS = 6;
    private static final int MOST_POINTS_OF_TWO = 5;

    private final ByWords words;
    private final List<BitSet> groups;
    private final GroupLook look;

    private EachGroupTest(int n) {
        words = new ByWords(new Turns(n), Long.MAX_VALUE);
        look = new GroupLook(words, 1);
        groups = allGroups();
    }

    public static void main(String[] args) {
        for (int n = 2; n <= MOST_POINTS; n++) {
            EachGroupTest test = new EachGroupTest(n);
            Due.by("A GROUP is a set of TURNS with ONE, with s THEN t for each two, and BACK of each one");
            Due.answer("how many groups of " + n + " points there are", test.groups.size(), GROUPS[n]);
            for (BitSet group : test.groups) {
                test.look.lookAt(group);
            }
            if (n <= MOST_POINTS_OF_TWO) {
                test.lookAtEachTwo();
            }
        }
        Due.end();
    }

    /** Each group is one that came already and one turn more. */
    private List<BitSet> allGroups() {
        List<BitSet> list = new ArrayList<>(List.of(words.groupOf(new BitSet())));
        Set<BitSet> found = new HashSet<>(list);
        List<Integer> turnsToAdd = turnsToAdd();
        for (int k = 0; k < list.size(); k++) {
            BitSet group = list.get(k);
            List<Integer> few = words.makersOf(group);
            few.add(0);
            for (int t : turnsToAdd) {
                few.set(few.size() - 1, t);
                BitSet more = group.get(t) ? group : words.withOneMore(group, few);
                if (found.add(more)) {
                    list.add(more);
                }
            }
        }
        return list;
    }

    /** Of all turns that make the same group alone, the first. */
    private List<Integer> turnsToAdd() {
        Set<BitSet> found = new HashSet<>();
        List<Integer> firsts = new ArrayList<>();
        for (int t = 1; t < words.turns.rows.length; t++) {
            if (found.add(words.groupOf(ByWords.only(t)))) {
                firsts.add(t);
            }
        }
        return firsts;
    }

    private void lookAtEachTwo() {
        for (BitSet a : groups) {
            for (BitSet b : groups) {
                look.lookAtTwo(a, b);
            }
        }
    }
}
