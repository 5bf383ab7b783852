import java.util.HashSet;
import java.util.Set;

/** Tells answers and states that are not the ones that are due, with the sentence that asks for them. */
final class Due {
    private static final Set<String> SENTENCES = new HashSet<>();
    private static String sentence = "";
    private static int wrong = 0;

    private Due() {
    }

    /** What follows is due by these words of the document. */
    static void by(String words) {
        sentence = words;
        SENTENCES.add(words);
    }

    static void answer(String call, long got, long want) {
        if (got != want) {
            tell(call + " answered " + got + ", due is " + want);
        }
    }

    static void turn(String behind, long got, long want) {
        if (got != want) {
            tell("told() behind " + behind + " answered " + Long.toHexString(got) + ", due is "
                + Long.toHexString(want) + " (by sixteens)");
        }
    }

    static void state(String behind, String got, String want) {
        if (!got.equals(want)) {
            tell("behind " + behind + " there is\n    " + got + "\n  due is\n    " + want);
        }
    }

    private static void tell(String fault) {
        wrong++;
        if (wrong <= 40) {
            System.out.println("\"" + sentence + "\": " + fault);
        }
    }

    /** The last call of a test's main method. */
    static void end() {
        System.out.println(wrong == 0 ? SENTENCES.size() + " sentences are as due"
            : wrong + " answers are not as due");
        if (wrong != 0) {
            System.exit(1);
        }
    }
}
