import java.util.HashSet;
import java.util.Set;

/**
 * What the tests share: comparing answers, telling which sentence of the document an answer
 * breaks, and ending with the right exit code.
 */
final class Checks {
    private static final Set<String> SENTENCES = new HashSet<>();
    private static String sentence = "";
    private static int checksOfSentence = 0;
    private static int checks = 0;
    private static int wrong = 0;

    private Checks() {
    }

    /** What is checked from here on is what these words of the document ask. */
    static void sentence(String part, String words) {
        endSentence();
        sentence = part + ": \"" + words + "\"";
        checksOfSentence = 0;
        if (!SENTENCES.add(sentence)) {
            fail("it has two tests");
        }
    }

    private static void endSentence() {
        if (!sentence.isEmpty() && checksOfSentence == 0) {
            fail("it has no test");
        }
    }

    static void due(String call, long got, long want) {
        checks++;
        checksOfSentence++;
        if (got != want) {
            fail(call + " answered " + got + ", due is " + want);
        }
    }

    static void due(String call, boolean got, boolean want) {
        due(call, got ? 1L : 0L, want ? 1L : 0L);
    }

    static void fail(String text) {
        wrong++;
        System.out.println(sentence.isEmpty() ? text : sentence + ": " + text);
    }

    /** Each on a new object; a ^ stands before the word (or the end) that is wrong. */
    static void formulasWrong(int what, String... marked) {
        for (String text : marked) {
            new Subject().formulaWrong(what, text);
        }
    }

    /** Each on a new object with that formula; a ^ stands before what is wrong. */
    static void tracesWrong(String formula, int what, String... marked) {
        for (String text : marked) {
            Subject.with(formula).traceWrong(what, text);
        }
    }

    /** The number for a set of literals, as clause and step answer it. */
    static int set(int... literals) {
        int set = 0;
        for (int literal : literals) {
            set += (int) Math.pow(2, literal > 0 ? literal - 1 : -literal + 7);
        }
        return set;
    }

    /** What step answers for a cube with these literals. */
    static int cube(int... literals) {
        return 65536 + set(literals);
    }

    static void finish(String test) {
        endSentence();
        String of = SENTENCES.isEmpty() ? "" : " of " + SENTENCES.size() + " sentences";
        System.out.println(test + ": " + checks + " checks" + of + ", " + wrong + " wrong");
        if (wrong != 0) {
            System.exit(1);
        }
    }
}
