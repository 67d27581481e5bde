/** What the tests share: typing texts, comparing answers, and ending with the right exit code. */
final class Checks {
    private static int checks = 0;
    private static int wrong = 0;

    private Checks() {
    }

    static void due(String call, long got, long want) {
        checks++;
        if (got != want) {
            wrong++;
            System.out.println(call + " answered " + got + ", due is " + want);
        }
    }

    static void due(String call, boolean got, boolean want) {
        due(call, got ? 1L : 0L, want ? 1L : 0L);
    }

    static void type(QuantifierProofs x, String text) {
        for (int i = 0; i < text.length(); i++) {
            due("type of character " + i + " of '" + text + "'", x.type(text.charAt(i)), true);
        }
    }

    static int formula(QuantifierProofs x, String text) {
        type(x, text);
        return x.formula();
    }

    static int trace(QuantifierProofs x, String text) {
        type(x, text);
        return x.trace();
    }

    /** A new object with that formula, which must be a right one. */
    static QuantifierProofs with(String formula) {
        QuantifierProofs x = new QuantifierProofs();
        due("formula '" + formula + "'", formula(x, formula), 0);
        return x;
    }

    /** A new object's answer to that formula. */
    static void formulaDue(String text, int want) {
        due("formula '" + text + "'", formula(new QuantifierProofs(), text), want);
    }

    static void traceDue(QuantifierProofs x, String text, int want) {
        due("trace '" + text + "'", trace(x, text), want);
    }

    /** Like formulaDue, with a ^ before the word (or the end) that is wrong. */
    static void formulaWrong(String marked, int what) {
        formulaDue(withoutMark(marked), wrongAtMark(marked, what));
    }

    /** Like traceDue, with a ^ before the word (or the end) that is wrong. */
    static void traceWrong(QuantifierProofs x, String marked, int what) {
        traceDue(x, withoutMark(marked), wrongAtMark(marked, what));
    }

    private static String withoutMark(String marked) {
        return marked.replace("^", "");
    }

    private static int wrongAtMark(String marked, int what) {
        return -1000 * what - marked.indexOf('^');
    }

    /** The number for a set of literals, as clause and step answer it. */
    static int set(int... literals) {
        int set = 0;
        for (int literal : literals) {
            set += 1 << (literal > 0 ? literal - 1 : 7 - literal);
        }
        return set;
    }

    static void finish(String test) {
        System.out.println(test + ": " + checks + " checks, " + wrong + " wrong");
        if (wrong != 0) {
            System.exit(1);
        }
    }
}
