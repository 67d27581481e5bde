/**
 * An object under test, with the checks that are asked of it most. It counts its calls, for what
 * an object answers behind its 512th is promised nowhere.
 */
final class Subject {
    private static final int MOST_CALLS = 512;
    private static final int BAD = QuantifierProofs.BAD;

    private final QuantifierProofs x = new QuantifierProofs();
    private int calls = 0;

    /** A new object with that formula, which must be a right one. */
    static Subject with(String formula) {
        Subject subject = new Subject();
        subject.formulaDue(formula, 0);
        return subject;
    }

    /** The object itself, for a call that is about to be made. */
    QuantifierProofs call() {
        calls++;
        if (calls == MOST_CALLS + 1) {
            Checks.fail("the test makes more than 512 calls of one object");
        }
        return x;
    }

    int callsLeft() {
        return MOST_CALLS - calls;
    }

    /** Types characters that all must be taken. */
    void type(String text) {
        for (int i = 0; i < text.length(); i++) {
            boolean taken = call().type(text.charAt(i));
            Checks.due("type of character " + i + " of '" + text + "'", taken, true);
        }
    }

    /** Types one that must not be taken. */
    void refusedDue(char c) {
        Checks.due("type((char) " + (int) c + ")", call().type(c), false);
    }

    // ---- reading

    void formulaDue(String text, int want) {
        type(text);
        Checks.due("formula '" + text + "'", call().formula(), want);
    }

    void traceDue(String text, int want) {
        type(text);
        Checks.due("trace '" + text + "'", call().trace(), want);
    }

    /** A formula with a ^ before the word (or the end) that is wrong. */
    void formulaWrong(int what, String marked) {
        formulaDue(marked.replace("^", ""), -1000 * what - marked.indexOf('^'));
    }

    /** A trace with a ^ before the word (or the end) that is wrong. */
    void traceWrong(int what, String marked) {
        traceDue(marked.replace("^", ""), -1000 * what - marked.indexOf('^'));
    }

    /** Whatever stood in the buffer would be wrong itself, or move the place of the x. */
    void bufferEmptyDue() {
        traceWrong(QuantifierProofs.SYNTAX, "r ^x");
    }

    // ---- what is told: all of it, and BAD before and behind it

    void variablesDue(int... want) {
        Checks.due("variables()", call().variables(), want.length);
        variableDue(-1, BAD);
        for (int i = 0; i < want.length; i++) {
            variableDue(i, want[i]);
        }
        variableDue(want.length, BAD);
    }

    void variableDue(int i, int want) {
        Checks.due("variable(" + i + ")", call().variable(i), want);
    }

    void clausesDue(int... want) {
        Checks.due("clauses()", call().clauses(), want.length);
        clauseDue(-1, BAD);
        for (int i = 0; i < want.length; i++) {
            clauseDue(i, want[i]);
        }
        clauseDue(want.length, BAD);
    }

    void clauseDue(int i, int want) {
        Checks.due("clause(" + i + ")", call().clause(i), want);
    }

    void stepsDue(int... want) {
        stepCountDue(want.length);
        stepDue(-1, BAD);
        for (int i = 0; i < want.length; i++) {
            stepDue(i, want[i]);
        }
        stepDue(want.length, BAD);
    }

    void stepCountDue(int want) {
        Checks.due("steps()", call().steps(), want);
    }

    void stepDue(int i, int want) {
        Checks.due("step(" + i + ")", call().step(i), want);
    }

    void restsDue(int... want) {
        restDue(-1, BAD);
        for (int i = 0; i < want.length; i++) {
            restDue(i, want[i]);
        }
        restDue(want.length, BAD);
    }

    void restDue(int i, int want) {
        Checks.due("rests(" + i + ")", call().rests(i), want);
    }

    void emptyDue(int want) {
        Checks.due("empty()", call().empty(), want);
    }

    // ---- the game

    void wonDue(int n, int values, boolean want) {
        Checks.due("won(" + n + ", " + values + ")", call().won(n, values), want);
    }

    void playDue(int values, int want) {
        Checks.due("play(" + values + ")", call().play(values), want);
    }
}
