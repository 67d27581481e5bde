/** Reading a trace, and promises 4, 9 and 10, sentence by sentence. */
public final class TraceTest {
    private static final int SYNTAX = QuantifierProofs.SYNTAX;
    private static final int NAME = QuantifierProofs.NAME;
    private static final int TWICE = QuantifierProofs.TWICE;
    private static final int MANY = QuantifierProofs.MANY;
    private static final int FALSE = QuantifierProofs.FALSE;

    /** 1 and -1 2 are clauses, 1 2 is a cube. */
    private static final String FORMULA = "e 1 2 0 1 0 -1 2 0";
    /** The beginnings of a trace behind which a word can be wrong, but for the very first. */
    private static final String[] STAGES = {"r ", "s ", "r 1 ", "r 1 1 ", "s 1 -2 2 ", "r 1 1 0 ",
        "r 1 1 0 0 ", "r 1 1 0 0 2 1 0 1 ", "r 1 1 0 0 2 -1 2 0 0 3 2 0 1 2 "};
    private static final int[] NEVER = {-2, 25, 31, 32, 33, 256, Integer.MAX_VALUE,
        Integer.MIN_VALUE};

    public static void main(String[] args) {
        parts();
        syntax();
        name();
        twiceManyFalse();
        whichIsFirst();
        endAndWhatStays();
        promise4();
        promises9And10();
        Checks.finish("TraceTest");
    }

    /** Steps without literals and ids: id 0 0, with ids from 1. */
    private static String bareSteps(int count) {
        StringBuilder text = new StringBuilder();
        for (int id = 1; id <= count; id++) {
            text.append(id).append(" 0 0 ");
        }
        return text.toString();
    }

    /** An object with 24 clauses, ids 1 .. 24. */
    private static Subject full() {
        Subject x = Subject.with("0");
        x.traceDue("r " + bareSteps(24), 24);
        return x;
    }

    // ---- The trace and its parts

    private static void parts() {
        atMost24();
        ids1To99();
        bothWays();
        goesOn();
        noSteps();
        partsOfAStep();
        clauseOrCube();
        oneAfterTheOther();
    }

    private static void atMost24() {
        Checks.sentence("The trace", "STEPS, at most 24, each a CLAUSE or a CUBE");
        Subject x = full();
        x.stepsDue(new int[24]);
        x.traceWrong(MANY, "r ^25 0 0");
        x.traceWrong(MANY, "s ^25 0 0");
        x.stepCountDue(24);
        // 24 of both kinds together.
        x = Subject.with("e 1 0 1 0");
        for (int i = 1; i <= 12; i++) {
            x.traceDue("r " + i + " 1 0 0", 1);
            x.traceDue("s " + (i + 12) + " 1 0 0", 1);
        }
        x.traceWrong(MANY, "r ^25");
        x.stepCountDue(24);
    }

    private static void ids1To99() {
        Checks.sentence("The trace", "with an ID (a number 1 .. 99)");
        Subject x = Subject.with("0");
        x.traceWrong(SYNTAX, "r ^0 0 0");
        x.traceWrong(NAME, "r ^100 0 0");
        x.traceDue("r 1 0 0 99 0 0 2 0 0 98 0 0 50 0 0", 5);
        x.traceDue("r 3 0 1 0 4 0 99 0", 2);
        x.restsDue(1, 2, 4, 8, 16, 32 + 1, 64 + 2);
    }

    private static void bothWays() {
        Checks.sentence("The trace", "and a set of literals, in which variables can be both ways");
        Subject x = Subject.with("e 1 0 a 2 0 1 2 0 -1 -2 0");
        x.traceDue("r 1 1 2 0 0 2 -2 -1 0 0 3 2 -2 0 1 2 0 4 -2 2 0 2 1 0", 4);
        x.stepsDue(Checks.set(1, 2), Checks.set(-1, -2), Checks.set(2, -2), Checks.set(2, -2));
        // It is a set: the order does not matter.
        x.traceDue("r 5 2 1 0 0", 1);
        x.stepDue(4, Checks.set(1, 2));
    }

    private static void goesOn() {
        Checks.sentence("The trace",
                "READING a trace (which goes on behind the steps that there are)");
        Subject x = Subject.with(FORMULA);
        x.traceDue("r 1 1 0 0", 1);
        x.traceDue("r 2 -1 2 0 0", 1);
        x.traceDue("r 3 2 0 1 2 0", 1);
        x.stepsDue(Checks.set(1), Checks.set(-1, 2), Checks.set(2));
        x.traceDue("r", 0);
        x.stepsDue(Checks.set(1), Checks.set(-1, 2), Checks.set(2));
    }

    private static void noSteps() {
        Checks.sentence("The trace", "the letter r or s; then steps (none, too: 0 is answered)");
        for (String text : new String[] {"r", "s", " r", "s ", "   r   "}) {
            Subject x = Subject.with(FORMULA);
            x.traceDue(text, 0);
            x.traceDue("r 1 1 0 0", 1);
            x.traceDue(text, 0);
            x.stepsDue(Checks.set(1));
        }
        full().traceDue("r", 0);
        new Subject().traceDue("s", 0);
    }

    private static void partsOfAStep() {
        Checks.sentence("The trace",
                "an id, literals (none, too), 0, then ids of steps, none, one or two, and 0");
        Subject x = Subject.with("e 1 2 0 1 0 -1 0 0");
        x.traceDue("r 1 1 0 0", 1);
        x.traceDue("r 2 0 0", 1);
        x.traceDue("r 3 1 0 1 0", 1);
        x.traceDue("r 4 0 2 0", 1);
        x.traceDue("r 5 -1 0 0 6 0 1 5 0", 2);
        x.stepsDue(Checks.set(1), 0, Checks.set(1), 0, Checks.set(-1), 0);
        x.restsDue(1, 2, 4 + 1, 8 + 2, 16, 32 + 16 + 1);
    }

    private static void clauseOrCube() {
        Checks.sentence("The trace", "a clause if it began with r, a cube if with s");
        Subject x = Subject.with("e 1 2 0 1 2 0");
        x.traceDue("r 1 1 2 0 0 2 2 1 0 0", 2);
        x.traceDue("s 3 1 2 0 0 4 2 0 0", 2);
        x.stepsDue(Checks.set(1, 2), Checks.set(1, 2), Checks.cube(1, 2), Checks.cube(2));
        x.traceWrong(FALSE, "r 5 2 0 ^0");
    }

    private static void oneAfterTheOther() {
        Checks.sentence("The trace", "(traces of both kinds may come one after the other; ids are "
                + "of all steps that there are)");
        Subject x = Subject.with(FORMULA);
        x.traceDue("r 1 1 0 0", 1);
        x.traceDue("s 2 1 2 0 0", 1);
        x.traceDue("r 3 -1 2 0 0", 1);
        x.traceDue("s 4 0 2 0", 1);
        x.traceDue("r 5 2 0 3 1 0", 1);
        x.stepsDue(Checks.set(1), Checks.cube(1, 2), Checks.set(-1, 2), Checks.cube(),
                Checks.set(2));
        x.restsDue(1, 2, 4, 8 + 2, 16 + 4 + 1);
        x.traceWrong(NAME, "s ^1 1 2 0 0");
        x.traceWrong(NAME, "r ^2 1 0 0");
    }

    // ---- SYNTAX

    private static void syntax() {
        Checks.sentence("The trace", "SYNTAX: it is neither a number nor a letter");
        for (String word : new String[] {"x", "?", "-", "00", "-0", "1000", "-01", "1r", "rs"}) {
            Checks.tracesWrong(FORMULA, SYNTAX, "^" + word, "  ^" + word + " r 1 1 0 0");
            for (String stage : STAGES) {
                Checks.tracesWrong(FORMULA, SYNTAX, stage + "^" + word + " 0");
            }
        }

        Checks.sentence("The trace", "it is not r or s at the beginning");
        for (String word : new String[] {"a", "e", "0", "1", "-1", "99", "100", "999"}) {
            Checks.tracesWrong(FORMULA, SYNTAX, "^" + word, " ^" + word + " r 1 1 0 0");
        }

        Checks.sentence("The trace", "it is a letter elsewhere");
        for (String letter : new String[] {"a", "e", "r", "s"}) {
            for (String stage : STAGES) {
                Checks.tracesWrong(FORMULA, SYNTAX, stage + "^" + letter + " 0");
            }
        }
        full().traceWrong(SYNTAX, "r ^s");

        Checks.sentence("The trace", "a number less than 1 where an id begins a step");
        for (String word : new String[] {"0", "-1", "-2", "-99", "-100", "-999"}) {
            Checks.tracesWrong(FORMULA, SYNTAX, "r ^" + word + " 1 0 0", "s ^" + word,
                    "r 1 1 0 0 ^" + word);
            full().traceWrong(SYNTAX, "r ^" + word);
        }
        // Among literals and ids such numbers are not SYNTAX.
        Checks.tracesWrong(FORMULA, NAME, "r 1 ^-3", "r 1 1 0 ^-1");
    }

    // ---- NAME

    private static void name() {
        moreThan99();
        idOfAStep();
        noSuchVariable();
        noSuchStep();
        otherKind();
    }

    private static void moreThan99() {
        Checks.sentence("The trace",
                "NAME: where an id begins a step, a number that is more than 99");
        Checks.tracesWrong(FORMULA, NAME, "r ^100 1 0 0", "s ^100", "r ^101", "r ^256", "r ^999",
                "r 99 1 0 0 ^100 1 0 0");
    }

    private static void idOfAStep() {
        Checks.sentence("The trace", "or the id of a step");
        Subject x = Subject.with(FORMULA);
        x.traceWrong(NAME, "r 7 1 0 0 ^7 1 0 0");
        x.traceWrong(NAME, "r ^7 1 0 0");
        x.traceWrong(NAME, "s ^7 1 2 0 0");
        x.traceDue("s 99 1 2 0 0 8 1 2 0 0", 2);
        x.traceWrong(NAME, "r ^99");
        x.traceWrong(NAME, "r 1 1 0 0 ^8");
        x.stepCountDue(4);
        // The id of a step that does not stay is free.
        x.traceWrong(FALSE, "r 2 2 0 ^0");
        x.traceWrong(SYNTAX, "r 2 1 0^");
        x.traceDue("r 2 1 0 0", 1);
    }

    private static void noSuchVariable() {
        Checks.sentence("The trace", "a literal of which there is no such variable");
        Checks.tracesWrong(FORMULA, NAME, "r 1 ^3", "r 1 ^-3", "s 1 ^8", "r 1 1 ^-8", "r 1 ^9",
                "r 1 ^-9", "r 1 ^16", "r 1 ^33", "r 1 ^-24", "r 1 ^99", "r 1 ^100", "r 1 ^999",
                "r 1 ^-999", "r 1 1 0 0 2 ^3 0 0");
        Checks.tracesWrong("", NAME, "r 1 ^1", "s 1 ^-1");
        Checks.tracesWrong("e 1 2 3 4 5 6 7 8 0", NAME, "s 1 ^9", "s 1 ^-9", "s 1 8 -8 ^10");
        // The id of a step is no variable.
        Checks.tracesWrong(FORMULA, NAME, "r 5 1 0 0 6 ^5 0 0");
        Subject x = Subject.with(FORMULA);
        x.formulaDue("e 1 0 1 0", 0);
        x.traceWrong(NAME, "r 1 ^2");
        x.formulaWrong(SYNTAX, "e 5 0 ^x");
        x.traceWrong(NAME, "r 1 ^5");
    }

    private static void noSuchStep() {
        Checks.sentence("The trace", "a number that is not the id of a step");
        Checks.tracesWrong(FORMULA, NAME, "r 1 1 0 ^2 0", "r 1 1 0 ^-1 0", "r 1 1 0 ^99 0",
                "r 1 1 0 ^100 0", "r 1 1 0 ^999 0", "r 1 1 0 ^-999 0", "s 1 1 2 0 ^2 0");
        // A step is not one yet where its own ids stand, nor is one that comes behind it.
        Checks.tracesWrong(FORMULA, NAME, "r 1 1 0 ^1 0", "r 1 1 0 ^2 0 2 1 0 0");
        // As the second and as the third one, too.
        Checks.tracesWrong(FORMULA, NAME, "r 1 1 0 0 2 1 0 1 ^2 0", "r 1 1 0 0 2 1 0 1 ^-1 0",
                "r 1 1 0 0 2 1 0 1 1 ^2 0", "r 1 1 0 0 2 1 0 1 1 ^-1 0");
        Subject x = Subject.with(FORMULA);
        x.traceWrong(FALSE, "r 1 2 0 ^0");
        x.traceWrong(NAME, "r 2 1 0 ^1 0");
        x.traceDue("r 1 1 0 0", 1);
        x.formulaDue(FORMULA, 0);
        x.traceWrong(NAME, "r 2 1 0 ^1 0");
        // Only an id counts, not how many steps come before it.
        x.traceDue("r 5 1 0 0 4 1 0 5 0", 2);
        x.traceWrong(NAME, "r 6 1 0 ^1 0");
        x.stepCountDue(2);
    }

    private static void otherKind() {
        Checks.sentence("The trace", "or of one of the other kind, where such an id has to stand");
        Subject x = Subject.with(FORMULA);
        x.traceDue("r 1 1 0 0 2 1 0 0", 2);
        x.traceDue("s 3 1 2 0 0 4 1 2 0 0", 2);
        x.traceWrong(NAME, "s 5 1 2 0 ^1 0");
        x.traceWrong(NAME, "s 5 1 2 0 3 ^1 0");
        x.traceWrong(NAME, "s 5 1 2 0 3 4 ^1 0");
        x.traceWrong(NAME, "r 5 1 0 ^3 0");
        x.traceWrong(NAME, "r 5 1 0 1 ^3 0");
        x.traceWrong(NAME, "r 5 1 0 1 2 ^3 0");
        x.stepCountDue(4);
    }

    // ---- TWICE, MANY, FALSE

    private static void twiceManyFalse() {
        Checks.sentence("The trace", "TWICE: a literal that is in the set already");
        Checks.tracesWrong(FORMULA, TWICE, "r 1 1 ^1 0 0", "r 1 -1 ^-1", "s 1 1 2 ^1",
                "r 1 1 -2 ^-2", "r 1 1 -1 ^1", "r 1 -1 1 ^-1", "r 1 1 0 0 2 1 2 ^2");
        Checks.tracesWrong("a 8 0 8 0", TWICE, "r 1 8 ^8", "s 1 -8 ^-8");
        // The other way is no fault of reading: only the step does not follow.
        Checks.tracesWrong(FORMULA, FALSE, "r 1 1 -1 0 ^0", "r 1 -1 1 2 -2 0 ^0");
        Subject.with(FORMULA).traceDue("r 1 1 0 0 2 1 0 0", 2);

        Checks.sentence("The trace", "MANY: the id that would begin a twenty-fifth step");
        Subject x = Subject.with("0");
        x.traceWrong(MANY, "r " + bareSteps(24) + "^25 0 0");
        x.stepCountDue(24);
        x.traceWrong(MANY, "r ^99");
        x.traceWrong(MANY, "s ^25");
        x.traceDue("r ", 0);
        x.formulaDue("0", 0);
        x.traceDue("r " + bareSteps(24), 24);

        Checks.sentence("The trace", "a third id of a step");
        x = Subject.with(FORMULA);
        x.traceDue("r 3 1 0 0 4 -1 2 0 0 5 2 0 3 4 0", 3);
        x.traceWrong(MANY, "r 6 2 0 3 4 ^5 0");
        x.traceWrong(MANY, "r 6 2 0 3 4 ^3 0");
        x.traceWrong(MANY, "r 6 2 0 5 5 ^5");
        x.traceDue("s 7 1 2 0 0", 1);
        x.traceWrong(MANY, "s 8 1 2 0 7 7 ^7 0");
        x.stepCountDue(4);
        x.traceDue("r 6 2 0 3 4 0", 1);

        Checks.sentence("The trace", "FALSE: the 0 that ends a step that does not FOLLOW");
        Checks.tracesWrong(FORMULA, FALSE, "r 1 2 0 ^0", "r 1 0 ^0 2 1 0 0", "s 1 1 0   ^0 x",
                "r 1 1 0 0 2 2 0 1 ^0", "r 1 1 0 0 2 -1 2 0 0 3 1 2 0 1 2 ^0 4 1 0 0",
                "r 1 1 0 0 2 1 0 1 1 ^0");
    }

    // ---- The first word, and the first of what is wrong with it

    private static void whichIsFirst() {
        Checks.sentence("The trace", "The first word is WRONG, with the first of these that is so");
        Checks.tracesWrong(FORMULA, SYNTAX, "^a r 100", "r ^0 3 3", "r 1 ^x 3 0 0");
        Checks.tracesWrong(FORMULA, NAME, "r ^100 x", "r 1 ^3 1 1 0 0", "r 1 2 0 ^9 0");
        Checks.tracesWrong(FORMULA, TWICE, "r 1 2 ^2 3 x", "r 1 2 ^2");
        Checks.tracesWrong(FORMULA, FALSE, "r 1 2 0 ^0 100 x");
        Checks.tracesWrong("0", MANY, "r " + bareSteps(24) + "^25 9 x");
        // With 24 steps there is MANY only behind SYNTAX and NAME.
        Subject x = full();
        x.traceWrong(SYNTAX, "r ^0");
        x.traceWrong(SYNTAX, "r ^-25");
        x.traceWrong(SYNTAX, "r ^x");
        x.traceWrong(NAME, "r ^100");
        x.traceWrong(NAME, "r ^1");
        x.traceWrong(NAME, "s ^24");
        x.traceWrong(MANY, "r ^99");
        // So it is with a third id.
        x = Subject.with(FORMULA);
        x.traceDue("r 3 1 0 0 4 -1 2 0 0 5 2 0 3 4 0", 3);
        x.traceDue("s 7 1 2 0 0", 1);
        x.traceWrong(SYNTAX, "r 6 2 0 3 4 ^r");
        x.traceWrong(SYNTAX, "r 6 2 0 3 4 ^-0");
        x.traceWrong(NAME, "r 6 2 0 3 4 ^6");
        x.traceWrong(NAME, "r 6 2 0 3 4 ^-5");
        x.traceWrong(NAME, "r 6 2 0 3 4 ^7");
        x.traceWrong(MANY, "r 6 2 0 3 4 ^5");
    }

    // ---- The end, and what stays

    private static void endAndWhatStays() {
        Checks.sentence("The trace", "When no word is wrong, but the end is within a step, or "
                + "nothing is there at all, that is SYNTAX (its place is that of the end).");
        Checks.tracesWrong(FORMULA, SYNTAX, "^", " ^", "     ^");
        Checks.tracesWrong(FORMULA, SYNTAX, "r 1^", "r 1 ^", "s 1   ^", "r 1 1^", "r 1 1 -2  ^",
                "r 1 1 0^", "r 1 1 0 ^", "r 1 0^", "r 1 1 0 0 2^", "r 1 1 0 0 2 1 0 1^",
                "r 1 1 0 0 2 -1 2 0 0 3 2 0 1 2 ^");
        Subject x = Subject.with(FORMULA);
        x.traceDue("r 1 1 0 0 ", 1);
        x.traceDue("r ", 0);

        Checks.sentence("The trace",
                "When something is wrong, the steps before it stay, that step does not.");
        String begun = "r 3 1 0 0 4 -1 2 0 0 5 ";
        String[] wrong = {"^x", "1 ^r", "1 0 ^00", "^3 0 0", "1 0 ^5 0", "1 0 ^9 0", "1 ^1 0 0",
            "2 0 3 4 ^4 0", "2 0 ^0", "2 0 3 ^0", "1 2 0 3 4 ^0 6 1 0 0", "^", "2^", "2 0 3 4^"};
        int[] what = {SYNTAX, SYNTAX, SYNTAX, NAME, NAME, NAME, TWICE,
            MANY, FALSE, FALSE, FALSE, SYNTAX, SYNTAX, SYNTAX};
        for (int i = 0; i < wrong.length; i++) {
            x = Subject.with(FORMULA);
            x.traceDue("s 1 1 2 0 0", 1);
            x.traceWrong(what[i], begun + wrong[i]);
            x.stepsDue(Checks.cube(1, 2), Checks.set(1), Checks.set(-1, 2));
            x.restsDue(1, 2, 4);
            x.emptyDue(-1);
            x.variablesDue(1, 2);
            x.clausesDue(Checks.set(1), Checks.set(-1, 2));
            // Nothing of that step is left: neither its id nor its literals nor its ids.
            x.traceWrong(NAME, "r 6 1 0 ^5 0");
            x.traceDue("r 5 1 0 0", 1);
            x.stepDue(3, Checks.set(1));
            x.restDue(3, 8);
        }
    }

    // ---- Promise 4

    private static void promise4() {
        Checks.sentence("Promise 4",
                "Reads the buffer, which is empty then (wrong or not), as a trace");
        Subject x = Subject.with(FORMULA);
        x.traceDue("r 1 1 0 0", 1);
        x.bufferEmptyDue();
        String[] wrong = {"^x", "r ^100", "r 2 1 ^1", "r 2 1 0 1 1 ^1", "r 2 2 0 ^0",
            "r 2 2 0 ^0 3", "r 2 1^", "  ^"};
        int[] what = {SYNTAX, NAME, TWICE, MANY, FALSE, FALSE, SYNTAX, SYNTAX};
        for (int i = 0; i < wrong.length; i++) {
            x.traceWrong(what[i], wrong[i]);
            x.bufferEmptyDue();
        }
        x.traceDue("r 2 1 0 0", 1);
        x.formulaDue("", 0);
        x.variablesDue();

        Checks.sentence("Promise 4", "how many steps came");
        x = Subject.with(FORMULA);
        x.traceDue("r 1 1 0 0 2 -1 2 0 0 3 2 0 1 2 0", 3);
        x.traceDue("r 4 1 0 0 5 1 0 0", 2);
        x.traceDue("s 6 1 2 0 0", 1);
        x.traceDue("s", 0);
        Subject.with("0").traceDue("r " + bareSteps(24), 24);
        Subject.with("0").traceDue("r " + bareSteps(23), 23);

        Checks.sentence("Promise 4",
                "or -1000 * what is wrong - the place (those before it have come)");
        x = Subject.with(FORMULA);
        x.traceDue("x", -1000);
        x.traceDue("r 1 1 0 0 x", -1010);
        x.stepCountDue(1);
        x.traceDue("r 2 1 0 0 3 1 0 0 2", -2018);
        x.stepCountDue(3);
        x.traceDue("r 4 1 0 0 5 1 1", -3014);
        x.stepCountDue(4);
        x.traceDue("r 5 1 0 0 6 1 0 5 4 3", -4020);
        x.stepCountDue(5);
        x.traceDue("r 6 1 0 0 7 2 0 0", -5016);
        x.stepCountDue(6);
        x.traceDue("r 7 1 0 0 8" + " ".repeat(189), -1200);
        x.stepCountDue(7);
    }

    // ---- Promises 9 and 10

    private static void promises9And10() {
        Checks.sentence("Promise 9", "How many steps there are.");
        Subject x = Subject.with("0");
        for (int count = 0; count < 24; count++) {
            x.stepCountDue(count);
            x.traceDue("r " + (count + 1) + " 0 0", 1);
        }
        x.stepCountDue(24);
        x.traceWrong(MANY, "r ^25");
        x.stepCountDue(24);

        Checks.sentence("Promise 10", "The literals of step i (from 0, as they came), likewise");
        x = Subject.with("a 1 0 e 8 0 1 0 -1 0 8 0 -8 0 1 -8 0 0");
        x.traceDue("r 9 1 0 0 8 -1 0 0 7 8 0 0 6 -8 0 0 5 -8 1 0 0 4 0 0", 6);
        x.stepsDue(1, 256, 128, 32768, 32769, 0);

        Checks.sentence("Promise 10", "and 2^16 more if it is a cube");
        x = Subject.with("e 1 0 a 8 0 1 8 0");
        x.traceDue("s 3 1 0 0 2 8 0 0 1 0 3 0", 3);
        x.traceDue("r 4 1 8 0 0", 1);
        x.stepsDue(65536 + 1, 65536 + 128, 65536, 129);

        Checks.sentence("Promise 10", "BAD when there is none such.");
        noStepDue(x, 4);
        noStepDue(new Subject(), 0);
        noStepDue(full(), 24);
        x.formulaDue("e 1 0", 0);
        noStepDue(x, 0);
    }

    private static void noStepDue(Subject x, int count) {
        for (int i = count; i <= 25; i++) {
            x.stepDue(i, -1);
        }
        x.stepDue(-1, -1);
        for (int i : NEVER) {
            x.stepDue(i, -1);
        }
    }
}
