/** Reading a formula, and promises 3 and 5 to 8, sentence by sentence. */
public final class FormulaTest {
    private static final int SYNTAX = QuantifierProofs.SYNTAX;
    private static final int NAME = QuantifierProofs.NAME;
    private static final int TWICE = QuantifierProofs.TWICE;
    private static final int MANY = QuantifierProofs.MANY;

    private static final String EIGHT = "e 1 2 3 4 5 6 7 8 0 ";
    private static final String TWELVE = "0 0 0 0 0 0 0 0 0 0 0 0 ";
    private static final int[] NEVER = {-2, -256, 24, 32, 256, Integer.MAX_VALUE,
        Integer.MIN_VALUE};

    public static void main(String[] args) {
        terms();
        blocksAndClauses();
        whatIsWrong();
        promise3();
        promises5And6();
        promises7And8();
        Checks.finish("FormulaTest");
    }

    // ---- Terms: the formula

    private static void terms() {
        numbers1To8();
        inAnOrder();
        upTo12Clauses();
        aSetOfLiterals();
        atFirstNone();
    }

    private static void numbers1To8() {
        Checks.sentence("The formula", "VARIABLES, some of the numbers 1 .. 8");
        for (int v = 1; v <= 8; v++) {
            Subject x = Subject.with("e " + v + " 0 " + v + " 0 -" + v + " 0");
            x.variablesDue(v);
        }
        Checks.formulasWrong(SYNTAX, "e ^0", "e ^-1 0");
        Checks.formulasWrong(NAME, "e ^9 0");
        // Eight are all that there can be.
        Subject.with(EIGHT).variablesDue(1, 2, 3, 4, 5, 6, 7, 8);
        Checks.formulasWrong(NAME, "e 1 2 3 4 5 6 7 8 ^9 0", EIGHT + "a ^9 0", EIGHT + "a ^1 0");
    }

    private static void inAnOrder() {
        Checks.sentence("The formula", "in an order, each for ALL or SOME");
        Subject.with("a 8 0 e 1 7 0 a 2 0 e 6 0").variablesDue(18, 1, 7, 12, 6);
        Subject.with("e 6 0 a 2 7 0 e 1 0 a 8 0").variablesDue(6, 12, 17, 1, 18);
    }

    private static void upTo12Clauses() {
        Checks.sentence("The formula", "and up to 12 CLAUSES");
        Subject x = Subject.with("e 1 2 0 "
                + "1 0 2 0 -1 0 -2 0 1 2 0 1 -2 0 -1 2 0 -1 -2 0 1 0 0 0 2 0");
        x.clausesDue(1, 2, 256, 512, 3, 513, 258, 768, 1, 0, 0, 2);
        x.formulaWrong(MANY, TWELVE + "^0");
        x.formulaDue(TWELVE, 0);
        x.clausesDue(0, 0, 0, 0, 0, 0, 0, 0, 0, 0, 0, 0);
    }

    private static void aSetOfLiterals() {
        Checks.sentence("The formula", "a clause, a set of them, no variable both ways");
        Subject x = Subject.with("e 1 2 3 0 1 -2 3 0 3 1 -2 0 -2 3 1 0");
        x.clausesDue(Checks.set(1, -2, 3), Checks.set(1, -2, 3), Checks.set(1, -2, 3));
        x = Subject.with("e 1 2 3 4 5 6 7 8 0 8 7 6 5 4 3 2 1 0 -1 -2 -3 -4 -5 -6 -7 -8 0");
        x.clausesDue(255, 65280);
        x.formulaWrong(TWICE, "e 1 2 0 1 2 ^-1 0");
    }

    private static void atFirstNone() {
        Checks.sentence("The formula", "(At first there are no variables and no clauses.)");
        Subject x = new Subject();
        x.variablesDue();
        x.clausesDue();
        // So nothing has such a variable and no clause follows.
        x.traceWrong(NAME, "s 1 ^1 0 0");
        x.traceWrong(QuantifierProofs.FALSE, "r 1 0 ^0");
    }

    // ---- Reading a formula: its parts

    private static void blocksAndClauses() {
        noBlocks();
        oneBlock();
        orderOfBlocks();
        clausesBehindBlocks();
    }

    private static void noBlocks() {
        Checks.sentence("The formula", "first BLOCKS (none, too)");
        Subject.with("").variablesDue();
        Subject x = Subject.with("0");
        x.variablesDue();
        x.clausesDue(0);
        x = Subject.with("a 1 0");
        x.variablesDue(11);
        x.clausesDue();
        Checks.formulasWrong(SYNTAX, "0 ^e 1 0");
    }

    private static void oneBlock() {
        Checks.sentence("The formula",
                "each the letter a or e, then one or more variables, then 0");
        Subject.with("a 3 0").variablesDue(13);
        Subject.with("e 3 0").variablesDue(3);
        Subject.with("a 3 1 0").variablesDue(13, 11);
        Subject.with("a 8 7 6 5 4 3 2 1 0").variablesDue(18, 17, 16, 15, 14, 13, 12, 11);
        Checks.formulasWrong(SYNTAX, "a ^0", "e ^0", "a 3^", "^r 3 0", "^s 3 0");
    }

    private static void orderOfBlocks() {
        Checks.sentence("The formula",
                "they come in this order, those behind a for all, behind e for some");
        Subject.with("a 2 1 0 e 4 0 e 3 0 a 6 0 a 5 0").variablesDue(12, 11, 4, 3, 16, 15);
        Subject.with("e 1 0 a 2 0 e 3 0 a 4 0 e 5 0 a 6 0 e 7 0 a 8 0")
                .variablesDue(1, 12, 3, 14, 5, 16, 7, 18);
    }

    private static void clausesBehindBlocks() {
        Checks.sentence("The formula", "Then clauses, each literals (none, too) and then 0");
        Subject.with("e 1 2 0 0 1 0 0 1 -2 0 0")
                .clausesDue(0, Checks.set(1), 0, Checks.set(1, -2), 0);
        Subject.with("e 1 0").clausesDue();
        Subject.with("0 0").clausesDue(0, 0);
        Checks.formulasWrong(SYNTAX, "e 1 0 1^", "e 1 0 0 -1^");
    }

    // ---- Reading a formula: what is wrong

    private static void whatIsWrong() {
        theFirstWord();
        neitherNumberNorLetter();
        letterElsewhere();
        lessThan0();
        zeroAtOnce();
        moreThan8();
        variableAlready();
        noSuchVariable();
        literalAlready();
        otherWayAlready();
        thirteenthClause();
        endWithin();
    }

    private static void theFirstWord() {
        Checks.sentence("The formula",
                "The first word is WRONG, with the first of these that is so");
        // No word of a formula is wrong in two of these ways: it is the words that tell.
        Checks.formulasWrong(SYNTAX, "^? e 9 0", "e ^-1 9 0", "e 1 0 ^x 2 0", "e 1 0 1 ^a 1 2");
        Checks.formulasWrong(NAME, "e ^9 0 ? 1 1", "e 1 ^1 -1", "e 1 0 ^2 1 1 0", "e 1 0 ^-2 a");
        Checks.formulasWrong(TWICE, "e 1 0 1 ^1 2 x", "e 1 0 1 ^-1 a 2");
        Checks.formulasWrong(MANY, TWELVE + "^0 0 x", "e 1 0 " + TWELVE + "1 ^0 2 1 1 e");
        // The end is behind every word.
        Checks.formulasWrong(NAME, "e ^9", "e 1 0 ^2");
        Checks.formulasWrong(TWICE, "e 1 0 1 ^1");
    }

    private static void neitherNumberNorLetter() {
        Checks.sentence("The formula", "SYNTAX: it is neither a number nor a letter");
        for (String word : new String[] {"x", "?", "b", "-", "00", "-0", "1000", "1a", "ae", "A"}) {
            Checks.formulasWrong(SYNTAX, "^" + word + " 1 0", "e ^" + word + " 0",
                    "e 1 ^" + word + " 0", "e 1 0 ^" + word + " 1 0", "e 1 0 1 ^" + word + " 0",
                    "e 1 0 1 0 ^" + word + " 0", "0 ^" + word, "e 1 0 " + TWELVE + "^" + word,
                    EIGHT + "^" + word);
        }
    }

    private static void letterElsewhere() {
        Checks.sentence("The formula", "it is a letter, but not a or e where a block can begin (at "
                + "the beginning or behind a block)");
        for (String letter : new String[] {"r", "s"}) {
            Checks.formulasWrong(SYNTAX, "^" + letter + " 1 0", "e 1 0 ^" + letter + " 2 0",
                    "a 1 0 ^" + letter);
        }
        for (String letter : new String[] {"a", "e", "r", "s"}) {
            Checks.formulasWrong(SYNTAX, "e ^" + letter + " 1 0", "a ^" + letter + " 1 0",
                    "e 1 ^" + letter + " 2 0", "a 1 ^" + letter + " 0", "e 1 0 1 ^" + letter + " 0",
                    "e 1 0 1 0 ^" + letter + " 2 0", "e 1 0 0 ^" + letter + " 2 0",
                    "0 ^" + letter + " 1 0", "e 1 0 " + TWELVE + "^" + letter + " 2 0");
        }
        Subject.with("a 1 0 e 2 0").variablesDue(11, 2);
        Subject.with("e 1 0 a 2 0").variablesDue(1, 12);
        // Behind the eighth variable a block can begin still, but not go on.
        Checks.formulasWrong(SYNTAX, EIGHT + "a ^0", EIGHT + "e^");
    }

    private static void lessThan0() {
        Checks.sentence("The formula", "or, in a block, a number less than 0");
        Checks.formulasWrong(SYNTAX, "e ^-1 0", "a ^-1 0", "e ^-8 0", "e ^-9 0", "e ^-999 0",
                "e 1 ^-1 0", "e 1 ^-2 0", "e 1 ^-999 0", "e 1 0 a ^-1 0", "e 1 0 a 2 ^-1 0",
                EIGHT + "a ^-1 0");
        // In a clause such a number is a literal.
        Subject.with("e 1 0 -1 0").clausesDue(Checks.set(-1));
    }

    private static void zeroAtOnce() {
        Checks.sentence("The formula", "or a 0 that comes at once");
        Checks.formulasWrong(SYNTAX, "e ^0", "a ^0", "e   ^0 1 0", "e 1 0 a ^0", "a 1 0 a ^0",
                "e 1 2 0 a 3 0 e ^0");
        Subject.with("e 1 0 a 2 0").variablesDue(1, 12);
    }

    private static void moreThan8() {
        Checks.sentence("The formula", "NAME: in a block a number that is more than 8");
        Checks.formulasWrong(NAME, "e ^9 0", "a ^9 0", "e ^10 0", "e ^33 0", "e ^99 0", "e ^100 0",
                "e ^257 0", "e ^999 0", "e 8 ^9 0", "a 1 0 e 8 ^9 0", EIGHT + "e ^9 0");
        Subject.with("e 8 0").variablesDue(8);
    }

    private static void variableAlready() {
        Checks.sentence("The formula", "or is a variable already");
        Checks.formulasWrong(NAME, "e 1 ^1 0", "a 8 ^8 0", "e 1 2 ^1 0", "e 1 0 e ^1 0",
                "e 1 0 a ^1 0", "a 1 0 e ^1 0", "a 8 0 e 1 2 ^8 0", EIGHT + "a ^8 0");
        // Those of the formula that there is are no variables of the one that is read.
        Subject x = Subject.with("e 1 2 0");
        x.formulaDue("a 2 1 0", 0);
        x.variablesDue(12, 11);
        // Nor are those of one that was refused.
        x.formulaWrong(SYNTAX, "e 5 6 ^x");
        x.formulaDue("a 5 6 0", 0);
        x.variablesDue(15, 16);
    }

    private static void noSuchVariable() {
        Checks.sentence("The formula", "in a clause a literal of which there is no such variable");
        Checks.formulasWrong(NAME, "^1 0", "^-1 0", "^8", "0 ^1 0", "e 1 0 ^2 0", "e 1 0 ^-2 0",
                "e 1 0 1 ^-2 0", "e 2 0 ^1 0", "a 1 0 1 0 1 0 ^3 0");
        Checks.formulasWrong(NAME, EIGHT + "^9 0", EIGHT + "^-9 0", EIGHT + "^16 0",
                EIGHT + "^-16 0", EIGHT + "^33 0", EIGHT + "^-24 0", EIGHT + "^999 0",
                EIGHT + "^-999 0");
        Subject x = Subject.with("e 1 2 0");
        x.formulaWrong(NAME, "e 1 0 ^2 0");
        x.formulaWrong(NAME, "^1 0");
        x.formulaWrong(SYNTAX, "e 5 6 0 5 ^x");
        x.formulaWrong(NAME, "e 1 0 ^5 0");
        Subject.with("a 1 0 e 8 0 1 -8 0").clausesDue(Checks.set(1, -8));
    }

    private static void literalAlready() {
        Checks.sentence("The formula", "TWICE: a literal that is in the clause already");
        Checks.formulasWrong(TWICE, "e 1 0 1 ^1 0", "e 1 0 -1 ^-1 0", "a 8 0 8 ^8 0",
                "a 8 0 -8 ^-8 0", "e 1 2 3 0 1 -2 3 ^-2 0", "e 1 2 0 1 0 2 1 ^2 0",
                "e 1 0 " + TWELVE + "1 ^1 0");
        // In another clause it may be.
        Subject.with("e 1 0 1 0 1 0").clausesDue(Checks.set(1), Checks.set(1));
    }

    private static void otherWayAlready() {
        Checks.sentence("The formula", "or whose other way is");
        Checks.formulasWrong(TWICE, "e 1 0 1 ^-1 0", "e 1 0 -1 ^1 0", "a 8 0 8 ^-8 0",
                "a 8 0 -8 ^8 0", "e 1 2 3 0 1 -2 3 ^2 0", "e 1 2 0 1 0 2 1 ^-2 0",
                "e 1 0 " + TWELVE + "1 ^-1 0");
        Subject.with("e 1 0 1 0 -1 0").clausesDue(Checks.set(1), Checks.set(-1));
    }

    private static void thirteenthClause() {
        Checks.sentence("The formula", "MANY: the 0 that would end a thirteenth clause");
        Subject.with(TWELVE).clausesDue(0, 0, 0, 0, 0, 0, 0, 0, 0, 0, 0, 0);
        Checks.formulasWrong(MANY, TWELVE + "^0", TWELVE + "^0 0", "e 1 0 " + TWELVE + "^0",
                "e 1 0 " + TWELVE + "1 ^0", "e 1 2 0 " + TWELVE + "-1 2 ^0");
        // Its literals are read like others, and the end in it is the end in a clause.
        Checks.formulasWrong(NAME, "e 1 0 " + TWELVE + "1 ^2 0");
        Checks.formulasWrong(TWICE, "e 1 0 " + TWELVE + "1 ^1 0");
        Checks.formulasWrong(SYNTAX, "e 1 0 " + TWELVE + "1^", "e 1 0 " + TWELVE + "1 ^x");
        // Only those of one formula count.
        Subject x = Subject.with("0 0 0 0 0 0 0");
        x.formulaDue("0 0 0 0 0 0 0", 0);
        x.clausesDue(0, 0, 0, 0, 0, 0, 0);
        x.formulaWrong(SYNTAX, TWELVE + "^x");
        x.formulaDue("0 0", 0);
        x.clausesDue(0, 0);
    }

    private static void endWithin() {
        Checks.sentence("The formula", "When no word is wrong, but the end is in a block or a "
                + "clause that has not ended, that is SYNTAX (its place is that of the end).");
        Checks.formulasWrong(SYNTAX, "e^", "a ^", "e 1^", "e 1 2   ^", "e 1 0 a^", "e 1 0 a 2^",
                "e 1 0 1^", "e 1 0 -1 ^", "e 1 0 1 0 1^", "  e 1 0 1 0 -1   ^");
        for (String ended : new String[] {"", "  ", "e 1 0", "e 1 0  ", "e 1 0 1 0", "e 1 0 0 "}) {
            new Subject().formulaDue(ended, 0);
        }
        // One that has not ended leaves nothing to the next one.
        Subject x = Subject.with("");
        x.formulaWrong(SYNTAX, "e 1 0 1^");
        x.formulaDue("0", 0);
        x.clausesDue(0);
        x.formulaWrong(SYNTAX, "e 1^");
        x.formulaDue("0", 0);
        x.variablesDue();
        x.clausesDue(0);
        x.formulaWrong(SYNTAX, "e 1^");
        x.formulaWrong(NAME, "^2 0");
        x.formulaWrong(SYNTAX, "e^");
        x.formulaDue("", 0);
        x.clausesDue();
        x.formulaWrong(SYNTAX, "e 1 0 1^");
        x.formulaDue("e 1 0 1 0", 0);
        x.formulaWrong(SYNTAX, "e^");
        x.formulaDue("a 1 0", 0);
        x.variablesDue(11);
    }

    // ---- Promise 3

    private static void promise3() {
        emptyThen();
        itIsTheFormula();
        ofAnEmptyBuffer();
        noStepsThen();
        whatAndPlace();
        formulaAndStepsStay();
    }

    private static void emptyThen() {
        Checks.sentence("Promise 3", "Reads the buffer, which is empty then, as a formula");
        Subject x = Subject.with("e 1 0 1 0");
        x.bufferEmptyDue();
        String[] wrong = {"^x", "e ^9 0", "e 1 0 1 ^1 0", TWELVE + "^0", "e 1 0 1^",
            "e 1 0 1 ^-1 1"};
        int[] what = {SYNTAX, NAME, TWICE, MANY, SYNTAX, TWICE};
        for (int i = 0; i < wrong.length; i++) {
            x.formulaWrong(what[i], wrong[i]);
            x.bufferEmptyDue();
        }
        x.formulaDue("a 2 0", 0);
        x.variablesDue(12);
    }

    private static void itIsTheFormula() {
        Checks.sentence("Promise 3", "0, and it is the formula");
        Subject x = Subject.with("e 1 2 0 a 3 0 1 2 0 -3 0 0");
        x.formulaDue("a 2 0 e 1 0 -1 0", 0);
        x.variablesDue(12, 1);
        x.clausesDue(Checks.set(-1));
        x.formulaDue("e 3 2 1 0 3 0 2 0 1 0", 0);
        x.variablesDue(3, 2, 1);
        x.clausesDue(Checks.set(3), Checks.set(2), Checks.set(1));
        x.playDue(7, 256 + 7);
        x.formulaDue("a 1 0 1 0", 0);
        x.variablesDue(11);
        x.clausesDue(Checks.set(1));
        x.playDue(7, 0);
    }

    private static void ofAnEmptyBuffer() {
        Checks.sentence("Promise 3", "(of an empty buffer one without variables and clauses)");
        Subject x = Subject.with("e 1 2 0 a 3 0 1 2 0 -3 0 0");
        x.formulaDue("", 0);
        x.variablesDue();
        x.clausesDue();
        x.wonDue(0, 0, true);
        x.traceWrong(NAME, "s 1 ^1");
    }

    private static void noStepsThen() {
        Checks.sentence("Promise 3", "and there are no steps");
        Subject x = Subject.with("e 1 0 1 0");
        x.traceDue("r 7 1 0 0 8 1 0 7 0", 2);
        // The same formula once more is enough.
        x.formulaDue("e 1 0 1 0", 0);
        x.stepsDue();
        x.restsDue();
        x.traceWrong(NAME, "r 1 1 0 ^7 0");
        x.traceDue("r 7 1 0 0", 1);
        x.restsDue(1);
        x.formulaDue("", 0);
        x.stepsDue();
        x.traceDue("s 7 0 0", 1);
        x.emptyDue(0);
        x.formulaDue("0", 0);
        x.emptyDue(-1);
    }

    private static void whatAndPlace() {
        Checks.sentence("Promise 3", "or -1000 * what is wrong - the place");
        new Subject().formulaDue("x", -1000);
        new Subject().formulaDue("   x", -1003);
        new Subject().formulaDue("e", -1001);
        new Subject().formulaDue("e" + " ".repeat(199), -1200);
        new Subject().formulaDue("1", -2000);
        new Subject().formulaDue(" ".repeat(199) + "1", -2199);
        new Subject().formulaDue("e 1 0 1 1", -3008);
        new Subject().formulaDue(TWELVE + "0", -4024);
    }

    private static void formulaAndStepsStay() {
        Checks.sentence("Promise 3", "formula and steps stay (as before)");
        String[] wrong = {"^x", "e 5 6 0 5 0 6 ^?", "a 3 0 3 0 3 0 3^", "e 4 ^4", "e 3 0 ^2 0",
            "e 4 0 -4 ^4 0", TWELVE + "^0", "a 1 0 -1^", "a^"};
        int[] what = {SYNTAX, SYNTAX, SYNTAX, NAME, NAME, TWICE, MANY, SYNTAX, SYNTAX};
        for (int i = 0; i < wrong.length; i++) {
            Subject x = Subject.with("a 2 0 e 1 0 1 2 0 -1 0");
            x.traceDue("r 7 1 2 0 0 8 -1 0 0 9 2 0 7 8 0", 3);
            x.formulaWrong(what[i], wrong[i]);
            x.variablesDue(12, 1);
            x.clausesDue(Checks.set(1, 2), Checks.set(-1));
            x.stepsDue(Checks.set(1, 2), Checks.set(-1), Checks.set(2));
            x.restsDue(1, 2, 7);
            x.wonDue(0, 0, false);
            x.wonDue(1, 1, true);
            x.playDue(2, 2);
            x.traceWrong(NAME, "r ^7");
            // 2 has no main variable beside it.
            x.traceDue("r 1 0 9 0", 1);
            x.emptyDue(3);
        }
    }

    // ---- Promises 5 and 6

    private static void promises5And6() {
        Checks.sentence("Promise 5", "How many variables there are.");
        String[] formulas = {"", "0", "e 8 0", "a 8 0 e 1 0", "e 1 2 3 4 5 6 7 0", EIGHT};
        int[] counts = {0, 0, 1, 2, 7, 8};
        for (int i = 0; i < formulas.length; i++) {
            Subject x = Subject.with(formulas[i]);
            Checks.due("variables()", x.call().variables(), counts[i]);
        }

        Checks.sentence("Promise 6",
                "Variable i (from 0) in their order, and 10 more if it is for all");
        Subject x = Subject.with("a 8 7 6 5 0 e 4 3 2 1 0");
        x.variablesDue(18, 17, 16, 15, 4, 3, 2, 1);
        x.formulaDue("e 8 7 6 5 0 a 4 3 2 1 0", 0);
        x.variablesDue(8, 7, 6, 5, 14, 13, 12, 11);

        Checks.sentence("Promise 6", "BAD when there is none.");
        noVariableDue(x, 8);
        x.formulaDue("e 3 0 3 0 -3 0", 0);
        noVariableDue(x, 1);
        x.formulaDue("", 0);
        noVariableDue(x, 0);
    }

    private static void noVariableDue(Subject x, int count) {
        for (int i = count; i <= 13; i++) {
            x.variableDue(i, -1);
        }
        x.variableDue(-1, -1);
        for (int i : NEVER) {
            x.variableDue(i, -1);
        }
    }

    // ---- Promises 7 and 8

    private static void promises7And8() {
        Checks.sentence("Promise 7", "How many clauses the formula has.");
        for (int count = 0; count <= 12; count++) {
            Subject x = Subject.with("e 1 0 " + "1 0 ".repeat(count));
            Checks.due("clauses()", x.call().clauses(), count);
        }

        Checks.sentence("Promise 8", "The literals of clause i: 2^(v - 1) for v, 2^(v + 7) for -v");
        for (int v = 1; v <= 8; v++) {
            Subject x = Subject.with(EIGHT + v + " 0 -" + v + " 0");
            x.clausesDue((int) Math.pow(2, v - 1), (int) Math.pow(2, v + 7));
        }
        Subject.with("a 1 0 e 8 0 1 -8 0 0 8 -1 0").clausesDue(1 + 32768, 0, 128 + 256);

        Checks.sentence("Promise 8", "BAD when there is none such.");
        Subject x = Subject.with("e 1 2 0 " + TWELVE);
        noClauseDue(x, 12);
        x.clauseDue(11, 0);
        x.formulaDue("e 1 2 0 1 0", 0);
        noClauseDue(x, 1);
        x.formulaDue("e 1 2 0", 0);
        noClauseDue(x, 0);
    }

    private static void noClauseDue(Subject x, int count) {
        for (int i = count; i <= 13; i++) {
            x.clauseDue(i, -1);
        }
        x.clauseDue(-1, -1);
        for (int i : NEVER) {
            x.clauseDue(i, -1);
        }
    }
}
