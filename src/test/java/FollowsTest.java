/** When a step follows, what it rests on, and promises 11 and 12, sentence by sentence. */
public final class FollowsTest {
    private static final int FALSE = QuantifierProofs.FALSE;
    private static final int[] NEVER = {-2, 25, 31, 32, 33, 256, Integer.MAX_VALUE,
        Integer.MIN_VALUE};

    public static void main(String[] args) {
        mainAndSide();
        inner();
        clauseWithoutIds();
        cubeBothWays();
        cubeMeetsEachClause();
        withOne();
        withOneOfACube();
        someOfItsLiterals();
        justOneMainVariable();
        allOfBothButThat();
        noMainVariableBothWays();
        sideVariableInBoth();
        sideVariableInOne();
        mainNeverBothWays();
        emptyStep();
        restsOn();
        promise11();
        promise12();
        Checks.finish("FollowsTest");
    }

    // ---- Main, side, inner

    private static void mainAndSide() {
        Checks.sentence("The trace", "For a clause MAIN variables are those for some, SIDE "
                + "variables those for all; for a cube the other way round.");
        // Of a clause the side variable 2 goes, of a cube the side variable 1.
        Subject x = Subject.with("e 1 0 a 2 0 1 2 0");
        x.traceDue("r 1 1 2 0 0 2 1 0 1 0", 2);
        x.traceDue("s 3 1 2 0 0", 1);
        x.traceWrong(FALSE, "s 4 1 0 3 ^0");
        x.traceDue("s 4 1 2 0 3 0", 1);
        x = Subject.with("a 1 0 e 2 0 1 2 0");
        x.traceDue("r 1 1 2 0 0", 1);
        x.traceWrong(FALSE, "r 2 1 0 1 ^0");
        x.traceDue("r 2 1 2 0 1 0", 1);
        x.traceDue("s 3 1 2 0 0 4 1 0 3 0", 2);
        // Two clauses meet over a variable for some, two cubes over one for all.
        x = Subject.with("e 1 0 1 0 -1 0");
        x.traceDue("r 1 1 0 0 2 -1 0 0 3 0 1 2 0", 3);
        x = Subject.with("a 1 0 1 0 -1 0");
        x.traceDue("r 1 1 0 0 2 -1 0 0", 2);
        x.traceWrong(FALSE, "r 3 0 1 2 ^0");
        x = Subject.with("a 1 0");
        x.traceDue("s 1 1 0 0 2 -1 0 0 3 0 1 2 0", 3);
        x = Subject.with("e 1 0");
        x.traceDue("s 1 1 0 0 2 -1 0 0", 2);
        x.traceWrong(FALSE, "s 3 0 1 2 ^0");
    }

    private static void inner() {
        Checks.sentence("The formula",
                "One variable is INNER to another one if it comes behind it in the order.");
        // How great the numbers are does not matter, only where they come.
        Subject x = Subject.with("e 8 0 a 1 0 8 1 0");
        x.traceDue("r 1 8 1 0 0 2 8 0 1 0", 2);
        x = Subject.with("a 1 0 e 8 0 8 1 0");
        x.traceDue("r 1 8 1 0 0", 1);
        x.traceWrong(FALSE, "r 2 8 0 1 ^0");
        x = Subject.with("e 1 0 a 8 0 8 1 0");
        x.traceDue("r 1 8 1 0 0 2 1 0 1 0", 2);
        x = Subject.with("a 8 0 e 1 0 8 1 0");
        x.traceDue("r 1 8 1 0 0", 1);
        x.traceWrong(FALSE, "r 2 1 0 1 ^0");
        // However far behind it comes, and with others of all kinds between.
        x = Subject.with("e 8 0 a 7 0 e 6 5 0 a 4 3 2 0 e 1 0 8 2 0");
        x.traceDue("r 1 8 2 0 0 2 8 0 1 0", 2);
        // To both variables of one block alike.
        x = Subject.with("a 1 0 e 2 3 0 a 4 0 1 2 4 0 1 3 4 0");
        x.traceDue("r 1 1 2 4 0 0 2 1 2 0 1 0 3 1 3 4 0 0 4 1 3 0 3 0", 4);
    }

    // ---- Without ids

    private static void clauseWithoutIds() {
        Checks.sentence("The trace",
                "Without ids: a clause, if its literals are those of a clause of the formula.");
        Subject x = Subject.with("a 1 0 e 2 3 0 1 2 0 -3 0 -1 3 0");
        // The first, the last, one between, in whatever order its literals come, and once more.
        x.traceDue("r 1 1 2 0 0 2 -3 0 0 3 -1 3 0 0 4 2 1 0 0 5 3 -1 0 0 6 1 2 0 0", 6);
        // One less, one more, one the other way, those of two, none.
        x.traceWrong(FALSE, "r 7 1 0 ^0");
        x.traceWrong(FALSE, "r 7 1 2 3 0 ^0");
        x.traceWrong(FALSE, "r 7 1 2 -3 0 ^0");
        x.traceWrong(FALSE, "r 7 1 -2 0 ^0");
        x.traceWrong(FALSE, "r 7 3 0 ^0");
        x.traceWrong(FALSE, "r 7 1 2 -2 0 ^0");
        x.traceWrong(FALSE, "r 7 0 ^0");
        // An empty one only if the formula has it; none if it has no clauses.
        Subject.with("e 1 0 1 0 0").traceDue("r 1 0 0", 1);
        Checks.tracesWrong("", FALSE, "r 1 0 ^0");
        Checks.tracesWrong("e 1 0", FALSE, "r 1 0 ^0", "r 1 1 0 ^0");
        // A clause of the formula before is none of this one.
        x.formulaDue("e 1 2 0 1 0", 0);
        x.traceWrong(FALSE, "r 1 1 2 0 ^0");
        x.traceDue("r 1 1 0 0", 1);
        // The twelfth is one as well.
        x.formulaDue("e 1 0 0 0 0 0 0 0 0 0 0 0 0 1 0", 0);
        x.traceDue("r 1 1 0 0", 1);
    }

    private static void cubeBothWays() {
        Checks.sentence("The trace", "A cube, if no variable is both ways in it");
        Checks.tracesWrong("a 1 0 e 2 8 0 1 2 0", FALSE, "s 1 1 -1 0 ^0", "s 1 1 2 -2 0 ^0",
                "s 1 1 8 -8 0 ^0", "s 1 -2 2 0 ^0");
        Checks.tracesWrong("e 1 0", FALSE, "s 1 1 -1 0 ^0");
        Subject.with("a 1 0 e 2 8 0 1 2 0").traceDue("s 1 1 -2 8 0 0 2 -1 2 -8 0 0", 2);
    }

    private static void cubeMeetsEachClause() {
        Checks.sentence("The trace", "and each clause of the formula has one of its literals.");
        Subject x = Subject.with("a 1 0 e 2 3 0 1 2 0 -3 0 1 -2 0");
        x.traceDue("s 1 1 -3 0 0 2 1 2 -3 0 0 3 1 -2 -3 0 0", 3);
        // The last, the middle one or the first is missed, or all are.
        x.traceWrong(FALSE, "s 4 2 -3 0 ^0");
        x.traceWrong(FALSE, "s 4 1 0 ^0");
        x.traceWrong(FALSE, "s 4 1 3 0 ^0");
        x.traceWrong(FALSE, "s 4 -2 -3 0 ^0");
        x.traceWrong(FALSE, "s 4 -1 3 0 ^0");
        x.traceWrong(FALSE, "s 4 0 ^0");
        // Each clause: of none there is nothing to miss, and an empty one is always missed.
        new Subject().traceDue("s 1 0 0", 1);
        Subject.with("a 1 0").traceDue("s 1 0 0 2 1 0 0 3 -1 0 0", 3);
        Checks.tracesWrong("0", FALSE, "s 1 0 ^0");
        Checks.tracesWrong("e 1 0 1 0 0", FALSE, "s 1 1 0 ^0");
        // The twelfth is one as well.
        Checks.tracesWrong("e 1 2 0 " + "1 0 ".repeat(11) + "2 0", FALSE, "s 1 1 0 ^0");
        // The cube need be no whole clause, nor have all variables.
        x = Subject.with("e 1 2 3 4 5 6 7 8 0 1 2 3 4 5 6 7 8 0 -1 8 0");
        x.traceDue("s 1 8 0 0", 1);
    }

    // ---- With one

    private static void withOne() {
        Checks.sentence("The trace", "With one: its literals are those of that one without the "
                + "literals of side variables that are inner to all main variables of that one");
        // 1, 3 and 5 are side variables of clauses, 2, 4 and 6 main ones.
        Subject x = Subject.with("a 1 0 e 2 0 a 3 0 e 4 0 a 5 0 e 6 0 "
                + "1 2 3 -5 0 2 -3 4 0 1 4 5 0 2 -4 0 -3 -6 0 1 -3 5 0");
        x.traceDue("r 1 1 2 3 -5 0 0 2 2 -3 4 0 0 3 1 4 5 0 0", 3);
        x.traceDue("r 4 2 -4 0 0 5 -3 -6 0 0 6 1 -3 5 0 0", 3);
        // 3 and 5 are inner to 2; 1 is not.
        x.traceDue("r 11 1 2 0 1 0", 1);
        // 3 is inner to 2, but not to 4, so not to all.
        x.traceDue("r 12 2 -3 4 0 2 0", 1);
        x.traceWrong(FALSE, "r 13 2 4 0 2 ^0");
        x.traceDue("r 13 1 4 0 3 0", 1);
        // Nothing goes: that is a step as well.
        x.traceDue("r 14 2 -4 0 4 0", 1);
        x.traceDue("r 15 -3 -6 0 5 0", 1);
        x.traceWrong(FALSE, "r 16 -6 0 5 ^0");
        // All that can go must go.
        x.traceWrong(FALSE, "r 16 1 2 3 0 1 ^0");
        x.traceWrong(FALSE, "r 16 1 2 -5 0 1 ^0");
        x.traceWrong(FALSE, "r 16 1 2 3 -5 0 1 ^0");
        // Nothing else may go or come.
        x.traceWrong(FALSE, "r 16 2 0 1 ^0");
        x.traceWrong(FALSE, "r 16 1 0 1 ^0");
        x.traceWrong(FALSE, "r 16 1 2 4 0 1 ^0");
        x.traceWrong(FALSE, "r 16 1 -2 0 1 ^0");
        x.traceWrong(FALSE, "r 16 0 1 ^0");
        // What has been reduced stays as it is.
        x.traceDue("r 16 1 2 0 11 0", 1);

        // A side variable that is both ways goes both ways, or stays both ways.
        x = Subject.with("e 1 0 a 2 0 e 3 0 1 2 3 0 -1 -2 3 0 1 2 0 -1 -2 0");
        x.traceDue("r 1 1 2 3 0 0 2 -1 -2 3 0 0 3 2 -2 3 0 1 2 0 4 2 -2 3 0 3 0", 4);
        x.traceWrong(FALSE, "r 5 3 0 3 ^0");
        x.traceDue("r 5 1 2 0 0 6 -1 -2 0 0 7 2 -2 0 5 6 0", 3);
        x.traceWrong(FALSE, "r 8 2 0 7 ^0");
        x.traceWrong(FALSE, "r 8 -2 0 7 ^0");
        x.traceWrong(FALSE, "r 8 2 -2 0 7 ^0");
        x.traceDue("r 8 0 7 0", 1);
    }

    private static void withOneOfACube() {
        Checks.sentence("The trace", "for a cube the other way round");
        // 1, 3 and 5 are side variables of cubes, 2, 4 and 6 main ones.
        Subject x = Subject.with("e 1 0 a 2 0 e 3 0 a 4 0 e 5 0 a 6 0");
        x.traceDue("s 1 1 2 3 -5 0 0 2 2 -3 4 0 0 3 1 4 5 0 0", 3);
        x.traceDue("s 4 2 -4 0 0 5 -3 -6 0 0 6 1 -3 5 0 0", 3);
        x.traceDue("s 11 1 2 0 1 0 12 2 -3 4 0 2 0 13 1 4 0 3 0 14 2 -4 0 4 0", 4);
        x.traceDue("s 15 -3 -6 0 5 0 16 0 6 0", 2);
        x.traceWrong(FALSE, "s 17 1 2 3 0 1 ^0");
        x.traceWrong(FALSE, "s 17 2 4 0 2 ^0");
        x.traceWrong(FALSE, "s 17 4 0 3 ^0");
        x.traceWrong(FALSE, "s 17 2 0 4 ^0");
        x.traceWrong(FALSE, "s 17 -6 0 5 ^0");
        x.traceWrong(FALSE, "s 17 1 -3 5 0 6 ^0");
        x.stepDue(6, Checks.cube(1, 2));
        x.stepDue(11, Checks.cube());
    }

    private static void someOfItsLiterals() {
        Checks.sentence("The trace", "(of whose literals it has some)");
        // 2 and 4 are main variables of the formula, but the clause has only 4, only 2, or none.
        Subject x = Subject.with("a 1 0 e 2 0 a 3 0 e 4 0 a 5 0 1 3 4 5 0 1 -2 3 5 0 1 3 -5 0 3 0");
        x.traceDue("r 1 1 3 4 5 0 0 2 1 -2 3 5 0 0 3 1 3 -5 0 0 4 3 0 0", 4);
        x.traceDue("r 5 1 3 4 0 1 0", 1);
        x.traceDue("r 6 1 -2 0 2 0", 1);
        // If it has none, every side variable is inner to all of them.
        x.traceWrong(FALSE, "r 7 1 3 -5 0 3 ^0");
        x.traceWrong(FALSE, "r 7 1 0 3 ^0");
        x.traceDue("r 7 0 3 0 8 0 4 0", 2);
        // That holds of an empty one, too.
        x.traceDue("r 9 0 8 0", 1);
        x = Subject.with("e 1 2 3 0");
        x.traceDue("s 1 1 -2 3 0 0 2 0 1 0 3 0 2 0", 3);
        Checks.tracesWrong("e 1 2 3 0", FALSE, "s 1 1 -2 3 0 0 2 1 -2 3 0 1 ^0");
    }

    // ---- With two

    private static void justOneMainVariable() {
        Checks.sentence("The trace", "With two, c and d: there is just one main variable v such "
                + "that v is in c and -v in d, or -v in c and v in d");
        Subject x = Subject.with("e 1 2 3 0 1 2 0 -1 3 0 -1 -2 0 -1 2 0 1 -2 0");
        x.traceDue("r 1 1 2 0 0 2 -1 3 0 0 3 -1 -2 0 0 4 -1 2 0 0 5 1 -2 0 0", 5);
        // v in c and -v in d; and -v in c and v in d.
        x.traceDue("r 6 2 3 0 1 2 0", 1);
        x.traceDue("r 7 2 3 0 2 1 0", 1);
        // Two such variables, the same way round or not: neither can be chosen.
        x.traceWrong(FALSE, "r 8 2 -2 0 1 3 ^0");
        x.traceWrong(FALSE, "r 8 1 -1 0 1 3 ^0");
        x.traceWrong(FALSE, "r 8 0 1 3 ^0");
        x.traceWrong(FALSE, "r 8 1 -1 0 4 5 ^0");
        x.traceWrong(FALSE, "r 8 2 -2 0 5 4 ^0");
        x.traceWrong(FALSE, "r 8 0 4 5 ^0");
        // None: alike, apart, or one and the same.
        x.traceWrong(FALSE, "r 8 -1 2 3 0 2 4 ^0");
        x.traceWrong(FALSE, "r 8 2 3 0 6 7 ^0");
        x.traceWrong(FALSE, "r 8 1 2 0 1 1 ^0");
        x.traceDue("r 8 2 0 1 4 0 9 -2 0 3 5 0 10 0 8 9 0", 3);
        x.traceWrong(FALSE, "r 11 0 10 10 ^0");
        // Only main variables count: a side variable that is so as well does no harm.
        x = Subject.with("e 1 0 a 2 0 1 2 0 -1 -2 0 2 0 -2 0");
        x.traceDue("r 1 1 2 0 0 2 -1 -2 0 0 3 2 -2 0 1 2 0", 3);
        x.traceDue("r 4 2 0 0 5 -2 0 0", 2);
        x.traceWrong(FALSE, "r 6 0 4 5 ^0");
        x.traceWrong(FALSE, "r 6 2 -2 0 4 5 ^0");
        // Cubes: 1 is a main variable of theirs, 2 is not.
        x = Subject.with("a 1 0 e 2 0 1 2 0 -1 -2 0");
        x.traceDue("s 1 1 -2 0 0 2 -1 2 0 0 3 2 -2 0 1 2 0 4 -2 2 0 2 1 0", 4);
        x.traceWrong(FALSE, "s 5 1 -1 0 1 2 ^0");
        x.traceWrong(FALSE, "s 5 0 1 2 ^0");
    }

    private static void allOfBothButThat() {
        Checks.sentence("The trace", "its literals are all those of c and d but v and -v");
        Subject x = Subject.with("a 8 0 e 1 2 3 4 0 a 7 0 8 1 2 3 0 -1 3 4 -7 0 -1 0 1 0");
        x.traceDue("r 1 8 1 2 3 0 0 2 -1 3 4 -7 0 0 3 -1 0 0 4 1 0 0", 4);
        // One is missing, from either, or from both, or one is too many.
        x.traceWrong(FALSE, "r 5 8 2 3 4 0 1 2 ^0");
        x.traceWrong(FALSE, "r 5 2 3 4 -7 0 1 2 ^0");
        x.traceWrong(FALSE, "r 5 8 2 4 -7 0 1 2 ^0");
        x.traceWrong(FALSE, "r 5 8 1 2 3 4 -7 0 1 2 ^0");
        x.traceWrong(FALSE, "r 5 8 -1 2 3 4 -7 0 1 2 ^0");
        x.traceWrong(FALSE, "r 5 8 1 -1 2 3 4 -7 0 1 2 ^0");
        x.traceWrong(FALSE, "r 5 8 2 3 4 7 0 1 2 ^0");
        x.traceWrong(FALSE, "r 5 8 2 3 4 -7 7 0 1 2 ^0");
        // It is not reduced at once: -7 stays, though it is inner to all of them.
        x.traceDue("r 5 8 2 3 4 -7 0 1 2 0", 1);
        x.traceDue("r 6 8 2 3 4 0 5 0", 1);
        // Nothing may be left.
        x.traceDue("r 7 8 2 3 0 1 3 0 8 0 4 3 0", 2);
        x.stepDue(4, Checks.set(8, 2, 3, 4, -7));
        x.stepDue(7, 0);
    }

    private static void noMainVariableBothWays() {
        Checks.sentence("The trace", "no main variable is both ways in it");
        Subject x = Subject.with("e 1 2 0 1 2 0 -1 -2 0 1 -2 0 -1 2 0");
        x.traceDue("r 1 1 2 0 0 2 -1 -2 0 0 3 1 -2 0 0 4 -1 2 0 0", 4);
        x.traceWrong(FALSE, "r 5 1 -1 0 1 2 ^0");
        x.traceWrong(FALSE, "r 5 2 -2 0 1 2 ^0");
        x.traceWrong(FALSE, "r 5 2 -2 0 3 4 ^0");
        x = Subject.with("a 1 2 0");
        x.traceDue("s 1 1 2 0 0 2 -1 -2 0 0 3 1 -2 0 0 4 -1 2 0 0", 4);
        x.traceWrong(FALSE, "s 5 1 -1 0 1 2 ^0");
        x.traceWrong(FALSE, "s 5 2 -2 0 1 2 ^0");
        x.traceWrong(FALSE, "s 5 2 -2 0 3 4 ^0");
    }

    private static void sideVariableInBoth() {
        Checks.sentence("The trace", "and each side variable that is in c (in one way at least) "
                + "and in d, and both ways in the result, is inner to v");
        // The side variable 1 comes before the main variable 3, the side variable 2 behind it.
        Subject x = Subject.with("a 1 0 e 3 0 a 2 0 2 3 0 -2 -3 0 1 3 0 -1 -3 0 -1 3 0 1 2 3 0");
        x.traceDue("r 1 2 3 0 0 2 -2 -3 0 0 3 1 3 0 0 4 -1 -3 0 0 5 -1 3 0 0 6 1 2 3 0 0", 6);
        x.traceDue("r 11 2 -2 0 1 2 0", 1);
        x.traceDue("r 12 -2 2 0 2 1 0", 1);
        x.traceWrong(FALSE, "r 13 1 -1 0 3 4 ^0");
        x.traceWrong(FALSE, "r 13 1 -1 0 4 3 ^0");
        x.traceWrong(FALSE, "r 13 1 -1 2 0 6 4 ^0");
        // The same way in both, it is not both ways in the result.
        x.traceDue("r 13 -1 0 4 5 0", 1);
        // In only one of them, it need not be inner.
        x.traceDue("r 14 -1 2 0 1 4 0", 1);
        // Each: one that is inner does not make up for one that is not.
        x = Subject.with("a 1 0 e 3 0 a 2 0 1 2 3 0 -1 -2 -3 0");
        x.traceDue("r 1 1 2 3 0 0 2 -1 -2 -3 0 0", 2);
        x.traceWrong(FALSE, "r 3 1 -1 2 -2 0 1 2 ^0");
        // Both ways in one of them and one way in the other is in both, too.
        x = Subject.with("e 1 0 a 2 0 e 3 0 1 2 3 0 -1 -2 3 0 -3 2 0 -3 -2 0");
        x.traceDue("r 1 1 2 3 0 0 2 -1 -2 3 0 0 3 2 -2 3 0 1 2 0 4 -3 2 0 0 5 -3 -2 0 0", 5);
        x.traceWrong(FALSE, "r 6 2 -2 0 3 4 ^0");
        x.traceWrong(FALSE, "r 6 2 -2 0 4 3 ^0");
        x.traceWrong(FALSE, "r 6 2 -2 0 3 5 ^0");
        x.traceWrong(FALSE, "r 6 2 -2 0 5 3 ^0");
        // ... and is allowed where it is inner.
        x = Subject.with("e 1 3 0 a 2 0 1 2 3 0 -1 -2 3 0 -3 2 0");
        x.traceDue("r 1 1 2 3 0 0 2 -1 -2 3 0 0 3 2 -2 3 0 1 2 0 4 -3 2 0 0 5 2 -2 0 3 4 0", 5);
        // Cubes: 1 and 2 are side variables before and behind the main variable 3.
        x = Subject.with("e 1 0 a 3 0 e 2 0");
        x.traceDue("s 1 2 3 0 0 2 -2 -3 0 0 3 1 3 0 0 4 -1 -3 0 0 5 2 -2 0 1 2 0", 5);
        x.traceWrong(FALSE, "s 6 1 -1 0 3 4 ^0");
        x.traceDue("s 6 -1 2 0 1 4 0", 1);
    }

    private static void sideVariableInOne() {
        Checks.sentence("The trace", "side variable that is in c (in one way at least) and in d");
        // 2 is both ways in the one and not at all in the other: it need not be inner to 3.
        Subject x = Subject.with("e 1 0 a 2 0 e 3 4 0 1 2 3 0 -1 -2 3 0 -3 4 0");
        x.traceDue("r 1 1 2 3 0 0 2 -1 -2 3 0 0 3 2 -2 3 0 1 2 0 4 -3 4 0 0", 4);
        x.traceDue("r 5 2 -2 4 0 3 4 0", 1);
        x.traceDue("r 6 2 -2 4 0 4 3 0", 1);
        x = Subject.with("a 1 0 e 2 0 a 3 0");
        x.traceDue("s 1 1 2 3 0 0 2 -1 -2 3 0 0 3 2 -2 3 0 1 2 0 4 -3 0 0", 4);
        x.traceDue("s 5 2 -2 0 3 4 0 6 -2 2 0 4 3 0", 2);
    }

    private static void mainNeverBothWays() {
        Checks.sentence("The trace",
                "(Neither c nor d has v both ways; main variables never are.)");
        Checks.tracesWrong("e 1 0 1 0 -1 0", FALSE, "r 1 1 -1 0 ^0",
                "r 1 1 0 0 2 -1 0 0 3 1 -1 0 1 2 ^0", "r 1 1 0 0 2 1 -1 0 1 ^0");
        Checks.tracesWrong("a 1 0", FALSE, "s 1 1 -1 0 ^0", "s 1 1 0 0 2 -1 0 0 3 1 -1 0 1 2 ^0",
                "s 1 1 0 0 2 1 -1 0 1 ^0");
    }

    // ---- Empty, rests on

    private static void emptyStep() {
        Checks.sentence("The trace", "A step is EMPTY if it has no literals.");
        Subject x = Subject.with("e 1 0 1 0 -1 0");
        x.traceDue("r 1 1 0 0 2 -1 0 0", 2);
        x.emptyDue(-1);
        x.traceDue("r 3 0 1 2 0", 1);
        x.emptyDue(2);
        // A cube is empty though step answers 2^16 for it.
        x = Subject.with("e 1 0 1 0");
        x.traceDue("s 1 1 0 0", 1);
        x.emptyDue(-1);
        x.traceDue("s 2 0 1 0", 1);
        x.stepDue(1, 65536);
        x.emptyDue(1);
    }

    private static void restsOn() {
        Checks.sentence("The trace",
                "A step RESTS ON itself, on the steps whose ids it has, and on what they rest on.");
        Subject x = Subject.with("e 1 2 0 1 0 -1 2 0 -2 0");
        x.traceDue("r 50 1 0 0 40 -1 2 0 0 30 -2 0 0 20 2 0 40 50 0 10 0 30 20 0", 5);
        x.restsDue(1, 2, 4, 8 + 2 + 1, 16 + 8 + 4 + 2 + 1);
        // Through a long row of steps, and only that row.
        x.traceDue("r 60 1 0 50 0 61 1 0 60 0 62 1 0 61 0", 3);
        x.restDue(5, 32 + 1);
        x.restDue(6, 64 + 32 + 1);
        x.restDue(7, 128 + 64 + 32 + 1);
        // What a step needs not, it does not rest on, though it came before.
        x.traceDue("r 63 2 0 62 40 0", 1);
        x.restDue(8, 256 + 128 + 64 + 32 + 2 + 1);
        // What two share counts once.
        x = Subject.with("e 1 2 0 1 2 0 -1 2 0 -2 1 0 -2 -1 0");
        x.traceDue("r 1 1 2 0 0 2 -1 2 0 0 3 2 0 1 2 0 4 -2 1 0 0 5 1 0 3 4 0 6 2 0 5 2 0", 6);
        x.restsDue(1, 2, 4 + 2 + 1, 8, 16 + 8 + 7, 32 + 16 + 8 + 7);
        // Steps of the other kind between them are left out.
        x = Subject.with("a 1 0 1 0");
        x.traceDue("s 1 1 0 0", 1);
        x.traceDue("r 2 1 0 0", 1);
        x.traceDue("s 3 1 0 1 0", 1);
        x.traceDue("r 4 0 2 0", 1);
        x.restsDue(1, 2, 4 + 1, 8 + 2);
    }

    // ---- Promises 11 and 12

    private static void promise11() {
        Checks.sentence("Promise 11", "The steps that step i rests on, step k as 2^k");
        // A row of 24 steps, each of which has the one before it.
        Subject x = Subject.with("0");
        StringBuilder row = new StringBuilder("r 1 0 0");
        for (int id = 2; id <= 24; id++) {
            row.append(" ").append(id).append(" 0 ").append(id - 1).append(" 0");
            if (id % 12 == 0) {
                x.traceDue(row.toString(), 12);
                row = new StringBuilder("r");
            }
        }
        for (int i = 0; i < 24; i++) {
            x.restDue(i, (int) Math.pow(2, i + 1) - 1);
        }
        // A whole proof that a formula is true, and one that a formula is not.
        x = Subject.with("a 1 0 e 2 0 1 -2 0 -1 2 0");
        x.traceDue("s 5 1 2 0 0 6 -1 -2 0 0 7 1 0 5 0 8 -1 0 6 0 9 0 7 8 0", 5);
        x.restsDue(1, 2, 4 + 1, 8 + 2, 31);
        x.wonDue(0, 0, true);
        x = Subject.with("e 2 0 a 1 0 1 -2 0 -1 2 0");
        x.traceDue("r 5 1 -2 0 0 6 -1 2 0 0 7 -2 0 5 0 8 2 0 6 0 9 0 7 8 0", 5);
        x.restsDue(1, 2, 4 + 1, 8 + 2, 31);
        x.wonDue(0, 0, false);
        // 24 steps that rest on nothing but themselves.
        x = new Subject();
        for (int i = 0; i < 24; i++) {
            x.traceDue("s " + (99 - i) + " 0 0", 1);
            x.restDue(i, (int) Math.pow(2, i));
        }

        Checks.sentence("Promise 11", "BAD when there is none such.");
        noRestDue(x, 24);
        noRestDue(new Subject(), 0);
        x = Subject.with("e 1 0 1 0");
        x.traceDue("r 1 1 0 0", 1);
        x.traceWrong(FALSE, "r 2 0 ^0");
        noRestDue(x, 1);
        x.formulaDue("", 0);
        noRestDue(x, 0);
    }

    private static void noRestDue(Subject x, int count) {
        for (int i = count; i <= 25; i++) {
            x.restDue(i, -1);
        }
        x.restDue(-1, -1);
        for (int i : NEVER) {
            x.restDue(i, -1);
        }
    }

    private static void promise12() {
        Checks.sentence("Promise 12", "The first step (from 0, clause or cube) that is empty");
        Subject x = Subject.with("e 1 0 0 1 0");
        x.traceDue("r 9 0 0", 1);
        x.emptyDue(0);
        x.traceDue("r 8 0 9 0 7 1 0 0", 2);
        x.emptyDue(0);
        // The first of several, whatever their ids.
        x.formulaDue("e 1 0 0 1 0", 0);
        x.traceDue("r 9 1 0 0 5 0 0 3 0 5 0 1 0 3 0", 4);
        x.emptyDue(1);
        // A clause behind cubes, and a cube behind clauses.
        x = Subject.with("a 1 0 1 0");
        x.traceDue("s 1 1 0 0", 1);
        x.traceDue("r 2 1 0 0 3 0 2 0", 2);
        x.emptyDue(2);
        x = Subject.with("e 1 0 1 0");
        x.traceDue("r 1 1 0 0", 1);
        x.traceDue("s 2 1 0 0 3 0 2 0", 2);
        x.emptyDue(2);
        // The last of 24.
        x = Subject.with("e 1 0 1 0 0");
        for (int id = 1; id <= 23; id++) {
            x.traceDue("r " + id + " 1 0 0", 1);
        }
        x.emptyDue(-1);
        x.traceDue("r 24 0 0", 1);
        x.emptyDue(23);

        Checks.sentence("Promise 12", "BAD when there is none.");
        new Subject().emptyDue(-1);
        Subject.with("0").emptyDue(-1);
        x = Subject.with("e 1 0 1 0 0");
        x.traceDue("r 1 1 0 0", 1);
        x.emptyDue(-1);
        x.traceWrong(QuantifierProofs.SYNTAX, "r 2 0^");
        x.emptyDue(-1);
        x.traceDue("r 2 0 0", 1);
        x.emptyDue(1);
        x.formulaDue("e 1 0 1 0 0", 0);
        x.emptyDue(-1);
    }
}
