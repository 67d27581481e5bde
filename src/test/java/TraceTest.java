/** Promises 4 and 9 to 12: trace, steps, step, rests, empty. */
public final class TraceTest {
    public static void main(String[] args) {
        ordinary();
        severalTraces();
        syntax();
        name();
        twice();
        manySteps();
        manyIds();
        clausesWithoutIds();
        cubesWithoutIds();
        reductionOfClauses();
        reductionOfCubes();
        resolution();
        resolutionOfCubes();
        resolutionWithSideVariables();
        eightVariables();
        wrongLeavesStepsBefore();
        restsOnAll();
        firstEmpty();
        Checks.finish("TraceTest");
    }

    private static void ordinary() {
        QuantifierProofs x = Checks.with("e 1 0 a 2 0 e 3 0 1 3 0 -1 2 3 0 -3 -2 0 1 -3 0");
        // 2 is not inner to 3, so its two ways may not meet over 3.
        Checks.traceWrong(x, "r 1 1 3 0 0 2 1 -3 0 0 3 1 0 1 2 0 4 -1 2 3 0 0 5 -2 -3 0 0 "
                + "6 -1 2 -2 0 4 5 ^0 7 -1 0 6 0 8 0 3 7 0", QuantifierProofs.FALSE);
        Checks.due("steps", x.steps(), 5);
        Checks.due("step(2)", x.step(2), Checks.set(1));
        Checks.due("rests(2)", x.rests(2), 7);
        int[] none = {-1, 5, 23, 24, 32, Integer.MAX_VALUE, Integer.MIN_VALUE};
        for (int i : none) {
            Checks.due("step(" + i + ")", x.step(i), -1);
            Checks.due("rests(" + i + ")", x.rests(i), -1);
        }
    }

    private static void severalTraces() {
        QuantifierProofs x = Checks.with("a 1 0 e 2 0 1 -2 0 -1 2 0");
        Checks.traceDue(x, "s 5 1 2 0 0 6 -1 -2 0 0", 2);
        Checks.traceDue(x, "r 10 1 -2 0 0", 1);
        Checks.traceDue(x, "r", 0);
        Checks.traceDue(x, "  s  ", 0);
        Checks.traceDue(x, "s 7 1 0 5 0 8 -1 0 6 0 9 0 7 8 0", 3);
        Checks.due("steps", x.steps(), 6);
        Checks.due("step(0)", x.step(0), 65536 + Checks.set(1, 2));
        Checks.due("step(1)", x.step(1), 65536 + Checks.set(-1, -2));
        Checks.due("step(2)", x.step(2), Checks.set(1, -2));
        Checks.due("step(5)", x.step(5), 65536);
        Checks.due("rests(5)", x.rests(5), 1 + 2 + 8 + 16 + 32);
        Checks.due("empty", x.empty(), 5);
    }

    private static void syntax() {
        String[] marked = {
            "^", " ^", "^1", "^a", "^e 1 0", "^x", "^rr", "r ^x", "r ^r", "r ^a", "r ^0", "r ^-1",
            "r ^-100", "r 1 ^x", "r 1 ^s", "r 1 1 ^e", "r 1 1 0 ^r", "r 1 1 0 0 ^r",
            "r 1 1 0 0 ^s 2", "r 1^", "r 1 ^", "r 1 1^", "r 1 1 0^", "r 1 1 0 0 2^",
            "r 1 1 0 0 2 1 0 1^", "r 1 ^00", "r 1 1 0 ^-0"};
        for (String text : marked) {
            Checks.traceWrong(Checks.with("e 1 2 0 1 0 -1 2 0"), text, QuantifierProofs.SYNTAX);
        }
    }

    private static void name() {
        QuantifierProofs x = Checks.with("e 1 2 0 1 0 -1 2 0");
        Checks.traceWrong(x, "r ^100 1 0 0", QuantifierProofs.NAME);
        Checks.traceWrong(x, "r ^999", QuantifierProofs.NAME);
        Checks.traceDue(x, "r 99 1 0 0", 1);
        Checks.traceWrong(x, "r ^99", QuantifierProofs.NAME);
        Checks.traceWrong(x, "s ^99", QuantifierProofs.NAME);
        Checks.traceWrong(x, "r 1 ^3", QuantifierProofs.NAME);
        Checks.traceWrong(x, "r 1 ^-3", QuantifierProofs.NAME);
        Checks.traceWrong(x, "r 1 ^9", QuantifierProofs.NAME);
        Checks.traceWrong(x, "r 1 1 0 ^98 0", QuantifierProofs.NAME);
        Checks.traceWrong(x, "r 1 1 0 ^-99 0", QuantifierProofs.NAME);
        Checks.traceWrong(x, "r 1 1 0 ^100 0", QuantifierProofs.NAME);
        Checks.traceWrong(x, "r 1 1 0 ^1 0", QuantifierProofs.NAME);
        Checks.traceWrong(x, "r 1 1 0 99 ^2 0", QuantifierProofs.NAME);
        Checks.traceWrong(x, "s 1 1 2 0 ^99 0", QuantifierProofs.NAME);
        Checks.traceDue(x, "s 1 1 2 0 0", 1);
        Checks.traceWrong(x, "r 2 1 0 99 ^1 0", QuantifierProofs.NAME);
        Checks.due("steps", x.steps(), 2);
    }

    private static void twice() {
        QuantifierProofs x = Checks.with("e 1 0 a 2 0 1 0");
        Checks.traceWrong(x, "r 1 1 ^1 0 0", QuantifierProofs.TWICE);
        Checks.traceWrong(x, "r 1 -1 2 ^-1", QuantifierProofs.TWICE);
        // Both ways in one set is no fault of reading: only the step does not follow.
        Checks.traceWrong(x, "r 1 1 -1 0 ^0", QuantifierProofs.FALSE);
        Checks.traceDue(x, "r 1 1 0 0 2 1 0 1 0", 2);
        Checks.traceWrong(x, "r 3 1 0 1 1 ^0", QuantifierProofs.FALSE);
    }

    private static void manySteps() {
        QuantifierProofs x = Checks.with("0");
        for (int id = 1; id <= 23; id++) {
            Checks.traceDue(x, "r " + id + " 0 0", 1);
        }
        Checks.traceWrong(x, "r 24 0 0 ^25 0 0", QuantifierProofs.MANY);
        Checks.due("steps", x.steps(), 24);
        Checks.due("step(23)", x.step(23), 0);
        Checks.due("rests(23)", x.rests(23), 1 << 23);
        Checks.due("step(24)", x.step(24), -1);
        Checks.traceWrong(x, "s ^25", QuantifierProofs.MANY);
        Checks.traceWrong(x, "r ^1", QuantifierProofs.NAME);
        Checks.traceWrong(x, "r ^100", QuantifierProofs.NAME);
        Checks.traceWrong(x, "r ^0", QuantifierProofs.SYNTAX);
        Checks.traceDue(x, "r", 0);
        Checks.due("the same formula anew", Checks.formula(x, "0"), 0);
        Checks.traceDue(x, "r 25 0 0", 1);
    }

    private static void manyIds() {
        QuantifierProofs x = Checks.with("e 1 2 0 1 0 -1 2 0");
        Checks.traceDue(x, "r 3 1 0 0 4 -1 2 0 0 5 2 0 3 4 0", 3);
        Checks.traceWrong(x, "r 6 2 0 3 4 ^5 0", QuantifierProofs.MANY);
        Checks.traceWrong(x, "r 6 2 0 3 4 ^3", QuantifierProofs.MANY);
        Checks.traceWrong(x, "r 6 2 0 3 4 ^7", QuantifierProofs.NAME);
        Checks.traceWrong(x, "r 6 2 0 3 4 ^-1", QuantifierProofs.NAME);
        Checks.traceWrong(x, "r 6 2 0 3 4 ^r", QuantifierProofs.SYNTAX);
        Checks.due("steps", x.steps(), 3);
    }

    private static void clausesWithoutIds() {
        QuantifierProofs x = Checks.with("a 1 0 e 2 3 0 1 2 0 -3 0");
        Checks.traceDue(x, "r 1 2 1 0 0 2 -3 0 0 3 1 2 0 0", 3);
        Checks.traceWrong(x, "r 4 1 0 ^0", QuantifierProofs.FALSE);
        Checks.traceWrong(x, "r 4 1 2 -3 0 ^0", QuantifierProofs.FALSE);
        Checks.traceWrong(x, "r 4 1 -2 0 ^0", QuantifierProofs.FALSE);
        Checks.traceWrong(x, "r 4 0 ^0", QuantifierProofs.FALSE);
        Checks.traceWrong(new QuantifierProofs(), "r 4 0 ^0", QuantifierProofs.FALSE);
        x = Checks.with("0");
        Checks.traceDue(x, "r 4 0 0", 1);
    }

    private static void cubesWithoutIds() {
        QuantifierProofs x = Checks.with("a 1 0 e 2 3 0 1 2 0 -3 0");
        Checks.traceDue(x, "s 1 1 -3 0 0 2 2 -3 0 0 3 1 -2 -3 0 0", 3);
        Checks.traceWrong(x, "s 4 1 2 0 ^0", QuantifierProofs.FALSE);
        Checks.traceWrong(x, "s 4 -3 0 ^0", QuantifierProofs.FALSE);
        Checks.traceWrong(x, "s 4 -1 -2 -3 0 ^0", QuantifierProofs.FALSE);
        Checks.traceWrong(x, "s 4 1 -3 2 -2 0 ^0", QuantifierProofs.FALSE);
        Checks.traceWrong(x, "s 4 1 -1 -3 0 ^0", QuantifierProofs.FALSE);
        Checks.traceWrong(x, "s 4 0 ^0", QuantifierProofs.FALSE);
        Checks.traceDue(new QuantifierProofs(), "s 4 0 0", 1);
        Checks.traceWrong(Checks.with("0"), "s 4 0 ^0", QuantifierProofs.FALSE);
        x = Checks.with("e 1 0");
        Checks.traceDue(x, "s 1 1 0 0 2 0 0", 2);
        Checks.due("the empty cube", x.empty(), 1);
    }

    private static void reductionOfClauses() {
        // Side variables 1 and 5 come before and behind the main ones; 6 is main, but in no clause.
        QuantifierProofs x = Checks.with("a 1 0 e 2 0 a 3 0 e 4 0 a 5 0 e 6 0 "
                + "1 2 3 -5 0 1 -3 5 0 2 -4 0 1 4 5 0");
        Checks.traceDue(x, "r 1 1 2 3 -5 0 0 2 1 -3 5 0 0 3 2 -4 0 0 4 1 4 5 0 0", 4);
        Checks.traceDue(x, "r 5 1 2 0 1 0", 1);
        Checks.traceWrong(x, "r 6 1 2 3 0 1 ^0", QuantifierProofs.FALSE);
        Checks.traceWrong(x, "r 6 1 2 -5 0 1 ^0", QuantifierProofs.FALSE);
        Checks.traceWrong(x, "r 6 2 0 1 ^0", QuantifierProofs.FALSE);
        Checks.traceWrong(x, "r 6 1 2 3 -5 0 1 ^0", QuantifierProofs.FALSE);
        Checks.traceWrong(x, "r 6 1 0 1 ^0", QuantifierProofs.FALSE);
        Checks.traceDue(x, "r 6 0 2 0", 1);
        Checks.traceWrong(x, "r 7 1 0 2 ^0", QuantifierProofs.FALSE);
        Checks.traceDue(x, "r 7 2 -4 0 3 0", 1);
        Checks.traceDue(x, "r 8 1 4 0 4 0", 1);
        Checks.traceDue(x, "r 9 1 2 0 5 0", 1);
        Checks.traceDue(x, "r 10 0 6 0", 1);
    }

    private static void reductionOfCubes() {
        QuantifierProofs x = Checks.with("e 1 0 a 2 0 e 3 0 1 2 3 0 -3 2 0");
        Checks.traceDue(x, "s 1 1 2 -3 0 0 2 1 -3 0 0", 2);
        Checks.traceDue(x, "s 3 1 2 0 1 0", 1);
        Checks.traceWrong(x, "s 4 2 0 1 ^0", QuantifierProofs.FALSE);
        Checks.traceWrong(x, "s 4 1 0 1 ^0", QuantifierProofs.FALSE);
        Checks.traceDue(x, "s 4 0 2 0", 1);
        Checks.due("rests(3)", x.rests(3), 2 + 8);
    }

    private static void resolution() {
        QuantifierProofs x = Checks.with("e 1 2 3 0 1 2 0 -1 3 0 -1 -2 0 -1 2 0 1 -2 0");
        Checks.traceDue(x, "r 1 1 2 0 0 2 -1 3 0 0 3 -1 -2 0 0 4 -1 2 0 0 5 1 -2 0 0", 5);
        Checks.traceDue(x, "r 6 2 3 0 1 2 0", 1);
        Checks.traceDue(x, "r 7 2 3 0 2 1 0", 1);
        Checks.traceWrong(x, "r 8 2 0 1 2 ^0", QuantifierProofs.FALSE);
        Checks.traceWrong(x, "r 8 1 2 3 0 1 2 ^0", QuantifierProofs.FALSE);
        // Two opposed variables: neither may be chosen.
        Checks.traceWrong(x, "r 8 2 -2 0 1 3 ^0", QuantifierProofs.FALSE);
        Checks.traceWrong(x, "r 8 0 1 3 ^0", QuantifierProofs.FALSE);
        Checks.traceWrong(x, "r 8 1 -1 0 4 5 ^0", QuantifierProofs.FALSE);
        // None opposed.
        Checks.traceWrong(x, "r 8 1 2 0 1 1 ^0", QuantifierProofs.FALSE);
        Checks.traceWrong(x, "r 8 -1 2 3 0 2 4 ^0", QuantifierProofs.FALSE);
        Checks.traceDue(x, "r 8 2 0 1 4 0 9 -2 0 3 5 0 10 0 8 9 0", 3);
        Checks.due("empty", x.empty(), 9);
        Checks.due("rests(9)", x.rests(9), 512 + 256 + 128 + 16 + 8 + 4 + 1);
    }

    private static void resolutionOfCubes() {
        QuantifierProofs x = Checks.with("a 1 0 e 2 0 1 2 0 -1 -2 0");
        Checks.traceDue(x, "s 1 1 -2 0 0 2 -1 2 0 0", 2);
        // Over 1, and 2 meets both ways: it is a side variable, inner to 1.
        Checks.traceDue(x, "s 3 2 -2 0 1 2 0", 1);
        Checks.due("step(2)", x.step(2), 65536 + Checks.set(2, -2));
        Checks.traceDue(x, "s 4 0 3 0", 1);
        Checks.due("step(3)", x.step(3), 65536);
        // 2 is no main variable of a cube: there is nothing to resolve over.
        Checks.traceWrong(x, "s 5 1 0 1 0 6 -2 2 0 5 1 ^0", QuantifierProofs.FALSE);
        Checks.due("steps", x.steps(), 5);
    }

    private static void resolutionWithSideVariables() {
        // 1 and 2 are side variables before and behind the main variable 3.
        QuantifierProofs x = Checks.with("a 1 0 e 3 0 a 2 0 e 4 0 "
                + "2 3 4 0 -2 -3 4 0 1 3 4 0 -1 -3 4 0 -1 3 4 0 4 -3 0 2 3 -4 0 -2 4 0");
        Checks.traceDue(x, "r 1 2 3 4 0 0 2 -2 -3 4 0 0 3 1 3 4 0 0 4 -1 -3 4 0 0", 4);
        Checks.traceDue(x, "r 5 -1 3 4 0 0 6 4 -3 0 0 7 2 3 -4 0 0 8 -2 4 0 0", 4);
        Checks.traceDue(x, "r 11 2 -2 4 0 1 2 0", 1);
        Checks.traceWrong(x, "r 12 1 -1 4 0 3 4 ^0", QuantifierProofs.FALSE);
        Checks.traceWrong(x, "r 12 2 4 0 1 2 ^0", QuantifierProofs.FALSE);
        Checks.traceWrong(x, "r 12 4 0 1 2 ^0", QuantifierProofs.FALSE);
        // The same side literal on both sides is both ways nowhere.
        Checks.traceDue(x, "r 12 -1 4 0 5 4 0", 1);
        // 2 meets both ways over 4, to which it is not inner.
        Checks.traceWrong(x, "r 13 2 -2 3 0 7 8 ^0", QuantifierProofs.FALSE);
        Checks.traceWrong(x, "r 13 2 3 0 7 6 ^0", QuantifierProofs.FALSE);
        // Both ways already in one of the two, and not at all in the other: it need not be inner.
        x = Checks.with("e 1 0 a 2 0 e 3 4 0 1 2 3 0 -1 -2 3 0 -3 4 0 -3 2 0");
        Checks.traceDue(x, "r 1 1 2 3 0 0 2 -1 -2 3 0 0 3 -3 4 0 0 4 -3 2 0 0 5 2 -2 3 0 1 2 0", 5);
        Checks.traceDue(x, "r 6 2 -2 4 0 5 3 0", 1);
        Checks.traceDue(x, "r 7 2 -2 4 0 3 5 0", 1);
        Checks.traceWrong(x, "r 8 2 -2 0 5 4 ^0", QuantifierProofs.FALSE);
        Checks.traceWrong(x, "r 8 2 -2 0 4 5 ^0", QuantifierProofs.FALSE);
        Checks.due("step(4)", x.step(4), Checks.set(2, -2, 3));
    }

    private static void eightVariables() {
        QuantifierProofs x = Checks.with("a 8 0 e 7 0 a 6 0 e 5 0 a 4 0 e 3 0 a 2 1 0 "
                + "8 7 6 5 4 3 2 1 0 -8 7 6 5 4 -3 -2 -1 0 8 -6 -4 -2 0");
        Checks.traceDue(x, "r 1 8 7 6 5 4 3 2 1 0 0 2 -8 7 6 5 4 -3 -2 -1 0 0 3 8 -6 -4 -2 0 0", 3);
        // 8 comes first: it is inner to nothing, though 1 and 2 are inner to 3.
        Checks.traceWrong(x, "r 4 8 -8 7 6 5 4 2 -2 1 -1 0 1 2 ^0", QuantifierProofs.FALSE);
        Checks.traceDue(x, "r 4 8 7 6 5 4 3 0 1 0 5 -8 7 6 5 4 -3 0 2 0 6 0 3 0", 3);
        Checks.due("step(4)", x.step(4), Checks.set(-8, 7, 6, 5, 4, -3));
        Checks.due("empty", x.empty(), 5);
    }

    private static void wrongLeavesStepsBefore() {
        QuantifierProofs x = Checks.with("e 1 2 0 1 0 -1 2 0");
        Checks.traceWrong(x, "r 3 1 0 0 4 -1 2 0 0 5 1 2 0 3 4 ^0 6 1 0 0", QuantifierProofs.FALSE);
        Checks.due("steps", x.steps(), 2);
        Checks.due("step(2)", x.step(2), -1);
        Checks.traceWrong(x, "r 5 2 0 3 4 0 7 2 0 4 ^x", QuantifierProofs.SYNTAX);
        Checks.due("steps", x.steps(), 3);
        Checks.due("rests(2)", x.rests(2), 7);
        Checks.traceWrong(x, "r 7 1 0 0 8 1^", QuantifierProofs.SYNTAX);
        Checks.due("steps", x.steps(), 4);
        Checks.traceDue(x, "r 8 1 0 3 0", 1);
        Checks.due("step(4)", x.step(4), 1);
        Checks.due("rests(4)", x.rests(4), 16 + 1);
    }

    private static void restsOnAll() {
        QuantifierProofs x = Checks.with("e 1 2 0 1 0 -1 2 0 -2 0");
        Checks.traceDue(x, "r 50 1 0 0 40 -1 2 0 0 30 -2 0 0 20 2 0 40 50 0 10 0 30 20 0", 5);
        int[] want = {1, 2, 4, 8 + 2 + 1, 31};
        for (int i = 0; i < want.length; i++) {
            Checks.due("rests(" + i + ")", x.rests(i), want[i]);
        }
        Checks.traceDue(x, "r 60 1 0 50 0 61 1 0 60 0", 2);
        Checks.due("rests(6)", x.rests(6), 64 + 32 + 1);
    }

    private static void firstEmpty() {
        QuantifierProofs x = Checks.with("e 1 0 0 1 0 -1 0");
        Checks.traceDue(x, "r 1 1 0 0", 1);
        Checks.due("none is empty", x.empty(), -1);
        Checks.traceDue(x, "r 2 0 0 3 0 2 0", 2);
        Checks.due("the first of two", x.empty(), 1);
        x = Checks.with("e 1 0");
        Checks.traceDue(x, "s 1 0 0", 1);
        Checks.due("a cube", x.empty(), 0);
        x = Checks.with("a 1 0 1 0");
        Checks.traceDue(x, "s 1 1 0 0", 1);
        Checks.due("a cube with literals", x.empty(), -1);
        Checks.traceDue(x, "r 2 1 0 0 3 0 2 0", 2);
        Checks.due("a clause behind a cube", x.empty(), 2);
    }
}
