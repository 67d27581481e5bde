/** Promises 3 and 5 to 8: formula, variables, variable, clauses, clause. */
public final class FormulaTest {
    public static void main(String[] args) {
        ordinary();
        withoutParts();
        allVariables();
        syntax();
        name();
        twice();
        many();
        firstOfSeveral();
        wrongChangesNothing();
        rightReplaces();
        nothingIsLeftOfEarlierOnes();
        Checks.finish("FormulaTest");
    }

    private static void ordinary() {
        QuantifierProofs x = Checks.with("e 3 8 0 a 1 0 e 2 0 3 -1 0 -8 2 1 0 0 -2 0");
        Checks.due("variables", x.variables(), 4);
        Checks.due("variable(0)", x.variable(0), 3);
        Checks.due("variable(1)", x.variable(1), 8);
        Checks.due("variable(2)", x.variable(2), 11);
        Checks.due("variable(3)", x.variable(3), 2);
        Checks.due("clauses", x.clauses(), 4);
        Checks.due("clause(0)", x.clause(0), Checks.set(3, -1));
        Checks.due("clause(1)", x.clause(1), Checks.set(-8, 2, 1));
        Checks.due("clause(1) in full", x.clause(1), 32768 + 2 + 1);
        Checks.due("clause(2)", x.clause(2), 0);
        Checks.due("clause(3)", x.clause(3), Checks.set(-2));
        int[] none = {-1, 4, 5, 8, 11, 12, Integer.MAX_VALUE, Integer.MIN_VALUE};
        for (int i : none) {
            Checks.due("variable(" + i + ")", x.variable(i), -1);
            Checks.due("clause(" + i + ")", x.clause(i), -1);
        }
    }

    private static void withoutParts() {
        QuantifierProofs x = Checks.with("e 1 0");
        Checks.due("no clauses: variables", x.variables(), 1);
        Checks.due("no clauses: clauses", x.clauses(), 0);
        x = Checks.with("0 0");
        Checks.due("no blocks: variables", x.variables(), 0);
        Checks.due("no blocks: clauses", x.clauses(), 2);
        x = Checks.with("a 1 0 a 2 0 e 3 0 e 4 0");
        Checks.due("blocks alike: variables", x.variables(), 4);
        Checks.due("blocks alike: variable(1)", x.variable(1), 12);
        Checks.due("blocks alike: variable(3)", x.variable(3), 4);
        x = Checks.with("");
        Checks.due("nothing: variables", x.variables(), 0);
        x = Checks.with("    ");
        Checks.due("spaces: clauses", x.clauses(), 0);
    }

    private static void allVariables() {
        QuantifierProofs x = Checks.with("a 8 7 6 5 0 e 4 3 2 1 0 "
                + "1 2 3 4 5 6 7 8 0 -1 -2 -3 -4 -5 -6 -7 -8 0");
        Checks.due("eight variables", x.variables(), 8);
        for (int i = 0; i < 8; i++) {
            Checks.due("variable(" + i + ") of eight", x.variable(i), i < 4 ? 18 - i : 8 - i);
        }
        Checks.due("all of them", x.clause(0), 255);
        Checks.due("all of them the other way", x.clause(1), 65280);
    }

    private static void syntax() {
        Checks.formulaWrong("^r 1 0", QuantifierProofs.SYNTAX);
        Checks.formulaWrong("^s 1 0", QuantifierProofs.SYNTAX);
        Checks.formulaWrong("e 1 0 ^r", QuantifierProofs.SYNTAX);
        Checks.formulaWrong("e ^a", QuantifierProofs.SYNTAX);
        Checks.formulaWrong("e 1 ^a 2 0", QuantifierProofs.SYNTAX);
        Checks.formulaWrong("e 1 ^e 0", QuantifierProofs.SYNTAX);
        Checks.formulaWrong("e ^0", QuantifierProofs.SYNTAX);
        Checks.formulaWrong("e ^-1 0", QuantifierProofs.SYNTAX);
        Checks.formulaWrong("e 1 ^-1 0", QuantifierProofs.SYNTAX);
        Checks.formulaWrong("e 1 ^-9 0", QuantifierProofs.SYNTAX);
        Checks.formulaWrong("e 1 0 a ^0", QuantifierProofs.SYNTAX);
        Checks.formulaWrong("e 1 0 1 ^a", QuantifierProofs.SYNTAX);
        Checks.formulaWrong("e 1 0 1 ^e 0", QuantifierProofs.SYNTAX);
        Checks.formulaWrong("e 1 0 1 0 ^a 2 0", QuantifierProofs.SYNTAX);
        Checks.formulaWrong("e 1 0 0 ^e 2 0", QuantifierProofs.SYNTAX);
        Checks.formulaWrong("0 ^a 1 0", QuantifierProofs.SYNTAX);
        Checks.formulaWrong("e 1 0 1 0 0 ^s", QuantifierProofs.SYNTAX);
        Checks.formulaWrong("e 1 0 ^0x", QuantifierProofs.SYNTAX);
        Checks.formulaWrong("e^", QuantifierProofs.SYNTAX);
        Checks.formulaWrong("e  ^", QuantifierProofs.SYNTAX);
        Checks.formulaWrong("e 1^", QuantifierProofs.SYNTAX);
        Checks.formulaWrong("e 1 0 a^", QuantifierProofs.SYNTAX);
        Checks.formulaWrong("e 1 0 1^", QuantifierProofs.SYNTAX);
        Checks.formulaWrong("e 1 0 1 0 -1 ^", QuantifierProofs.SYNTAX);
    }

    private static void name() {
        Checks.formulaWrong("e ^9 0", QuantifierProofs.NAME);
        Checks.formulaWrong("e ^999 0", QuantifierProofs.NAME);
        Checks.formulaWrong("e 1 ^1 0", QuantifierProofs.NAME);
        Checks.formulaWrong("e 1 0 a ^1 0", QuantifierProofs.NAME);
        Checks.formulaWrong("^1 0", QuantifierProofs.NAME);
        Checks.formulaWrong("^-1", QuantifierProofs.NAME);
        Checks.formulaWrong("e 1 0 ^2", QuantifierProofs.NAME);
        Checks.formulaWrong("e 1 0 1 ^-2", QuantifierProofs.NAME);
        Checks.formulaWrong("e 1 2 3 4 5 6 7 8 0 ^9 0", QuantifierProofs.NAME);
        Checks.formulaWrong("e 1 2 3 4 5 6 7 8 0 ^-9 0", QuantifierProofs.NAME);
        Checks.formulaWrong("e 1 2 3 4 5 6 7 8 0 ^33 0", QuantifierProofs.NAME);
        Checks.formulaWrong("e 1 2 3 4 5 6 7 8 0 ^-24 0", QuantifierProofs.NAME);
    }

    private static void twice() {
        Checks.formulaWrong("e 1 0 1 ^1 0", QuantifierProofs.TWICE);
        Checks.formulaWrong("e 1 0 -1 ^-1 0", QuantifierProofs.TWICE);
        Checks.formulaWrong("e 1 0 1 ^-1 0", QuantifierProofs.TWICE);
        Checks.formulaWrong("e 1 0 -1 ^1 0", QuantifierProofs.TWICE);
        Checks.formulaWrong("e 8 0 a 1 0 8 1 ^-8 0", QuantifierProofs.TWICE);
        Checks.with("e 1 0 1 0 1 0 -1 0");
    }

    private static void many() {
        String twelve = "0 0 0 0 0 0 0 0 0 0 0 0";
        QuantifierProofs x = Checks.with(twelve);
        Checks.due("twelve clauses", x.clauses(), 12);
        Checks.due("clause(11)", x.clause(11), 0);
        Checks.due("clause(12)", x.clause(12), -1);
        Checks.formulaWrong(twelve + " ^0", QuantifierProofs.MANY);
        Checks.formulaWrong("e 1 0 " + twelve + " 1 ^0 ?", QuantifierProofs.MANY);
        Checks.formulaWrong("e 1 0 " + twelve + " 1 ^2 0", QuantifierProofs.NAME);
        Checks.formulaWrong("e 1 0 " + twelve + " 1 ^1 0", QuantifierProofs.TWICE);
        Checks.formulaWrong("e 1 0 " + twelve + " 1^", QuantifierProofs.SYNTAX);
        Checks.formulaWrong("e 1 0 " + twelve + " ^e 0", QuantifierProofs.SYNTAX);
    }

    private static void firstOfSeveral() {
        Checks.formulaWrong("e ^9 ? 0", QuantifierProofs.NAME);
        Checks.formulaWrong("e 1 0 1 ^-1 2 a", QuantifierProofs.TWICE);
        Checks.formulaWrong("e 1 0 ^2 2 ?", QuantifierProofs.NAME);
        Checks.formulaWrong("^? 9 0", QuantifierProofs.SYNTAX);
    }

    private static void wrongChangesNothing() {
        QuantifierProofs x = Checks.with("a 2 0 e 1 0 1 2 0 -1 0");
        Checks.due("a step", Checks.trace(x, "r 7 1 2 0 0"), 1);
        String[] wrong = {"e 5 6 0 5 0 6 ?", "a 3 0 3 0 3 0 3", "e 4 0 -4 4 0", "e 1 0 2 0", "x"};
        for (String text : wrong) {
            Checks.due("'" + text + "' is wrong", Checks.formula(x, text) < 0, true);
            Checks.due("variables stay", x.variables(), 2);
            Checks.due("variable(0) stays", x.variable(0), 12);
            Checks.due("variable(1) stays", x.variable(1), 1);
            Checks.due("clauses stay", x.clauses(), 2);
            Checks.due("clause(0) stays", x.clause(0), 3);
            Checks.due("clause(1) stays", x.clause(1), 256);
            Checks.due("steps stay", x.steps(), 1);
            Checks.due("step(0) stays", x.step(0), 3);
            Checks.due("play stays", x.play(2), 2);
        }
        Checks.due("the id stays", Checks.trace(x, "r 7"), -2002);
        Checks.due("the step serves", Checks.trace(x, "r 8 1 2 0 7 0"), 1);
    }

    private static void rightReplaces() {
        QuantifierProofs x = Checks.with("a 2 0 e 1 0 1 2 0 -1 0");
        Checks.due("a step", Checks.trace(x, "r 7 1 2 0 0"), 1);
        Checks.due("the next formula", Checks.formula(x, "e 5 0 5 0"), 0);
        Checks.due("its variables", x.variables(), 1);
        Checks.due("its variable(0)", x.variable(0), 5);
        Checks.due("its clauses", x.clauses(), 1);
        Checks.due("its clause(0)", x.clause(0), 16);
        Checks.due("no steps", x.steps(), 0);
        Checks.due("step(0) is gone", x.step(0), -1);
        Checks.due("rests(0) is gone", x.rests(0), -1);
        Checks.due("variable 2 is gone", Checks.trace(x, "r 1 2"), -2004);
        Checks.due("the id is free", Checks.trace(x, "r 7 5 0 0"), 1);
        Checks.due("an empty formula", x.formula(), 0);
        Checks.due("no variables", x.variables(), 0);
        Checks.due("no clauses", x.clauses(), 0);
        Checks.due("no steps again", x.steps(), 0);
    }

    private static void nothingIsLeftOfEarlierOnes() {
        String[] right = {"a 1 0 1 0", "e 1 0 1 0 -1 0", "e 1 0", "a 2 1 0 2 0", "0",
            "e 2 0 -2 0", ""};
        int[] variables = {1, 1, 1, 2, 0, 1, 0};
        int[] first = {11, 1, 1, 12, -1, 2, -1};
        int[] clauses = {1, 2, 0, 1, 1, 1, 0};
        String[] wrong = {"", "a 1 3 ?", "e 2", "a", "e 1 2 0 2 0 -2", "a 2 0 1", "0 0 0 0 0 0 x"};
        for (String before : wrong) {
            QuantifierProofs x = new QuantifierProofs();
            for (int i = 0; i < right.length; i++) {
                Checks.formula(x, before);
                Checks.due("'" + right[i] + "' behind others", Checks.formula(x, right[i]), 0);
                Checks.due("its variables", x.variables(), variables[i]);
                Checks.due("its variable(0)", x.variable(0), first[i]);
                Checks.due("its clauses", x.clauses(), clauses[i]);
            }
        }
    }
}
