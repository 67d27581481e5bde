/** Promises 1 and 2: a new object, type; and what is a word and a number. */
public final class BufferTest {
    public static void main(String[] args) {
        newObject();
        charactersTaken();
        fullBuffer();
        refusedChangesNothing();
        emptyAfterReading();
        placesOfWords();
        numbers();
        letters();
        Checks.finish("BufferTest");
    }

    private static void newObject() {
        QuantifierProofs x = new QuantifierProofs();
        Checks.due("new: variables", x.variables(), 0);
        Checks.due("new: variable(0)", x.variable(0), -1);
        Checks.due("new: clauses", x.clauses(), 0);
        Checks.due("new: clause(0)", x.clause(0), -1);
        Checks.due("new: steps", x.steps(), 0);
        Checks.due("new: step(0)", x.step(0), -1);
        Checks.due("new: rests(0)", x.rests(0), -1);
        Checks.due("new: empty", x.empty(), -1);
        Checks.due("new: won(0, 0)", x.won(0, 0), true);
        Checks.due("new: won(1, 0)", x.won(1, 0), false);
        Checks.due("new: play(-1)", x.play(-1), 256);
        Checks.due("new: trace", x.trace(), -1000);
        Checks.due("new: formula", x.formula(), 0);
    }

    private static void charactersTaken() {
        for (int c = 0; c <= 65535; c++) {
            boolean got = new QuantifierProofs().type((char) c);
            Checks.due("type((char) " + c + ")", got, c >= 32 && c <= 126);
        }
    }

    private static void fullBuffer() {
        QuantifierProofs x = new QuantifierProofs();
        Checks.type(x, " ".repeat(200));
        Checks.due("the 201st character", x.type('x'), false);
        Checks.due("200 spaces and no x", x.formula(), 0);
        Checks.due("type behind reading", x.type('x'), true);
        Checks.due("the x alone", x.formula(), -1000);
        Checks.type(x, " ".repeat(200));
        Checks.due("trace of 200 spaces", x.trace(), -1200);
        Checks.type(x, " ".repeat(199) + "x");
        Checks.due("an x in the last place", x.formula(), -1199);
    }

    private static void refusedChangesNothing() {
        QuantifierProofs x = new QuantifierProofs();
        Checks.type(x, "e 1");
        Checks.due("type of 31", x.type((char) 31), false);
        Checks.due("type of 127", x.type((char) 127), false);
        Checks.type(x, " 0");
        Checks.due("the formula without them", x.formula(), 0);
        Checks.due("its variables", x.variables(), 1);
    }

    private static void emptyAfterReading() {
        QuantifierProofs x = Checks.with("e 1 0 1 0");
        Checks.due("nothing is left", x.formula(), 0);
        Checks.due("so no variables", x.variables(), 0);
        Checks.due("a wrong one", Checks.formula(x, "e 1 0 1 ?"), -1008);
        Checks.due("nothing is left of a wrong one", x.formula(), 0);
        Checks.due("a trace", Checks.trace(x, "r"), 0);
        Checks.due("nothing is left of a trace", x.formula(), 0);
        Checks.due("a wrong trace", Checks.trace(x, "x"), -1000);
        Checks.due("nothing is left of a wrong trace", x.formula(), 0);
    }

    private static void placesOfWords() {
        Checks.formulaWrong("^x", QuantifierProofs.SYNTAX);
        Checks.formulaWrong("   ^x", QuantifierProofs.SYNTAX);
        Checks.formulaWrong("  e   1  0  ^2  0 ", QuantifierProofs.NAME);
        Checks.formulaWrong("e 1 0  1    ^", QuantifierProofs.SYNTAX);
        Checks.formulaWrong("  e  1  0  1  ^-1 0", QuantifierProofs.TWICE);
        QuantifierProofs x = Checks.with("   e  1   0  1   0   ");
        Checks.due("with many spaces: clause(0)", x.clause(0), 1);
    }

    private static void numbers() {
        String[] none = {"00", "01", "-0", "-00", "-01", "001", "1000", "-1000", "0000", "-", "--1",
            "1-", "1-1", "+1", "1a", "a1", "1.", "1,", "/", ":", "1/", "1:", "0x1", "-a",
            "12345678901"};
        for (String word : none) {
            Checks.formulaWrong("e 1 0 ^" + word + " 0", QuantifierProofs.SYNTAX);
            Checks.traceWrong(Checks.with("e 1 0"), "r 1 ^" + word, QuantifierProofs.SYNTAX);
        }
        String[] some = {"2", "-2", "9", "-9", "10", "-10", "99", "999", "-999", "100", "-100"};
        for (String word : some) {
            Checks.formulaWrong("e 1 0 ^" + word + " 0", QuantifierProofs.NAME);
            Checks.traceWrong(Checks.with("e 1 0"), "r 1 ^" + word, QuantifierProofs.NAME);
        }
    }

    private static void letters() {
        for (int c = 33; c <= 126; c++) {
            String word = String.valueOf((char) c);
            boolean block = c == 'a' || c == 'e';
            boolean wholeClause = c == '0';
            boolean otherNumber = c >= '1' && c <= '9';
            int want = block ? -1001 : wholeClause ? 0 : otherNumber ? -2000 : -1000;
            Checks.formulaDue(word, want);
            int traceWant = c == 'r' || c == 's' ? 0 : -1000;
            Checks.traceDue(new QuantifierProofs(), word, traceWant);
        }
        Checks.formulaWrong("^ae 1 0", QuantifierProofs.SYNTAX);
        Checks.formulaWrong("^A 1 0", QuantifierProofs.SYNTAX);
        Checks.formulaWrong("^E 1 0", QuantifierProofs.SYNTAX);
        Checks.traceWrong(new QuantifierProofs(), "^rs", QuantifierProofs.SYNTAX);
        Checks.traceWrong(new QuantifierProofs(), "^R", QuantifierProofs.SYNTAX);
    }
}
