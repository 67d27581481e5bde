/** The buffer and the words in it, and promises 1 and 2, sentence by sentence. */
public final class WordsTest {
    private static final int SYNTAX = QuantifierProofs.SYNTAX;
    private static final int NAME = QuantifierProofs.NAME;
    private static final int TWICE = QuantifierProofs.TWICE;
    private static final int MANY = QuantifierProofs.MANY;

    public static void main(String[] args) {
        atMost200Characters();
        codes32To126();
        atFirstNone();
        fromTheLeft();
        rowsWithoutSpaces();
        digits();
        oneMinus();
        threeDigits();
        zeroInFront();
        theLetters();
        placeOfAWord();
        placeOfTheEnd();
        newObject();
        behindTheBuffer();
        refusedCode();
        refusedWhenFull();
        Checks.finish("WordsTest");
    }

    // ---- Terms

    private static void atMost200Characters() {
        Checks.sentence("The buffer", "THE BUFFER has at most 200 characters");
        Subject x = new Subject();
        x.type(" ".repeat(199));
        x.type("x");
        x.refusedDue(' ');
        x.refusedDue('x');
        x.refusedDue('~');
        x.formulaDue("", -1000 * SYNTAX - 199);
        // Each reading makes room for 200 anew.
        x.type("?".repeat(200));
        x.refusedDue('0');
        x.traceDue("", -1000 * SYNTAX);
    }

    private static void codes32To126() {
        Checks.sentence("The buffer", "(codes 32 to 126)");
        for (int code = 0; code <= 65535; code++) {
            boolean taken = new Subject().call().type((char) code);
            Checks.due("type((char) " + code + ")", taken, code >= 32 && code <= 126);
        }
    }

    private static void atFirstNone() {
        Checks.sentence("The buffer", "at first none");
        new Subject().bufferEmptyDue();
        new Subject().formulaDue("", 0);
    }

    private static void fromTheLeft() {
        Checks.sentence("The buffer", "It is read from the left in WORDS");
        Subject x = Subject.with("e 3 0 a 1 0 3 0 1 -3 0");
        x.variablesDue(3, 11);
        x.clausesDue(Checks.set(3), Checks.set(1, -3));
        Checks.formulasWrong(SYNTAX, "^? e 9 0");
        Checks.formulasWrong(NAME, "e ^9 ? 0");
    }

    private static void rowsWithoutSpaces() {
        Checks.sentence("The buffer", "rows of characters that are no space, as long as can be");
        Checks.formulasWrong(NAME, "e 1 0 ^12 0", "e ^12 0", "e 1 0 ^-12 0");
        Checks.formulasWrong(SYNTAX, "^e1 0", "e ^1e 0", "^a0", "e 1 0 ^1-1 0",
                "^" + "1".repeat(200));
        Checks.tracesWrong("0", SYNTAX, "^rs", "^r1 0 0", "r 1 ^0r");
        Subject x = Subject.with("   e  1   2 0     1  -2    0   ");
        x.variablesDue(1, 2);
        x.clausesDue(Checks.set(1, -2));
        x.traceDue("    r   7  1    -2 0   0  ", 1);
        Subject.with("   ").variablesDue();
    }

    /** Behind a clause 0 is right, each other number is a NAME, and all else is SYNTAX. */
    private static void numberDue(String word, boolean isNumber) {
        int want = word.equals("0") ? 0 : -1000 * (isNumber ? NAME : SYNTAX) - 2;
        new Subject().formulaDue("0 " + word, want);
        // Where a step begins, -1 is SYNTAX as well; among its literals no number is.
        int wantInStep = -1000 * (isNumber && !word.equals("0") ? NAME : SYNTAX) - 4;
        int end = word.equals("0") ? 1 : 0;
        new Subject().traceDue("r 1 " + word, wantInStep - end);
    }

    private static void digits() {
        Checks.sentence("The buffer", "A word is a NUMBER if it is digits");
        for (char c = 33; c <= 126; c++) {
            boolean digit = c >= '0' && c <= '9';
            numberDue("" + c, digit);
            numberDue("1" + c, digit);
            numberDue("12" + c, digit);
            numberDue(c + "1", digit && c != '0' || c == '-');
            numberDue(c + "12", digit && c != '0' || c == '-');
            numberDue("1" + c + "2", digit);
            numberDue("-1" + c, digit);
        }
    }

    private static void oneMinus() {
        Checks.sentence("The buffer", "perhaps with one - before them");
        for (String word : new String[] {"-1", "-9", "-10", "-99", "-100", "-999"}) {
            numberDue(word, true);
        }
        String[] none = {"-", "--", "--1", "---1", "1-", "12-", "-1-", "1-1", "-1-1", "+1", "+-1",
            "-+1"};
        for (String word : none) {
            numberDue(word, false);
        }
        // A - alone is a word of its own: it does not join what comes behind a space.
        Checks.formulasWrong(SYNTAX, "e 1 0 ^- 1 0");
    }

    private static void threeDigits() {
        Checks.sentence("The buffer", "at most three digits");
        for (String word : new String[] {"1", "12", "123", "999", "-1", "-12", "-123", "-999"}) {
            numberDue(word, true);
        }
        String[] none = {"1000", "-1000", "1234", "-1234", "9999", "12345678901", "4294967297",
            "-4294967297"};
        for (String word : none) {
            numberDue(word, false);
        }
    }

    private static void zeroInFront() {
        Checks.sentence("The buffer", "and not -0 or longer with a 0 in front");
        for (String word : new String[] {"0", "10", "100", "101", "-10", "-100", "-101"}) {
            numberDue(word, true);
        }
        String[] none = {"-0", "00", "000", "0000", "01", "001", "010", "09", "-00", "-000", "-01",
            "-001", "-010"};
        for (String word : none) {
            numberDue(word, false);
        }
    }

    private static void theLetters() {
        Checks.sentence("The buffer", "or one of the LETTERS a, e, r, s");
        for (char c = 33; c <= 126; c++) {
            boolean number = c >= '1' && c <= '9';
            int wrong = c == 'a' || c == 'e' ? -1000 * SYNTAX - 1
                    : number ? -1000 * NAME : -1000 * SYNTAX;
            new Subject().formulaDue("" + c, c == '0' ? 0 : wrong);
            new Subject().traceDue("" + c, c == 'r' || c == 's' ? 0 : -1000 * SYNTAX);
        }
        Checks.formulasWrong(SYNTAX, "^A 1 0", "^E 1 0", "^aa 1 0", "^ae 1 0", "^ea 1 0");
        Checks.tracesWrong("", SYNTAX, "^R", "^S", "^rr", "^ss", "^rs", "^sr", "^r0");
    }

    private static void placeOfAWord() {
        Checks.sentence("The buffer", "The PLACE of a word is how many characters stand before it");
        Checks.formulasWrong(SYNTAX, "^x", " ^x", "    ^x  ", " ".repeat(199) + "^x",
                "e 1 0 ^x", "  e   1  0  ^x y");
        Checks.formulasWrong(NAME, "^1", "  e   1  0  ^-123  0 ");
        Checks.formulasWrong(TWICE, "  e  1  0  1  ^-1 0");
        Checks.formulasWrong(MANY, " ".repeat(150) + "0 ".repeat(12) + "   ^0");
        Checks.tracesWrong("", SYNTAX, "   ^x", "  r    ^x", "r 12   0  ^-0");
    }

    private static void placeOfTheEnd() {
        Checks.sentence("The buffer", "of the end, how many there are");
        Checks.formulasWrong(SYNTAX, "e^", "e   ^", "   e^", "e 1^", "e 1    ^",
                "e 1" + " ".repeat(197) + "^", " ".repeat(199) + "e^");
        Checks.tracesWrong("", SYNTAX, "^", "   ^", " ".repeat(200) + "^", "r 1  ^",
                "r" + " ".repeat(198) + "1^");
    }

    // ---- Promise 1

    private static void newObject() {
        Checks.sentence("Promise 1", "An empty buffer, no formula, no steps.");
        Subject x = new Subject();
        x.variablesDue();
        x.clausesDue();
        x.stepsDue();
        x.restsDue();
        x.emptyDue(-1);
        x.wonDue(0, 0, true);
        x.wonDue(1, 0, false);
        x.playDue(-1, 256);
        x.bufferEmptyDue();
    }

    // ---- Promise 2

    private static void behindTheBuffer() {
        Checks.sentence("Promise 2", "A character (of whatever use) comes behind the buffer.");
        for (char c = 32; c <= 126; c++) {
            Subject x = new Subject();
            x.type("0 1");
            x.type("" + c);
            boolean ofUse = c == ' ' || c >= '0' && c <= '9';
            x.formulaDue("", -1000 * (ofUse ? NAME : SYNTAX) - 2);
        }
        Subject x = new Subject();
        x.type("?");
        x.formulaDue("e 1 0", -1000 * SYNTAX);
    }

    private static void refusedCode() {
        Checks.sentence("Promise 2", "False, changing nothing, when c is not 32 .. 126");
        char[] refused = {0, 9, 10, 13, 31, 127, 128, 160, 255, 256, 288, 0x2030, 65535};
        for (char c : refused) {
            Subject x = Subject.with("e 1 0 1 0");
            x.traceDue("r 1 1 0 0", 1);
            x.refusedDue(c);
            x.bufferEmptyDue();
            // Within a word it does not part what stands before it from what comes behind it.
            x.type("r 2 1");
            x.refusedDue(c);
            x.traceDue("2 0", -1000 * NAME - 4);
            x.variablesDue(1);
            x.clausesDue(Checks.set(1));
            x.stepsDue(Checks.set(1));
        }
    }

    private static void refusedWhenFull() {
        Checks.sentence("Promise 2", "or it has 200.");
        Subject x = new Subject();
        x.type("e 1 0 1 0" + " ".repeat(190) + "0");
        char[] refused = {' ', '0', '1', 'x', '~', 31, 127};
        for (char c : refused) {
            x.refusedDue(c);
        }
        x.formulaDue("", 0);
        x.clausesDue(Checks.set(1), 0);
        x.bufferEmptyDue();
        x.traceDue("r 1 1 0 0", 1);
    }
}
