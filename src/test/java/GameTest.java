/** The game, and promises 13 and 14, sentence by sentence. */
public final class GameTest {
    private static final int WINS = 256;
    /** Each answer of SOME must be the other value than that which ALL chose before it. */
    private static final String ANSWERS = "a 1 0 e 2 0 a 3 0 e 4 0 a 5 0 e 6 0 a 7 0 e 8 0 "
            + "1 2 0 -1 -2 0 3 4 0 -3 -4 0 5 6 0 -5 -6 0 7 8 0 -7 -8 0";

    public static void main(String[] args) {
        inTheirOrder();
        whoChooses();
        trueLiterals();
        eachClause();
        someCanWin();
        bitsOfValues();
        othersNotLookedAt();
        withoutClauses();
        outOfRange();
        someChooses();
        theIth();
        bitsOfAll();
        leastValueNotWon();
        noneSuch();
        allValues();
        Checks.finish("GameTest");
    }

    // ---- Terms: the game

    private static void inTheirOrder() {
        Checks.sentence("The game", "the variables get values, 0 or 1, in their order");
        // Who chooses later knows what was chosen before.
        Subject.with("a 1 0 e 2 0 1 -2 0 -1 2 0").wonDue(0, 0, true);
        Subject.with("e 2 0 a 1 0 1 -2 0 -1 2 0").wonDue(0, 0, false);
        Subject.with("a 8 0 e 1 0 8 -1 0 -8 1 0").wonDue(0, 0, true);
        Subject.with("e 1 0 a 8 0 8 -1 0 -8 1 0").wonDue(0, 0, false);
    }

    private static void whoChooses() {
        Checks.sentence("The game",
                "who plays ALL chooses those for all, who plays SOME those for some");
        Subject.with("a 1 0 1 0").wonDue(0, 0, false);
        Subject.with("a 1 0 -1 0").wonDue(0, 0, false);
        Subject.with("e 1 0 1 0").wonDue(0, 0, true);
        Subject.with("e 1 0 -1 0").wonDue(0, 0, true);
        Subject x = Subject.with("a 1 2 0 1 2 0");
        x.wonDue(0, 0, false);
        x.wonDue(1, 1, true);
        x.wonDue(1, 0, false);
        x = Subject.with("e 1 2 0 1 2 0 -1 0");
        x.wonDue(0, 0, true);
        x.wonDue(1, 1, false);
        x.wonDue(1, 0, true);
    }

    private static void trueLiterals() {
        Checks.sentence("The game", "A literal v is true if the value is 1, -v if it is 0.");
        for (int v = 1; v <= 8; v++) {
            for (String kind : new String[] {"a ", "e "}) {
                Subject x = Subject.with(kind + v + " 0 " + v + " 0");
                x.wonDue(1, 1, true);
                x.wonDue(1, 0, false);
                x.formulaDue(kind + v + " 0 -" + v + " 0", 0);
                x.wonDue(1, 1, false);
                x.wonDue(1, 0, true);
            }
        }
    }

    private static void eachClause() {
        Checks.sentence("The game", "SOME wins if then each clause has a literal that is true");
        Subject x = Subject.with("e 1 2 3 0 1 2 0 -2 3 0 1 -3 0");
        for (int values = 0; values < 8; values++) {
            boolean one = (values & 1) != 0;
            boolean two = (values & 2) != 0;
            boolean three = (values & 4) != 0;
            boolean wins = (one || two) && (!two || three) && (one || !three);
            x.wonDue(3, values, wins);
            x.playDue(values, wins ? WINS + values : values);
        }
        // The twelfth is one as well.
        x = Subject.with("e 1 2 0 " + "1 0 ".repeat(11) + "2 0");
        x.wonDue(2, 1, false);
        x.wonDue(2, 2, false);
        x.wonDue(2, 3, true);

        Checks.sentence("The game", "(so never, if a clause has none)");
        x = Subject.with("e 1 0 a 2 0 1 0 0");
        x.wonDue(0, 0, false);
        x.wonDue(1, 1, false);
        x.wonDue(2, 3, false);
        x.playDue(1, 1);
        x = Subject.with("0");
        x.wonDue(0, 0, false);
        x.playDue(0, 0);
    }

    private static void someCanWin() {
        Checks.sentence("The game", "A formula with values for its first variables is WON if SOME "
                + "can win from there on whatever ALL does.");
        Subject x = Subject.with("a 1 0 e 2 0 1 -2 0 -1 2 0");
        x.wonDue(0, 0, true);
        x.wonDue(1, 0, true);
        x.wonDue(1, 1, true);
        x.wonDue(2, 0, true);
        x.wonDue(2, 1, false);
        x.wonDue(2, 2, false);
        x.wonDue(2, 3, true);
        // SOME needs one good value, be it 0 or 1; ALL must have none, be it 0 or 1.
        x = Subject.with("e 1 0 a 2 0 1 2 0 1 -2 0");
        x.wonDue(0, 0, true);
        x.wonDue(1, 0, false);
        x.wonDue(1, 1, true);
        x = Subject.with("e 1 0 a 2 0 -1 2 0");
        x.wonDue(0, 0, true);
        x.wonDue(1, 1, false);
        x.wonDue(1, 0, true);
        Subject.with("a 1 0 e 2 0 1 2 0 1 -2 0").wonDue(0, 0, false);
        Subject.with("a 1 0 e 2 0 -1 2 0 -1 -2 0").wonDue(0, 0, false);
        x = Subject.with(ANSWERS);
        x.wonDue(0, 0, true);
        x.wonDue(8, 170, true);
        x.wonDue(8, 85, true);
        x.wonDue(8, 171, false);
        x.wonDue(7, 42, true);
        x.wonDue(6, 0, false);
        x.wonDue(5, 6, true);
    }

    // ---- Promise 13

    private static void bitsOfValues() {
        Checks.sentence("Promise 13", "bit i of values is that of the i-th one in their order");
        // Where it comes counts, not its number: bit 0 is 7's, bit 1 is 3's.
        Subject x = Subject.with("e 7 0 a 3 0 7 0 -3 0");
        x.wonDue(2, 0, false);
        x.wonDue(2, 1, true);
        x.wonDue(2, 2, false);
        x.wonDue(2, 3, false);
        // The bits, counted from 0, of eight variables, each of which has to be 1.
        x = Subject.with("e 8 7 6 5 4 3 2 1 0 8 0 7 0 6 0 5 0 4 0 3 0 2 0 1 0");
        x.wonDue(8, 255, true);
        for (int i = 0; i < 8; i++) {
            x.wonDue(8, 255 - (1 << i), false);
            x.wonDue(i, 255 - (1 << i), true);
            x.wonDue(i + 1, 255 - (1 << i), false);
        }
    }

    private static void othersNotLookedAt() {
        Checks.sentence("Promise 13", "(others are not looked at");
        Subject x = Subject.with("e 1 0 a 2 0 e 3 0 1 2 0 -2 3 0");
        boolean[][] want = {{true}, {false, true}, {false, true, true, true},
            {false, true, false, false, false, true, true, true}};
        for (int n = 0; n <= 3; n++) {
            for (int values = 0; values < 8; values++) {
                boolean due = want[n][values % (1 << n)];
                x.wonDue(n, values, due);
                x.wonDue(n, values + 256, due);
                x.wonDue(n, values - 8, due);
                x.wonDue(n, values + Integer.MIN_VALUE, due);
            }
        }
        // With n = 0 not a bit is looked at, be the next one ALL's or SOME's.
        x = Subject.with("a 1 0 1 0");
        x.wonDue(0, 1, false);
        x.wonDue(0, -1, false);
        x = Subject.with("e 1 0 1 0");
        x.wonDue(0, 0, true);
        x.wonDue(0, -2, true);
    }

    private static void withoutClauses() {
        Checks.sentence("Promise 13", "without clauses it is won)");
        Subject x = new Subject();
        x.wonDue(0, 0, true);
        x.wonDue(0, -1, true);
        x.formulaDue("a 1 0 e 2 0", 0);
        for (int n = 0; n <= 2; n++) {
            for (int values = 0; values < 4; values++) {
                x.wonDue(n, values, true);
            }
        }
        x.formulaDue("a 1 2 3 4 5 6 7 8 0", 0);
        x.wonDue(0, 0, true);
        x.wonDue(8, 255, true);
    }

    private static void outOfRange() {
        Checks.sentence("Promise 13", "False too when n is not 0 .. as many as there are.");
        // All of them have no clauses, so they are won whenever n is right.
        String[] formulas = {"", "e 1 0", "a 1 0 e 2 0", "e 1 2 3 4 5 6 7 8 0"};
        int[] counts = {0, 1, 2, 8};
        for (int f = 0; f < formulas.length; f++) {
            Subject x = Subject.with(formulas[f]);
            for (int n = -2; n <= 34; n++) {
                x.wonDue(n, 0, n >= 0 && n <= counts[f]);
                x.wonDue(n, -1, n >= 0 && n <= counts[f]);
            }
            x.wonDue(Integer.MAX_VALUE, 0, false);
            x.wonDue(Integer.MIN_VALUE, 0, false);
        }
        // Those of a formula that is no more do not count.
        Subject x = Subject.with("e 1 2 3 0");
        x.formulaDue("e 1 0", 0);
        x.wonDue(1, 0, true);
        x.wonDue(2, 0, false);
    }

    // ---- Promise 14

    private static void someChooses() {
        Checks.sentence("Promise 14",
                "where SOME is to choose, the variable gets bit i of values (good or not;");
        Subject x = Subject.with("e 1 2 3 0 1 0 -2 0");
        for (int values = 0; values < 8; values++) {
            x.playDue(values, values % 4 == 1 ? WINS + values : values);
        }
        x = Subject.with("e 1 2 3 4 5 6 7 8 0 1 0 -8 0");
        for (int i = 0; i < 8; i++) {
            x.playDue(1 << i, i == 0 ? WINS + 1 : 1 << i);
        }
        x.playDue(255, 255);
        x.playDue(127, WINS + 127);
        // Bits behind the last variable are nobody's.
        x = Subject.with("e 1 0 1 0");
        x.playDue(-1, WINS + 1);
        x.playDue(-2, 0);
        x.playDue(256, 0);
        x.playDue(Integer.MIN_VALUE, 0);
        x.playDue(Integer.MAX_VALUE, WINS + 1);
    }

    private static void theIth() {
        Checks.sentence("Promise 14", "if it is the i-th");
        // Where it comes counts, from 0, not its number.
        Subject x = Subject.with("e 7 0 e 3 0 7 0 -3 0");
        x.playDue(0, 0);
        x.playDue(1, WINS + 1);
        x.playDue(2, 2);
        x.playDue(3, 3);
        // Those of ALL are counted as well.
        x = Subject.with("a 1 0 e 8 0 a 3 0 e 2 0 8 0 -2 0");
        x.playDue(2, WINS + 2);
        x.playDue(1, 0);
        x.playDue(10, 10);
        x.playDue(8, 8);
    }

    private static void bitsOfAll() {
        Checks.sentence("Promise 14", "bits of ALL's are not looked at)");
        Subject x = Subject.with("e 1 0 a 2 0 e 3 0 1 2 0 -2 3 0");
        int[] want = {0, WINS + 1, 0, WINS + 1, 4, WINS + 5, 4, WINS + 5};
        for (int values = 0; values < 8; values++) {
            x.playDue(values, want[values]);
        }
        x = Subject.with("a 1 2 0 1 0");
        x.playDue(3, 0);
        x.playDue(-1, 0);
        x = Subject.with("a 1 2 0 -2 0");
        x.playDue(0, 2);
        x.playDue(1, 2);
    }

    private static void leastValueNotWon() {
        Checks.sentence("Promise 14",
                "where ALL is to choose, the least value with which the formula is not won");
        // Only 1 is not won; only 0 is not won; neither is won.
        Subject.with("a 1 0 -1 0").playDue(0, 1);
        Subject.with("a 1 0 1 0").playDue(1, 0);
        Subject.with("a 1 0 e 2 0 2 0 -2 0").playDue(3, 2);
        // It depends on what SOME chose before.
        Subject x = Subject.with("e 1 0 a 2 0 1 2 0 -1 -2 0");
        x.playDue(0, 0);
        x.playDue(1, 3);
        // It looks ahead: 1 leaves SOME no good value.
        x = Subject.with("a 1 0 e 2 0 -1 2 0 -1 -2 0");
        x.playDue(0, 1);
        x.playDue(2, 3);
        // With 0 it would be won by good play, so 1 is chosen, though bad play is to come.
        x = Subject.with("a 1 0 e 2 0 1 2 0 -1 0");
        x.playDue(0, 1);
        x.playDue(2, 3);
        x = Subject.with("a 1 0 e 2 0 1 -2 0 -1 0");
        x.playDue(0, 1);
        x.playDue(2, 3);
        // Behind its own choices, too: what is lost stays lost with the least value.
        x = Subject.with("a 1 2 3 0 -1 -2 -3 0");
        x.playDue(0, 7);
        x = Subject.with("a 1 2 3 0 -1 0");
        x.playDue(7, 1);
        x = Subject.with("a 1 2 3 0 1 -2 3 0");
        x.playDue(0, 2);
    }

    private static void noneSuch() {
        Checks.sentence("Promise 14", "or 0 if there is none such.");
        Subject x = Subject.with("a 1 0 e 2 0 1 2 0 -1 2 0");
        x.playDue(2, WINS + 2);
        x.playDue(3, WINS + 2);
        // SOME plays badly then, and loses.
        x.playDue(0, 0);
        x.playDue(1, 0);
        x = Subject.with("a 1 0 e 2 0");
        x.playDue(3, WINS + 2);
        x = Subject.with("a 1 2 0");
        x.playDue(-1, WINS);
        x = Subject.with(ANSWERS);
        x.playDue(170, WINS + 170);
        x.playDue(255, WINS + 170);
        x.playDue(0, 0);
        x.playDue(42, 42);
    }

    private static void allValues() {
        Checks.sentence("Promise 14", "Answers all values, likewise, and 256 more if SOME wins.");
        // Those of ALL and of SOME, each at the bit where it comes.
        Subject x = Subject.with("a 8 0 e 1 0 a 7 0 e 2 0 -8 1 0 -8 -7 2 0 -8 0");
        x.playDue(0, 1);
        x.playDue(2, 3);
        x.playDue(8, 9);
        x.playDue(15, 11);
        x = Subject.with("e 1 2 3 4 5 6 7 8 0");
        x.playDue(255, 511);
        x.playDue(128, WINS + 128);
        x.playDue(0, WINS);
        // Without variables there are no values.
        x = new Subject();
        x.playDue(0, WINS);
        x.playDue(-1, WINS);
        x.formulaDue("0", 0);
        x.playDue(-1, 0);
    }
}
