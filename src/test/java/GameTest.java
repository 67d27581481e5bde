/** Promises 13 and 14: won, play. */
public final class GameTest {
    public static void main(String[] args) {
        wonOrNot();
        orderMatters();
        wonWithoutClauses();
        wonWithEmptyClause();
        wonOutOfRange();
        otherBitsNotLookedAt();
        playOfSome();
        playOfAll();
        eightVariables();
        Checks.finish("GameTest");
    }

    private static void wonOrNot() {
        QuantifierProofs x = Checks.with("a 1 0 e 2 0 1 -2 0 -1 2 0");
        Checks.due("won(0, 0)", x.won(0, 0), true);
        Checks.due("won(1, 0)", x.won(1, 0), true);
        Checks.due("won(1, 1)", x.won(1, 1), true);
        Checks.due("won(2, 0)", x.won(2, 0), true);
        Checks.due("won(2, 1)", x.won(2, 1), false);
        Checks.due("won(2, 2)", x.won(2, 2), false);
        Checks.due("won(2, 3)", x.won(2, 3), true);
        x = Checks.with("a 1 2 0 1 2 0");
        Checks.due("ALL alone: won(0, 0)", x.won(0, 0), false);
        Checks.due("ALL alone: won(1, 1)", x.won(1, 1), true);
        Checks.due("ALL alone: won(1, 0)", x.won(1, 0), false);
        x = Checks.with("e 1 2 0 1 2 0 -1 0");
        Checks.due("SOME alone: won(0, 0)", x.won(0, 0), true);
        Checks.due("SOME alone: won(1, 1)", x.won(1, 1), false);
        Checks.due("SOME alone: won(1, 0)", x.won(1, 0), true);
    }

    private static void orderMatters() {
        QuantifierProofs x = Checks.with("e 2 0 a 1 0 1 -2 0 -1 2 0");
        Checks.due("SOME first: won(0, 0)", x.won(0, 0), false);
        // Bit 0 is that of 2, which comes first.
        x = Checks.with("e 7 0 e 3 0 7 0 -3 0");
        Checks.due("won(2, 1)", x.won(2, 1), true);
        Checks.due("won(2, 2)", x.won(2, 2), false);
        Checks.due("play(1)", x.play(1), 257);
        Checks.due("play(2)", x.play(2), 2);
    }

    private static void wonWithoutClauses() {
        QuantifierProofs x = Checks.with("a 1 0 e 2 0");
        Checks.due("won(0, 0)", x.won(0, 0), true);
        Checks.due("won(2, 3)", x.won(2, 3), true);
        Checks.due("play(3)", x.play(3), 256 + 2);
    }

    private static void wonWithEmptyClause() {
        QuantifierProofs x = Checks.with("e 1 0 a 2 0 1 0 0");
        Checks.due("won(0, 0)", x.won(0, 0), false);
        Checks.due("won(2, 3)", x.won(2, 3), false);
        Checks.due("play(1)", x.play(1), 1);
        x = Checks.with("0");
        Checks.due("no variables: won(0, 0)", x.won(0, 0), false);
        Checks.due("no variables: play(0)", x.play(0), 0);
    }

    private static void wonOutOfRange() {
        QuantifierProofs x = Checks.with("a 1 0 e 2 0");
        int[] out = {-1, 3, 8, 9, 32, Integer.MAX_VALUE, Integer.MIN_VALUE};
        for (int n : out) {
            Checks.due("won(" + n + ", 0)", x.won(n, 0), false);
            Checks.due("won(" + n + ", -1)", x.won(n, -1), false);
        }
    }

    private static void otherBitsNotLookedAt() {
        QuantifierProofs x = Checks.with("e 1 0 a 2 0 e 3 0 1 2 0 -2 3 0");
        for (int n = 0; n <= 3; n++) {
            for (int values = 0; values < 8; values++) {
                boolean plain = x.won(n, values & (1 << n) - 1);
                Checks.due("won(" + n + ", " + values + ")", x.won(n, values), plain);
                Checks.due("won with high bits", x.won(n, values | -8), plain);
            }
        }
        Checks.due("ALL is still to choose", Checks.with("a 1 0 1 0").won(0, 1), false);
        Checks.due("SOME is still to choose", Checks.with("e 1 0 1 0").won(0, 0), true);
        Checks.due("play(5)", x.play(5), 256 + 5);
        Checks.due("play with other bits", x.play(-8 + 5), 256 + 5);
        Checks.due("play with ALL's bit", x.play(7), 256 + 5);
    }

    private static void playOfSome() {
        QuantifierProofs x = Checks.with("e 1 2 3 0 1 0 -2 0");
        for (int values = 0; values < 8; values++) {
            int want = (values & 3) == 1 ? 256 + values : values;
            Checks.due("play(" + values + ")", x.play(values), want);
        }
    }

    private static void playOfAll() {
        // Only 1 is not won.
        QuantifierProofs x = Checks.with("a 1 0 -1 0");
        Checks.due("only 1 helps ALL", x.play(0), 1);
        Checks.due("only 1 helps ALL, whatever is asked", x.play(-2), 1);
        // Only 0 is not won.
        x = Checks.with("a 1 0 1 0");
        Checks.due("only 0 helps ALL", x.play(1), 0);
        // Neither is won: the least.
        x = Checks.with("a 1 0 e 2 0 2 0 -2 0");
        Checks.due("both help ALL", x.play(3), 2);
        // Both are won: 0.
        x = Checks.with("a 1 0 e 2 0 1 2 0 -1 2 0");
        Checks.due("neither helps ALL", x.play(2), 256 + 2);
        Checks.due("neither helps ALL, but SOME plays badly", x.play(0), 0);
        // What ALL chooses depends on what SOME chose before it.
        x = Checks.with("e 1 0 a 2 0 1 2 0 -1 -2 0");
        Checks.due("ALL after 0", x.play(0), 0);
        Checks.due("ALL after 1", x.play(1), 3);
        // ALL sees what is still to come: 1 leaves SOME no good value.
        x = Checks.with("a 1 0 e 2 0 -1 2 0 -1 -2 0");
        Checks.due("ALL looks ahead", x.play(0), 1);
        Checks.due("ALL looks ahead", x.play(2), 3);
        // With 0 SOME could still win, by a good value of 2 that is not the one to be played.
        x = Checks.with("a 1 0 e 2 0 1 2 0 -1 0");
        Checks.due("ALL expects good play", x.play(0), 1);
        Checks.due("ALL expects good play", x.play(2), 3);
        x = Checks.with("a 1 0 e 2 0 1 -2 0 -1 0");
        Checks.due("ALL expects good play", x.play(0), 1);
    }

    private static void eightVariables() {
        QuantifierProofs x = Checks.with("a 1 0 e 2 0 a 3 0 e 4 0 a 5 0 e 6 0 a 7 0 e 8 0 "
                + "1 2 0 -1 -2 0 3 4 0 -3 -4 0 5 6 0 -5 -6 0 7 8 0 -7 -8 0");
        Checks.due("SOME answers each: won(0, 0)", x.won(0, 0), true);
        Checks.due("won(8, 170)", x.won(8, 170), true);
        Checks.due("won(8, 85)", x.won(8, 85), true);
        Checks.due("won(8, 171)", x.won(8, 171), false);
        Checks.due("play(170)", x.play(170), 256 + 170);
        // Behind SOME's first bad value nothing is won, and ALL chooses 0.
        Checks.due("play(0)", x.play(0), 0);
        Checks.due("play(42)", x.play(42), 42);
    }
}
