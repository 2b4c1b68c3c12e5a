/** Promises 8 to 12: lines, served, pairs, bell, best; the answers are worked out by hand. */
public final class LinesTest {
    private static final Due due = new Due("LinesTest");
    /** WORTHS 90, 70, 50 of 0, 1, 2; COSTS 20, 40, 60 of 3, 4, 5: two trades, 100 in all, from 50 to 60. */
    private static final String SIX = "v90,0;v70,0;v50,0;c20,0;c40,0;c60,0;";
    private static final int NONE = ShoutedPrices.NONE, BAD = ShoutedPrices.BAD;

    public static void main(String[] args) {
        lines();
        served();
        pairs();
        bell();
        best();
        wrongNumbers();
        due.end();
    }

    private static void lines(String text, int... answers) {
        ShoutedPrices x = Due.laid(text);
        for (int what = 0; what < answers.length; what++) {
            due.is(text + " lines(" + what + ")", x.lines(what), answers[what]);
        }
    }

    private static void lines() {
        lines(SIX, 2, 100, 50, 60, 0);
        lines("c60,0;v50,0;c20,0;v90,0;v70,0;c40,0;", 2, 100, 50, 60, 0);
        lines(SIX + "t10;", 2, 100, 50, 70, 0);
        lines(SIX + "t20;", 2, 100, 60, 70, 10);
        lines(SIX + "t30;", 2, 100, 70, 70, 20);
        lines(SIX + "t31;", 1, 70, 70, 71, 20);
        lines(SIX + "t50;", 1, 70, 70, 90, 20);
        lines(SIX + "l0;", 2, 100, 50, 60, 0);
        // nobody behind the last trade
        lines("v60,0;c10,0;", 1, 50, 10, 60, 0);
        lines("v60,0;c10,0;t50;", 1, 50, 60, 60, 50);
        lines("v60,0;v30,0;c10,0;", 1, 50, 30, 60, 0);
        lines("v60,0;c10,0;c40,0;t5;", 1, 50, 15, 45, 5);
        lines("v99,0;c99,0;", 1, 0, 99, 99, 0);
        lines("v0,0;c0,0;", 1, 0, 0, 0, 0);
        // no trades with the tax, none at all
        lines("v59,0;c10,0;t50;", 0, 0, NONE, NONE, NONE);
        lines("v9,0;c10,0;", 0, 0, NONE, NONE, NONE);
        lines(Due.repeat("v50,0;", 10) + Due.repeat("c50,1;", 10), 10, 0, 50, 50, 0);
    }

    private static void served(String text, int... answers) {
        ShoutedPrices x = Due.laid(text);
        for (int what = 0; what < answers.length; what++) {
            due.is(text + " served(" + what + ")", x.served(what), answers[what]);
        }
    }

    private static void served() {
        served(SIX, 2, 100, 100, 0);
        served(SIX + "l50;", 2, 100, 100, 0);
        served(SIX + "l49;", 2, 100, 60, 40);
        served(SIX + "l40;", 2, 100, 60, 40);
        served(SIX + "l39;", 1, 70, 30, 70);
        served(SIX + "l20;", 1, 70, 30, 70);
        served(SIX + "l19;", 0, 0, 0, 100);
        served(SIX + "l0;", 0, 0, 0, 100);
        served(SIX + "t20;l60;", 2, 100, 100, 0);
        served(SIX + "t20;l59;", 1, 70, 50, 50);
        served(SIX + "t20;l40;", 1, 70, 30, 70);
        served(SIX + "t20;l39;", 0, 0, 0, 100);
        served("v9,0;c10,0;l0;", 0, 0, 0, 0);
        served("v59,0;c10,0;t50;l20;", 0, 0, 0, 0);
    }

    private static void pairs(String text, int above, int below) {
        ShoutedPrices x = Due.laid(text);
        due.is(text + " above", x.pairs(0), above);
        due.is(text + " below", x.pairs(1), below);
    }

    private static void pairs() {
        pairs(SIX, 280, 3);
        pairs(SIX + "t20;", 260, 3);
        pairs("v90,0;v70,0;c20,0;c40,0;c60,0;", 80, 1);
        pairs("v10,0;v7,0;c6,0;", 5, 2);
        pairs("v10,0;v10,0;v6,0;v5,0;c4,0;", 15, 4);
        pairs("v10,0;v10,0;v5,0;v5,0;c4,0;", 7, 2);
        pairs("v10,0;c10,0;", 0, 1);
        pairs("v10,0;v10,0;c10,0;", 0, 1);
        pairs("v9,0;c10,0;c11,0;", 0, 1);
        pairs("v60,0;c10,0;t50;", 50, 1);
        pairs("v59,0;c10,0;t50;", 0, 1);
        pairs(Due.repeat("v99,0;", 10) + Due.repeat("c0,0;", 10), 990, 1);
    }

    private static void bell(String text, int[]... rows) {
        ShoutedPrices x = Due.laid(text);
        for (int[] row : rows) {
            due.is(text + " bell(" + row[0] + ", " + row[1] + ")", x.bell(row[0], row[1]), row[2]);
        }
    }

    private static void bell() {
        bell(SIX, new int[][] {{0, 90, 40}, {1, 70, 20}, {2, 50, 0}, {3, 20, 30}, {4, 40, 10}, {5, 60, 0}});
        bell(SIX, new int[][] {{0, 50, 40}, {0, 49, 0}, {0, 0, 0}, {0, 99, 40}});
        bell(SIX, new int[][] {{2, 60, -10}, {2, 99, -10}, {2, 59, 0}});
        bell(SIX, new int[][] {{4, 50, 10}, {4, 51, 11}, {4, 60, 20}, {4, 61, 0}, {5, 30, -20}});
        bell(SIX + "t20;", new int[][] {{0, 90, 30}, {1, 70, 10}, {3, 20, 20}, {4, 40, 0}, {3, 19, 20}});
        // of like cards the lower person trades
        bell("v90,0;v50,0;c10,0;", new int[][] {{0, 50, 40}, {0, 49, 0}});
        bell("v50,0;v90,0;c10,0;", new int[][] {{1, 50, 0}, {1, 51, 40}});
        bell("v50,0;c10,0;c30,0;", new int[][] {{1, 30, 20}, {1, 31, 0}});
        bell("v50,0;c30,0;c10,0;", new int[][] {{2, 30, 0}, {2, 29, 19}});
    }

    private static void best(String text, int[]... rows) {
        ShoutedPrices x = Due.laid(text);
        for (int[] row : rows) {
            due.is(text + " best(" + row[0] + ", 0)", x.best(row[0], 0), row[1]);
            due.is(text + " best(" + row[0] + ", 1)", x.best(row[0], 1), row[2]);
        }
    }

    private static void best() {
        best(SIX, new int[][] {{0, 90, 40}, {1, 70, 20}, {2, 50, 0}, {3, 60, 40}, {4, 60, 20}, {5, 60, 0}});
        best("v60,0;c10,0;", new int[][] {{0, 60, 50}, {1, 60, 50}});
        best("v60,0;c10,0;t20;", new int[][] {{0, 60, 30}, {1, 40, 30}});
        best("v9,0;c10,0;", new int[][] {{0, 9, 0}, {1, 10, 0}});
        // by the lowest price a buyer has no better than the truth, of several the one nearest to it
        best("v90,0;v50,0;c20,0;c40,0;", new int[][] {{0, 90, 50}, {1, 50, 10}, {2, 50, 30}, {3, 50, 10}});
    }

    private static void wrongNumbers() {
        ShoutedPrices x = Due.laid(SIX);
        int[] wrong = {-1, 100, Integer.MIN_VALUE, Integer.MAX_VALUE};
        for (int w : wrong) {
            due.is("lines(" + w + ")", x.lines(w), BAD);
            due.is("served(" + w + ")", x.served(w), BAD);
            due.is("pairs(" + w + ")", x.pairs(w), BAD);
            due.is("bell(0, " + w + ")", x.bell(0, w), -1000);
            due.is("bell(" + w + ", 0)", x.bell(w, 0), -1000);
            due.is("best(0, " + w + ")", x.best(0, w), BAD);
            due.is("best(" + w + ", 0)", x.best(w, 0), BAD);
        }
        due.is("lines(5)", x.lines(5), BAD);
        due.is("served(4)", x.served(4), BAD);
        due.is("pairs(2)", x.pairs(2), BAD);
        due.is("bell(6, 0)", x.bell(6, 0), -1000);
        due.is("best(6, 0)", x.best(6, 0), BAD);
        due.is("best(0, 2)", x.best(0, 2), BAD);
        due.is("no trades, lines(5)", Due.laid("v1,0;c2,0;").lines(5), BAD);
    }
}
