/** Promise 11, bell: the gain of a PERSON that tells v. BAD answers -1000. */
public final class Promise11BellTest {
    private static final Due due = new Due("Promise11BellTest");
    /** WORTHS 90, 70, 50 of 0, 1, 2; COSTS 20, 40, 60 of 3, 4, 5: two trades at 50. */
    private static final String SIX = "v90,0;v70,0;v50,0;c20,0;c40,0;c60,0;";

    public static void main(String[] args) {
        theTruth();
        aBuyerTells();
        aSellerTells();
        theTax();
        theLowerPersonOfLikeCards();
        nobodyTrades();
        leastAndGreatest();
        theTrueCardsStay();
        bad();
        due.end();
    }

    private static void bell(String text, int[]... rows) {
        ShoutedPrices x = Due.laid(text);
        for (int[] row : rows) {
            due.is(text + " bell(" + row[0] + ", " + row[1] + ")", x.bell(row[0], row[1]), row[2]);
        }
    }

    private static void theTruth() {
        bell(SIX, new int[][] {{0, 90, 40}, {1, 70, 20}, {2, 50, 0}, {3, 20, 30}, {4, 40, 10}, {5, 60, 0}});
        bell(SIX + "l0;", new int[][] {{0, 90, 40}, {3, 20, 30}});
    }

    private static void aBuyerTells() {
        bell(SIX, new int[][] {{0, 50, 40}, {0, 49, 0}, {0, 0, 0}, {0, 99, 40}, {1, 50, 20}, {1, 49, 0}});
        bell(SIX, new int[][] {{2, 59, 0}, {2, 60, -10}, {2, 99, -10}});
    }

    private static void aSellerTells() {
        bell(SIX, new int[][] {{4, 50, 10}, {4, 51, 11}, {4, 60, 20}, {4, 61, 0}, {4, 0, 10}, {4, 99, 0}});
        bell(SIX, new int[][] {{3, 60, 40}, {3, 61, 0}, {5, 51, 0}, {5, 50, -10}, {5, 40, -20}, {5, 30, -20}});
    }

    private static void theTax() {
        bell(SIX + "t20;", new int[][] {{0, 90, 30}, {1, 70, 10}, {3, 20, 20}, {4, 40, 0}, {3, 19, 20}});
        bell("v60,0;c10,0;t50;", new int[][] {{0, 60, 0}, {0, 59, 0}, {1, 10, 0}, {1, 11, 0}, {1, 9, -1}});
        bell("v60,0;c10,0;t20;", new int[][] {{0, 30, 30}, {0, 29, 0}, {1, 40, 30}, {1, 41, 0}, {1, 0, -10}});
    }

    private static void theLowerPersonOfLikeCards() {
        bell("v90,0;v50,0;c10,0;", new int[][] {{0, 50, 40}, {0, 49, 0}});
        bell("v50,0;v90,0;c10,0;", new int[][] {{1, 50, 0}, {1, 51, 40}});
        bell("v50,0;c10,0;c30,0;", new int[][] {{1, 30, 20}, {1, 31, 0}});
        bell("v50,0;c30,0;c10,0;", new int[][] {{2, 30, 0}, {2, 29, 19}});
        // nine trade, so of ten like cards the last one does not
        bell("v90,0;".repeat(9) + "v95,0;" + "c0,0;".repeat(9), new int[][] {{9, 95, 5}, {9, 91, 5}, {9, 90, 0}});
    }

    private static void nobodyTrades() {
        bell("v9,0;c10,0;", new int[][] {{0, 9, 0}, {0, 10, -1}, {0, 99, -1}, {1, 10, 0}, {1, 9, -1}, {1, 0, -10}});
    }

    private static void leastAndGreatest() {
        bell("v0,0;c99,0;", new int[][] {{0, 99, -99}, {0, 98, 0}, {1, 0, -99}, {1, 1, 0}});
        bell("v99,0;c0,0;", new int[][] {{0, 0, 99}, {0, 99, 99}, {1, 99, 99}, {1, 0, 0}});
        bell("v50,0;c99,0;t50;", new int[][] {{1, 0, -99}, {1, 1, 0}});
    }

    private static void theTrueCardsStay() {
        due.changesNothing("bell(0, 0)", Whole::used, x -> x.bell(0, 0), 0);
        ShoutedPrices x = Due.laid(SIX);
        x.bell(4, 60);
        due.is("the truth behind a lie", x.bell(4, 40), 10);
        due.is("its cost", x.person(4, 1), 40);
    }

    private static void bad() {
        int[][] rows = {{-1, 0}, {6, 0}, {0, -1}, {0, 100}, {5, 100}, {6, 100}};
        for (int[] row : rows) {
            due.changesNothing("bell(" + row[0] + ", " + row[1] + ")", Whole::used, x -> x.bell(row[0], row[1]), -1000);
        }
        for (int far : Due.FAR) {
            due.changesNothing("bell(" + far + ", 0)", Whole::used, x -> x.bell(far, 0), -1000);
            due.changesNothing("bell(0, " + far + ")", Whole::used, x -> x.bell(0, far), -1000);
        }
        due.is("bell(2, 0) of a new object", new ShoutedPrices().bell(2, 0), -1000);
    }
}
