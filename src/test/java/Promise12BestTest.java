/** Promise 12, best: BEST to tell: v (what = 0), the gain (1). BAD. */
public final class Promise12BestTest {
    private static final Due due = new Due("Promise12BestTest");
    private static final String SIX = "v90,0;v70,0;v50,0;c20,0;c40,0;c60,0;";

    public static void main(String[] args) {
        theGreatestGain();
        theNearestToTheTruth();
        leastAndGreatest();
        besideEachTelling();
        bad();
        due.end();
    }

    private static void best(String text, int[]... rows) {
        ShoutedPrices x = Due.laid(text);
        for (int[] row : rows) {
            due.is(text + " best(" + row[0] + ", 0)", x.best(row[0], 0), row[1]);
            due.is(text + " best(" + row[0] + ", 1)", x.best(row[0], 1), row[2]);
        }
    }

    private static void theGreatestGain() {
        best(SIX, new int[][] {{0, 90, 40}, {1, 70, 20}, {2, 50, 0}, {3, 60, 40}, {4, 60, 20}, {5, 60, 0}});
        best("v60,0;c10,0;t20;", new int[][] {{0, 60, 30}, {1, 40, 30}});
        // of like cards the lower person sells, the other one must stay one below
        best("v90,0;c10,0;c30,0;", new int[][] {{1, 30, 20}, {2, 30, 0}});
        best("v90,0;c30,0;c10,0;", new int[][] {{1, 30, 0}, {2, 29, 19}});
    }

    /** All that gains alike: the truth, if it is one of these. */
    private static void theNearestToTheTruth() {
        best("v9,0;c10,0;", new int[][] {{0, 9, 0}, {1, 10, 0}});
        best("v60,0;c10,0;", new int[][] {{0, 60, 50}, {1, 60, 50}});
        best("v90,0;v50,0;c20,0;c40,0;", new int[][] {{0, 90, 50}, {1, 50, 10}, {2, 50, 30}, {3, 50, 10}});
        // 39 is paid whatever the cheaper one tells up to 39
        best("v90,0;v39,0;c40,0;c10,0;", new int[][] {{2, 40, 0}, {3, 10, 29}});
    }

    private static void leastAndGreatest() {
        best("v99,0;c0,0;", new int[][] {{0, 99, 99}, {1, 99, 99}});
        best("v0,0;c99,0;", new int[][] {{0, 0, 0}, {1, 99, 0}});
        best("v0,0;c0,0;", new int[][] {{0, 0, 0}, {1, 0, 0}});
        best("v50,0;c0,0;t50;", new int[][] {{0, 50, 0}, {1, 0, 0}});
        best("v99,0;c99,0;", new int[][] {{0, 99, 0}, {1, 99, 0}});
        best("v99,0;".repeat(10) + "c0,0;".repeat(10), new int[][] {{0, 99, 99}, {9, 99, 99}, {10, 99, 99}, {19, 99, 99}});
    }

    private static void besideEachTelling() {
        String[] rooms = {SIX, SIX + "t7;", "c40,0;v41,0;v39,0;c38,0;v42,0;c43,0;", "v30,0;v30,0;c30,0;c29,0;c28,0;t1;"};
        for (String text : rooms) {
            ShoutedPrices asked = Due.laid(text);
            int people = asked.count(0);
            for (int p = 0; p < people; p++) {
                ShoutedPrices x = Due.laid(text);
                int card = x.person(p, 1), best = card;
                for (int v = 0; v <= 99; v++) {
                    int more = x.bell(p, v) - x.bell(p, best), nearer = Math.abs(best - card) - Math.abs(v - card);
                    best = more > 0 || more == 0 && nearer > 0 ? v : best;
                }
                due.is(text + " best(" + p + ", 0)", asked.best(p, 0), best);
                due.is(text + " best(" + p + ", 1)", asked.best(p, 1), x.bell(p, best));
            }
        }
    }

    private static void bad() {
        int[][] rows = {{-1, 0}, {6, 0}, {6, 1}, {0, -1}, {0, 2}, {5, 2}, {6, 2}};
        for (int[] row : rows) {
            due.changesNothing("best(" + row[0] + ", " + row[1] + ")", Whole::used, x -> x.best(row[0], row[1]),
                ShoutedPrices.BAD);
        }
        for (int far : Due.FAR) {
            due.changesNothing("best(" + far + ", 0)", Whole::used, x -> x.best(far, 0), ShoutedPrices.BAD);
            due.changesNothing("best(0, " + far + ")", Whole::used, x -> x.best(0, far), ShoutedPrices.BAD);
        }
        due.changesNothing("best(0, 1)", Whole::used, x -> x.best(0, 1), 24);
    }
}
