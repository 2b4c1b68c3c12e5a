/** Promise 8, lines: QUANTITY (0), MOST (1), the lowest PRICE (2), the highest (3), BUYERS' SHARE (4). NONE; BAD. */
public final class Promise08LinesTest {
    private static final Due due = new Due("Promise08LinesTest");
    private static final int NONE = ShoutedPrices.NONE;
    /** WORTHS 90, 70, 50; COSTS 20, 40, 60: two trades, 100 in all, from 50 to 60. */
    private static final String SIX = "v90,0;v70,0;v50,0;c20,0;c40,0;c60,0;";

    public static void main(String[] args) {
        fallingAndRising();
        noLessThanCostAndTax();
        allTrade();
        pricesThatThereAre();
        share();
        withoutTrades();
        theLidIsNotAsked();
        bad();
        due.end();
    }

    private static void lines(String text, int... answers) {
        ShoutedPrices x = Due.laid(text);
        for (int what = 0; what < answers.length; what++) {
            due.is(text + " lines(" + what + ")", x.lines(what), answers[what]);
        }
    }

    private static void fallingAndRising() {
        lines(SIX, 2, 100, 50, 60, 0);
        lines("c60,0;v50,0;c20,0;v90,0;v70,0;c40,0;", 2, 100, 50, 60, 0);
        lines("v50,0;v70,0;v90,0;c60,0;c40,0;c20,0;", 2, 100, 50, 60, 0);
    }

    /** WORTH like COST and TAX trades, one less does not. */
    private static void noLessThanCostAndTax() {
        lines("v50,0;c50,0;", 1, 0, 50, 50, 0);
        lines("v50,0;c51,0;", 0, 0, NONE, NONE, NONE);
        lines("v50,0;c20,0;t30;", 1, 30, 50, 50, 30);
        lines("v50,0;c20,0;t31;", 0, 0, NONE, NONE, NONE);
        lines(SIX + "t30;", 2, 100, 70, 70, 20);
        lines(SIX + "t31;", 1, 70, 70, 71, 20);
        lines("v99,0;c99,0;", 1, 0, 99, 99, 0);
        lines("v0,0;c0,0;", 1, 0, 0, 0, 0);
        lines("v0,0;c0,0;t1;", 0, 0, NONE, NONE, NONE);
        lines("v99,0;c49,0;t50;", 1, 50, 99, 99, 50);
        lines("v99,0;c50,0;t50;", 0, 0, NONE, NONE, NONE);
    }

    private static void allTrade() {
        lines("v50,0;".repeat(10) + "c50,1;".repeat(10), 10, 0, 50, 50, 0);
        lines("v99,0;".repeat(10) + "c0,1;".repeat(10), 10, 990, 0, 99, 0);
        lines("v99,0;".repeat(10) + "c0,1;".repeat(9), 9, 891, 99, 99, 0);
        lines("v99,0;".repeat(9) + "c0,1;".repeat(10), 9, 891, 0, 0, 0);
        lines("v99,0;".repeat(10) + "c0,1;", 1, 99, 99, 99, 0);
        lines("v99,0;" + "c0,1;".repeat(10), 1, 99, 0, 0, 0);
    }

    /** From the greater of two to the lesser of two, each pair with and without the one behind the k-th. */
    private static void pricesThatThereAre() {
        lines("v60,0;c10,0;", 1, 50, 10, 60, 0);
        lines("v60,0;v30,0;c10,0;", 1, 50, 30, 60, 0);
        lines("v60,0;v10,0;c10,0;", 1, 50, 10, 60, 0);
        lines("v60,0;v9,0;c10,0;", 1, 50, 10, 60, 0);
        lines("v60,0;v11,0;c10,0;", 1, 50, 11, 60, 0);
        lines("v60,0;c10,0;c40,0;", 1, 50, 10, 40, 0);
        lines("v60,0;c10,0;c60,0;", 1, 50, 10, 60, 0);
        lines("v60,0;c10,0;c61,0;", 1, 50, 10, 60, 0);
        lines("v60,0;c10,0;c59,0;", 1, 50, 10, 59, 0);
        lines("v60,0;c10,0;c40,0;t5;", 1, 50, 15, 45, 5);
        lines("v60,0;v30,0;c10,0;c40,0;", 1, 50, 30, 40, 0);
        lines("v60,0;v30,0;c10,0;c30,0;t1;", 1, 50, 30, 31, 0);
    }

    private static void share() {
        lines(SIX + "t0;", 2, 100, 50, 60, 0);
        lines(SIX + "t10;", 2, 100, 50, 70, 0);
        lines(SIX + "t11;", 2, 100, 51, 70, 1);
        lines(SIX + "t20;", 2, 100, 60, 70, 10);
        lines(SIX + "t50;", 1, 70, 70, 90, 20);
        lines("v60,0;c10,0;t50;", 1, 50, 60, 60, 50);
        lines("v60,0;v60,0;c10,0;t50;", 1, 50, 60, 60, 0);
    }

    private static void withoutTrades() {
        lines("v59,0;c10,0;t50;", 0, 0, NONE, NONE, NONE);
        lines("v9,0;c10,0;", 0, 0, NONE, NONE, NONE);
        lines("v9,0;v8,0;c99,0;c10,0;t1;", 0, 0, NONE, NONE, NONE);
        due.changesNothing("lines(2) without trades", () -> Due.laid("v9,0;c10,0;"), x -> x.lines(2), NONE);
        due.changesNothing("lines(4) without trades", () -> Due.laid("v9,0;c10,0;"), x -> x.lines(4), NONE);
    }

    private static void theLidIsNotAsked() {
        lines(SIX + "l0;", 2, 100, 50, 60, 0);
        lines(SIX + "l0;t20;", 2, 100, 60, 70, 10);
    }

    private static void bad() {
        for (int what : new int[] {-1, 5, 6, Integer.MIN_VALUE, Integer.MAX_VALUE}) {
            due.changesNothing("lines(" + what + ")", Whole::used, x -> x.lines(what), ShoutedPrices.BAD);
            due.is("without trades", Due.laid("v9,0;c10,0;").lines(what), ShoutedPrices.BAD);
        }
    }
}
