/** Promise 14, of: OF a PERSON in a ROUND: the price at which it traded. NONE; BAD. (The LOG likewise.) */
public final class Promise14OfTest {
    private static final Due due = new Due("Promise14OfTest");
    private static final int NONE = ShoutedPrices.NONE;

    public static void main(String[] args) {
        firstAndLastPerson();
        leastAndGreatestPrice();
        theLogLikewise();
        theLogOfARoundWithoutItsTrade();
        noneByTheOtherRules();
        bad();
        due.end();
    }

    private static void firstAndLastPerson() {
        ShoutedPrices x = Due.laid("v90,2;v70,2;v50,2;c20,2;c40,2;c60,2;");
        int[] prices = {50, 50, NONE, 50, 50, NONE};
        for (int p = 0; p < 6; p++) {
            due.is("of(3, 0, " + p + ")", x.of(3, 0, p), prices[p]);
        }
        due.is("of(3, 0, 6)", x.of(3, 0, 6), ShoutedPrices.BAD);
        x = Due.laid("v99,2;".repeat(10) + "c0,2;".repeat(10));
        due.is("the last of twenty", x.of(3, 0, 19), 0);
        due.is("of(3, 0, 20)", x.of(3, 0, 20), ShoutedPrices.BAD);
    }

    private static void leastAndGreatestPrice() {
        ShoutedPrices x = Due.laid("v99,2;c99,2;n1;"), y = Due.laid("v0,2;c0,2;n1;");
        for (int rule = 1; rule <= 3; rule++) {
            for (int p = 0; p <= 1; p++) {
                due.is("of(" + rule + ", 9999, " + p + ") of 99", x.of(rule, 9999, p), 99);
                due.is("of(" + rule + ", 0, " + p + ") of 0", y.of(rule, 0, p), 0);
            }
        }
    }

    private static void theLogLikewise() {
        ShoutedPrices x = Due.laid("v80,2;c20,2;n2;");
        x.round(0, Draw.order(2, 1, 1), 0);
        due.is("the seller again", x.shout(1, 0), 1);
        for (int p = 0; p <= 1; p++) {
            x.round(0, Draw.order(2, 1, 1), 0);
            due.is("of(0, z, " + p + ")", x.of(0, Draw.order(2, 1, 0), p), 60);
            due.is("the log is of it", x.shout(1, 0), 0);
        }
    }

    /** Section 4: the LOG is of the last ROUND by RULE 0; it is one, too, for whom there is no price in it. */
    private static void theLogOfARoundWithoutItsTrade() {
        ShoutedPrices x = Due.laid("v80,2;c20,2;n2;");
        x.round(0, Draw.order(2, 1, 0), 0);
        due.is("the buyer's shout", x.shout(1, 0), 0);
        due.is("of who did not trade", x.of(0, Draw.order(2, 1, 1), 0), NONE);
        due.is("the log is of that round", x.shout(1, 0), 1);
        // one trades, another one does not
        x = Due.laid("v60,2;v30,2;c20,2;n3;");
        due.is("the first bid is as good", x.of(0, Draw.order(3, 0, 1, 2), 1), NONE);
        due.is("its shouts", x.count(4), 3);
        due.is("the last one", x.shout(2, 0), 2);
        // nobody is heard
        x = Due.laid("v80,2;c20,2;n1;l19;");
        x.round(0, Draw.order(2, 0), 0);
        due.is("a shout", x.count(4), 1);
        due.is("of(0) without a shout", x.of(0, Draw.order(2, 1), 0), NONE);
        due.is("no shout", x.count(4), 0);
    }

    private static void noneByTheOtherRules() {
        for (int rule = 1; rule <= 3; rule++) {
            int its = rule;
            due.changesNothing("of(" + rule + ", 3, 5)", Whole::used, x -> x.of(its, 3, 5), NONE);
            ShoutedPrices x = Due.laid("v80,2;c20,2;n2;");
            x.round(0, Draw.order(2, 1, 1), 0);
            due.holds("a price by rule " + rule, x.of(rule, Draw.order(2, 1, 0), 0) > 0);
            due.is("the log is as it was", x.shout(1, 0), 1);
        }
    }

    private static void bad() {
        int[][] rows = {{-1, 0, 0}, {4, 0, 0}, {0, -1, 0}, {0, 10000, 0}, {0, 0, -1}, {0, 0, 6}, {3, 9999, 6}, {4, 9999, 5},
            {3, 10000, 5}};
        for (int[] row : rows) {
            String call = "of(" + row[0] + ", " + row[1] + ", " + row[2] + ")";
            due.changesNothing(call, Whole::used, x -> x.of(row[0], row[1], row[2]), ShoutedPrices.BAD);
        }
        for (int far : Due.FAR) {
            due.changesNothing("of(" + far + ", 0, 0)", Whole::used, x -> x.of(far, 0, 0), ShoutedPrices.BAD);
            due.changesNothing("of(0, " + far + ", 0)", Whole::used, x -> x.of(0, far, 0), ShoutedPrices.BAD);
            due.changesNothing("of(0, 0, " + far + ")", Whole::used, x -> x.of(0, 0, far), ShoutedPrices.BAD);
        }
        due.is("of(0, 0, 2) of a new object", new ShoutedPrices().of(0, 0, 2), ShoutedPrices.BAD);
    }
}
