/** Promise 13, round: TRADED (0), GAIN (1), SOON (2), WANDERS (3). BAD answers -10000. (By RULE 0 the LOG is of it.) */
public final class Promise13RoundTest {
    private static final Due due = new Due("Promise13RoundTest");
    private static final int NONE = ShoutedPrices.NONE;

    public static void main(String[] args) {
        withoutATrade();
        oneTrade();
        twoTrades();
        withoutATradeBehindOne();
        gainBelowZero();
        soonAtTheLastStep();
        drawsOfTheGreatestNumbers();
        theLogIsOfRuleZero();
        bad();
        due.end();
    }

    /** TRADED, GAIN, SOON, WANDERS. */
    private static void round(String text, int rule, int z, int... answers) {
        ShoutedPrices x = Due.laid(text);
        for (int what = 0; what < answers.length; what++) {
            due.is(text + " round(" + rule + ", " + z + ", " + what + ")", x.round(rule, z, what), answers[what]);
        }
    }

    private static void withoutATrade() {
        for (int rule = 0; rule <= 3; rule++) {
            for (int z : new int[] {0, 1, 5000, 9999}) {
                round("v10,0;c11,0;n200;", rule, z, 0, 0, 0, 0);
                round("v99,5;c99,0;l98;n200;", rule, z, 0, 0, 0, 0);
            }
        }
    }

    private static void oneTrade() {
        String two = "v80,2;c20,2;n2;";
        round(two, 0, Draw.order(2, 1, 0), 1, 60, 2, 0);
        round(two, 1, 0, 1, 60, 2, 0);
        round(two, 2, 0, 1, 60, 1, 0);
        round(two, 3, 0, 1, 60, 1, 0);
        round("v50,2;c50,2;n1;", 1, 0, 1, 0, 1, 0);
    }

    /** Two trades, at 25 and 0; with a TAX of 49 at 74 and 49. */
    private static void twoTrades() {
        String four = "v99,2;v99,2;c0,2;c0,2;n4;";
        int z = Draw.meetings(2, 2, 2, 0, 0, 1, 1);
        round(four, 1, z, 2, 198, 4, 25);
        round(four + "t49;", 1, z, 2, 198, 4, 25);
        round(four + "t50;", 1, z, 1, 99, 4, 0);
        round("v90,2;v70,2;v50,2;c20,2;c40,2;c60,2;", 3, 0, 2, 100, 1, 0);
        // both at 0
        round("v99,2;v99,2;c0,2;c0,2;n1;", 3, 0, 2, 198, 1, 0);
    }

    /** Each round is by itself. */
    private static void withoutATradeBehindOne() {
        ShoutedPrices x = Due.laid("v80,2;c20,2;n2;");
        int trades = Draw.order(2, 1, 0), none = Draw.order(2, 1, 1);
        for (int rule = 0; rule <= 3; rule++) {
            for (int what = 0; what <= 3; what++) {
                due.is("a trade by rule " + rule, x.round(rule, trades, 0), 1);
                due.is("none behind it", x.round(0, none, what), 0);
            }
        }
        for (int p = 0; p <= 1; p++) {
            due.is("a price", x.of(0, trades, p), 60);
            due.is("none behind it", x.of(0, none, p), NONE);
        }
    }

    private static void gainBelowZero() {
        // DRAW(0, 1) is 48110, so a WRONG buyer bids 10; DRAW(0, 3) is 62525, so a WRONG seller offers 25
        round("v3,5;c10,2;n1;", 1, 0, 1, -7, 1, 0);
        round("v80,2;c90,5;n1;", 1, 0, 1, -10, 1, 0);
        round("v3,5;c10,2;", 3, 0, 1, -7, 1, 0);
    }

    private static void soonAtTheLastStep() {
        for (int n : new int[] {4, 100, 200}) {
            // FEARFUL people of like cards are sure to trade in the last quarter alone
            int soon = 3 * n / 4 + 1;
            round("v80,3;c80,3;n" + n + ";", 1, 7, 1, 0, soon, 0);
        }
        round("v80,2;c80,2;n200;", 1, 0, 1, 0, 200, 0);
        round("v80,2;c80,2;n1;", 1, 0, 1, 0, 1, 0);
    }

    /** BLIND people in pairs, at the ends of z: the first step at which the bid is the offer or more. */
    private static void drawsOfTheGreatestNumbers() {
        int latest = 0;
        for (int i = 0; i < 80; i++) {
            int z = (9940 + i) % 10000, t = 0;
            while (t < 200 && bid(z, t) < offer(z, t)) {
                t++;
            }
            boolean so = t < 200;
            round("v52,0;c50,0;n200;", 1, z, so ? 1 : 0, so ? 2 : 0, so ? t + 1 : 0, 0);
            due.is("its price", Due.laid("v52,0;c50,0;n200;").of(1, z, 0), so ? offer(z, t) : NONE);
            latest = so && z > 9000 ? Math.max(latest, t) : latest;
        }
        due.holds("a trade late at a great z", latest > 150);
    }

    private static int bid(int z, int t) {
        return Draw.of(z, t, 1) % 53;
    }

    private static int offer(int z, int t) {
        return 50 + Draw.of(z, t, 3) % 50;
    }

    private static void theLogIsOfRuleZero() {
        ShoutedPrices x = Due.laid("v80,2;c20,2;n2;");
        int sellerTwice = Draw.order(2, 1, 1), both = Draw.order(2, 1, 0);
        x.round(0, sellerTwice, 0);
        due.is("its second shout", x.shout(1, 0), 1);
        for (int rule = 1; rule <= 3; rule++) {
            due.is("a round by rule " + rule, x.round(rule, both, 0), 1);
            due.is("the log is as it was", x.shout(1, 0), 1);
        }
        for (int what = 0; what <= 3; what++) {
            x.round(0, what % 2 == 0 ? both : sellerTwice, what);
            due.is("the log is of the last one", x.shout(1, 0), what % 2);
        }
        // a log of fewer shouts, of none
        x = Due.laid("v80,2;c20,2;n2;l59;");
        x.round(0, Draw.order(2, 0, 0), 0);
        due.is("two shouts", x.count(4), 2);
        x.round(0, both, 0);
        due.is("an offer above the lid is none", x.count(4), 1);
        x = Due.laid("v80,2;c20,2;n1;l19;");
        x.round(0, Draw.order(2, 1), 0);
        due.is("no shout", x.count(4), 0);
        due.is("the first shout", x.shout(0, 0), ShoutedPrices.BAD);
    }

    private static void bad() {
        int[][] rows = {{-1, 0, 0}, {4, 0, 0}, {0, -1, 0}, {0, 10000, 0}, {0, 0, -1}, {0, 0, 4}, {3, 9999, 4}, {4, 9999, 3},
            {3, 10000, 3}, {1, -1, 0}};
        for (int[] row : rows) {
            String call = "round(" + row[0] + ", " + row[1] + ", " + row[2] + ")";
            due.changesNothing(call, Whole::used, x -> x.round(row[0], row[1], row[2]), -10000);
        }
        for (int far : Due.FAR) {
            due.changesNothing("round(" + far + ", 0, 0)", Whole::used, x -> x.round(far, 0, 0), -10000);
            due.changesNothing("round(0, " + far + ", 0)", Whole::used, x -> x.round(0, far, 0), -10000);
            due.changesNothing("round(0, 0, " + far + ")", Whole::used, x -> x.round(0, 0, far), -10000);
        }
        due.changesNothing("round(3, 9999, 3)", Whole::used, x -> x.round(3, 9999, 3), 0);
    }
}
