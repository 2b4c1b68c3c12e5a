/** Promises 13 to 16: rounds, prices of people, means, the best rule; draws are worked out by hand. */
public final class RoundsTest {
    private static final Due due = new Due("RoundsTest");
    private static final int NONE = ShoutedPrices.NONE, BAD = ShoutedPrices.BAD;

    public static void main(String[] args) {
        shouts();
        pairs();
        posted();
        bell();
        lastQuarter();
        ofPeople();
        theLog();
        means();
        rules();
        wrongNumbers();
        due.end();
    }

    /** TRADED, GAIN, SOON, WANDERS. */
    private static void round(String text, int rule, int z, int... answers) {
        ShoutedPrices x = Due.laid(text);
        for (int what = 0; what < answers.length; what++) {
            due.is(text + " round(" + rule + ", " + z + ", " + what + ")", x.round(rule, z, what), answers[what]);
        }
    }

    private static void of(String text, int rule, int z, int... prices) {
        ShoutedPrices x = Due.laid(text);
        for (int p = 0; p < prices.length; p++) {
            due.is(text + " of(" + rule + ", " + z + ", " + p + ")", x.of(rule, z, p), prices[p]);
        }
    }

    /** z 1: DRAW(0, 0) is 22803, DRAW(1, 0) is 54100: the person 1 shouts, then the person 0. */
    private static void shouts() {
        // the seller offers 99 less 79 by 2: 60, the buyer bids 80
        String two = "v80,2;c20,2;n2;";
        round(two, 0, 1, 1, 60, 2, 0);
        of(two, 0, 1, 60, 60);
        of(two + "t19;", 0, 1, 79, 79);
        of(two + "t20;", 0, 1, 80, 80);
        of(two + "t21;", 0, 1, NONE, NONE);
        round(two + "t21;", 0, 1, 0, 0, 0, 0);
        of(two + "l60;", 0, 1, 60, 60);
        of(two + "l59;", 0, 1, NONE, NONE);
        of(two + "t5;l65;", 0, 1, 65, 65);
        of(two + "t5;l64;", 0, 1, NONE, NONE);
        // the buyer bids 80 by 2 first: 40; the seller then offers 20 and gets the bid
        of("c20,2;v80,2;n2;", 0, 1, 40, 40);
        of("c20,2;v80,2;n2;t20;", 0, 1, 40, 40);
        of("c20,2;v80,2;n2;t21;", 0, 1, NONE, NONE);
        // z 0: DRAW(t, 0) is 1, 41487, 10299, 37479: always the seller
        round("v80,2;c20,2;n4;", 0, 0, 0, 0, 0, 0);
        // DRAW(1, 1) is 17642 squared: 15414; a WRONG buyer bids 14, the offer is 50
        of("v0,5;c0,2;n2;", 0, 1, NONE, NONE);
        of("v0,5;c0,0;n2;", 0, 1, NONE, NONE);
    }

    private static void pairs() {
        // bid 40, offer 60; then bid 80, offer 20
        String two = "v80,2;c20,2;n2;";
        round(two, 1, 0, 1, 60, 2, 0);
        of(two, 1, 0, 20, 20);
        of(two + "t50;", 1, 0, 70, 70);
        of(two + "t50;l70;", 1, 0, 70, 70);
        of(two + "t50;l69;", 1, 0, NONE, NONE);
        round("v80,2;c31,2;n2;t50;", 1, 0, 0, 0, 0, 0);
        // DRAW(0, 3) is 10714 squared: 62525; modulo 80 it is 45
        of("v99,2;c20,0;n1;", 1, 0, 65, 65);
        // DRAW(0, 1) is 48110; modulo 100 it is 10: bid 10
        of("v99,0;c10,2;n1;", 1, 0, 10, 10);
        of("v99,0;c11,2;n1;", 1, 0, NONE, NONE);
        // a WRONG buyer bids 10 at a worth of 3, so it loses
        round("v3,5;c10,2;n1;", 1, 0, 1, -7, 1, 0);
        // a WRONG seller offers 25 at a cost of 90
        of("v80,2;c90,5;n1;", 1, 0, 25, 25);
        round("v80,2;c90,5;n1;", 1, 0, 1, -10, 1, 0);
    }

    private static void posted() {
        round("v80,2;c20,2;n2;", 2, 0, 1, 60, 1, 0);
        of("v80,2;c20,2;n2;", 2, 0, 60, 60);
        of("v80,2;c20,2;n2;t20;", 2, 0, 80, 80);
        of("v80,2;c20,2;n2;t21;", 2, 0, NONE, NONE);
        of("v80,2;c20,2;n2;l60;", 2, 0, 60, 60);
        of("v80,2;c20,2;n2;l59;", 2, 0, NONE, NONE);
        // the buyer's law is not asked
        of("v60,5;c20,2;n2;", 2, 0, 60, 60);
        of("v59,5;c20,2;n2;", 2, 0, NONE, NONE);
        // DRAW(1, 1) is 55447; modulo 80 it is 7; DRAW(0, 1) is 48110; modulo 80 it is 30
        of("v99,2;c20,0;n1;", 2, 0, 27, 27);
        of("c20,0;v99,2;n1;", 2, 0, 50, 50);
        // offers 79 and 89; z 1: the buyer 1, then the buyer 0
        String four = "v99,2;v99,2;c19,2;c59,2;n4;";
        round(four, 2, 1, 2, 120, 2, 10);
        of(four, 2, 1, 89, 79, 79, 89);
        of("v99,2;v99,2;c59,2;c19,2;n4;", 2, 1, 89, 79, 89, 79);
        // z 0: always the buyer 1, who trades once; of like offers the lower person's
        round(four, 2, 0, 1, 80, 1, 0);
        of("v99,2;v99,2;c19,2;c19,2;n4;", 2, 0, NONE, 79, 79, NONE);
    }

    private static void bell() {
        String six = "v90,2;v70,2;v50,2;c20,2;c40,2;c60,2;";
        round(six, 3, 0, 2, 100, 1, 0);
        of(six, 3, 9999, 50, 50, NONE, 50, 50, NONE);
        round(six + "t20;", 3, 0, 2, 100, 1, 0);
        of(six + "t20;", 3, 0, 60, 60, NONE, 60, 60, NONE);
        // bids of 55 at the most, so the buyers 0 and 1 are alike
        round(six + "l55;", 3, 0, 2, 100, 1, 0);
        of(six + "l55;", 3, 0, 50, 50, NONE, 50, 50, NONE);
        of(six + "l39;", 3, 0, 39, NONE, NONE, 39, NONE, NONE);
        round(six + "l39;", 3, 0, 1, 70, 1, 0);
        round(six + "l19;", 3, 0, 0, 0, 0, 0);
        of("v99,2;c20,0;n1;", 3, 0, 27, 27);
        // DRAW(0, 1) is 48110: a WRONG buyer tells 10, a BLIND one of 80 tells 48110 modulo 81: 77
        round("v3,5;c10,2;", 3, 0, 1, -7, 1, 0);
        of("v80,0;c77,2;", 3, 0, 77, 77);
        of("v80,0;c78,2;", 3, 0, NONE, NONE);
        of("v80,0;c50,2;", 3, 0, 50, 50);
        of("v80,4;c50,2;", 3, 0, 50, 50);
        of("v80,4;c51,2;", 3, 0, NONE, NONE);
        of("v80,4;c51,2;h60;", 3, 0, 51, 51);
        // a HOLDER who sells: 27 by DRAW(1, 1), 50 at least
        of("v99,2;c20,4;", 3, 0, 50, 50);
        of("v99,2;c20,4;h27;", 3, 0, 27, 27);
        of("v99,2;c20,4;h26;", 3, 0, 27, 27);
        of("v99,2;c20,4;h0;", 3, 0, 27, 27);
    }

    /** Of a worth like the cost FEARFUL people trade when they tell their cards, which draws do not make them here. */
    private static void lastQuarter() {
        int[][] soon = {{1, 0}, {2, 0}, {3, 0}, {4, 4}, {5, 5}, {6, 6}, {7, 7}, {8, 7}, {9, 8}, {12, 10}, {200, 151}};
        for (int[] row : soon) {
            round("v80,3;c80,3;n" + row[0] + ";", 1, 7, row[1] > 0 ? 1 : 0, 0, row[1], 0);
        }
        // at the bell they tell their cards too, if the last step is in the last quarter
        of("v80,3;c80,3;n3;", 3, 7, NONE, NONE);
        of("v80,3;c80,3;n4;", 3, 7, 80, 80);
        // but not where sellers post offers
        of("v80,3;c80,3;n4;", 2, 7, NONE, NONE);
    }

    private static void ofPeople() {
        ShoutedPrices x = Due.laid("v80,2;c20,2;n2;");
        due.is("a person more than there are", x.of(1, 0, 2), BAD);
        due.is("a person less", x.of(1, 0, -1), BAD);
        due.is("the last one", x.of(1, 9999, 1), 20);
    }

    private static void theLog() {
        ShoutedPrices x = Due.laid("v80,2;c20,2;n2;");
        x.round(0, 0, 0);
        due.is("the seller's shouts", x.shout(1, 0), 1);
        x.round(1, 1, 0);
        x.round(2, 1, 0);
        x.round(3, 1, 0);
        x.of(1, 1, 0);
        x.of(2, 1, 0);
        x.of(3, 1, 0);
        x.means(0, 1, 0);
        x.rules(1, 0);
        x.rules(1, 3);
        x.round(0, 10000, 0);
        x.round(0, 1, 4);
        x.of(0, 1, 2);
        due.is("the log is as it was", x.shout(1, 0), 1);
        due.is("of(0, 1, 0)", x.of(0, 1, 0), 60);
        due.is("the log is of it", x.shout(1, 0), 0);
        due.is("of a person without a trade", x.of(0, 0, 0), NONE);
        due.is("the log is of that round", x.shout(1, 0), 1);
    }

    private static void means() {
        // at each z the same, by all rules but shouts
        ShoutedPrices x = Due.laid("v80,2;c20,2;n2;");
        int[][] sums = {{600, 20, 0}, {600, 10, 0}, {600, 10, 0}};
        for (int rule = 1; rule < 4; rule++) {
            for (int what = 0; what < 3; what++) {
                due.is("means(" + rule + ", 0, " + what + ")", x.means(rule, 0, what), sums[rule - 1][what]);
            }
        }
        // ten rounds from z on, 0 behind 9999
        x = Due.laid("v90,0;v80,1;v40,3;c10,0;c30,1;c20,4;t3;n40;");
        int[] from = {0, 1, 5000, 9990, 9991, 9995, 9999};
        for (int z : from) {
            for (int rule = 0; rule < 4; rule++) {
                for (int what = 0; what < 3; what++) {
                    int sum = 0;
                    for (int i = 0; i < 10; i++) {
                        sum += x.round(rule, (z + i) % 10000, what + 1);
                    }
                    due.is("means(" + rule + ", " + z + ", " + what + ")", x.means(rule, z, what), sum);
                }
            }
        }
    }

    private static void rules() {
        // no trades by any rule: all are alike, the lowest is best
        ShoutedPrices x = Due.laid("v5,2;c6,2;");
        for (int what = 0; what < 4; what++) {
            due.is("rules(0, " + what + ") without trades", x.rules(0, what), 0);
        }
        // shouts miss trades here, so the lowest of the others gains most; a round without a trade is the soonest
        x = Due.laid("v80,2;c20,2;n2;");
        due.is("rules(0, 0)", x.rules(0, 0), 1);
        due.is("rules(0, 1)", x.rules(0, 1), x.means(0, 0, 1) <= 10 ? 0 : 2);
        due.is("rules(0, 2)", x.rules(0, 2), 0);
        due.is("rules(0, 3)", x.rules(0, 3), NONE);
        // beside what the means say
        x = Due.laid("v90,0;v80,1;v40,3;c10,0;c30,1;c20,4;n40;");
        for (int z = 0; z < 30; z++) {
            compare(x, 97 * z);
        }
    }

    private static void compare(ShoutedPrices x, int z) {
        int[] best = new int[3];
        for (int what = 0; what < 3; what++) {
            for (int rule = 1; rule < 4; rule++) {
                int more = x.means(rule, z, what) - x.means(best[what], z, what);
                if (what == 0 ? more > 0 : more < 0) {
                    best[what] = rule;
                }
            }
            due.is("rules(" + z + ", " + what + ")", x.rules(z, what), best[what]);
        }
        int inAll = best[0] == best[1] && best[1] == best[2] ? best[0] : NONE;
        due.is("rules(" + z + ", 3)", x.rules(z, 3), inAll);
    }

    private static void wrongNumbers() {
        ShoutedPrices x = Due.laid("v80,2;c20,2;n2;");
        int[][] wrong = {{-1, 0, 0}, {4, 0, 0}, {0, -1, 0}, {0, 10000, 0}, {0, 0, -1}, {0, 0, 4},
            {Integer.MIN_VALUE, 0, 0}, {0, Integer.MAX_VALUE, 0}, {0, 0, Integer.MIN_VALUE}};
        for (int[] row : wrong) {
            due.is("round of wrong numbers", x.round(row[0], row[1], row[2]), -10000);
            due.is("means of wrong numbers", x.means(row[0], row[1], row[2]), -10000);
            due.is("of of wrong numbers", x.of(row[0], row[1], row[2]), BAD);
        }
        due.is("means(0, 0, 3)", x.means(0, 0, 3), -10000);
        due.is("round(0, 0, 3)", x.round(0, 0, 3), 0);
        due.is("rules(-1, 0)", x.rules(-1, 0), BAD);
        due.is("rules(10000, 0)", x.rules(10000, 0), BAD);
        due.is("rules(0, 4)", x.rules(0, 4), BAD);
        due.is("rules(0, -1)", x.rules(0, -1), BAD);
        due.is("nothing is shouted", x.count(4), 2);
    }
}
