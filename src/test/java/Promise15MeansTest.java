/** Promise 15, means: MEANS of a RULE from z on: the sum of GAIN (0), of SOON (1), of WANDERS (2). BAD answers -10000. */
public final class Promise15MeansTest {
    private static final Due due = new Due("Promise15MeansTest");
    private static final String MIXED = "v90,0;v80,1;v40,3;c10,0;c30,1;c20,4;t3;n40;";

    public static void main(String[] args) {
        alikeAtEachZ();
        tenRounds();
        behindTheGreatestZ();
        withoutATrade();
        sumsBelowZero();
        leastAndGreatest();
        theLogIsAsItWas();
        bad();
        due.end();
    }

    private static void alikeAtEachZ() {
        ShoutedPrices x = Due.laid("v80,2;c20,2;n2;");
        int[][] sums = {{600, 20, 0}, {600, 10, 0}, {600, 10, 0}};
        for (int rule = 1; rule <= 3; rule++) {
            for (int what = 0; what <= 2; what++) {
                due.is("means(" + rule + ", 0, " + what + ")", x.means(rule, 0, what), sums[rule - 1][what]);
            }
        }
    }

    private static void tenRounds() {
        for (int z : new int[] {0, 1, 5000, 9989, 9990}) {
            besideRounds(z);
        }
    }

    /** 0 comes behind 9999. */
    private static void behindTheGreatestZ() {
        for (int z = 9991; z <= 9999; z++) {
            besideRounds(z);
        }
    }

    private static void besideRounds(int z) {
        ShoutedPrices x = Due.laid(MIXED), rounds = Due.laid(MIXED);
        for (int rule = 0; rule <= 3; rule++) {
            for (int what = 0; what <= 2; what++) {
                int sum = 0;
                for (int i = 0; i < 10; i++) {
                    sum += rounds.round(rule, (z + i) % 10000, what + 1);
                }
                due.is("means(" + rule + ", " + z + ", " + what + ")", x.means(rule, z, what), sum);
            }
        }
    }

    private static void withoutATrade() {
        ShoutedPrices x = Due.laid("v10,0;c11,0;n200;");
        for (int rule = 0; rule <= 3; rule++) {
            for (int what = 0; what <= 2; what++) {
                due.is("means(" + rule + ", 9999, " + what + ")", x.means(rule, 9999, what), 0);
            }
        }
    }

    private static void sumsBelowZero() {
        // the buyer tells up to 99 by its draws, whatever it is worth; a sum of -1 is no BAD
        ShoutedPrices x = Due.laid("v9,5;c10,2;n1;");
        for (int z = 0; z < 50; z++) {
            int told = 0;
            for (int i = 0; i < 10; i++) {
                told += Draw.of(z + i, 0, 1) % 100 >= 10 ? 1 : 0;
            }
            due.is("means(3, " + z + ", 0)", x.means(3, z, 0), -told);
        }
        due.is("a worth of 0, a cost of 99", Due.laid("v0,4;c99,5;n1;h0;t1;").means(3, 0, 0), 0);
    }

    private static void leastAndGreatest() {
        ShoutedPrices x = Due.laid("v99,2;".repeat(10) + "c0,2;".repeat(10) + "n200;");
        due.is("all trade", x.means(3, 0, 0), 9900);
        due.is("at the first step", x.means(3, 0, 1), 10);
        x = Due.laid("v80,2;c80,2;n200;");
        due.is("at the last of 200 steps", x.means(1, 9999, 1), 2000);
    }

    private static void theLogIsAsItWas() {
        for (int rule = 0; rule <= 3; rule++) {
            int its = rule;
            int used = Whole.used().means(rule, 9999, 0), full = Whole.full().means(rule, 0, 2);
            due.changesNothing("means(" + rule + ", 9999, 0)", Whole::used, x -> x.means(its, 9999, 0), used);
            due.changesNothing("means(" + rule + ", 0, 2)", Whole::full, x -> x.means(its, 0, 2), full);
        }
        ShoutedPrices x = new ShoutedPrices();
        x.means(0, 0, 0);
        due.is("no log without a round", x.count(4), 0);
    }

    private static void bad() {
        int[][] rows = {{-1, 0, 0}, {4, 0, 0}, {0, -1, 0}, {0, 10000, 0}, {0, 0, -1}, {0, 0, 3}, {3, 9999, 3}, {4, 9999, 2},
            {3, 10000, 2}};
        for (int[] row : rows) {
            String call = "means(" + row[0] + ", " + row[1] + ", " + row[2] + ")";
            due.changesNothing(call, Whole::used, x -> x.means(row[0], row[1], row[2]), -10000);
        }
        for (int far : Due.FAR) {
            due.changesNothing("means(" + far + ", 0, 0)", Whole::used, x -> x.means(far, 0, 0), -10000);
            due.changesNothing("means(0, " + far + ", 0)", Whole::used, x -> x.means(0, far, 0), -10000);
            due.changesNothing("means(0, 0, " + far + ")", Whole::used, x -> x.means(0, 0, far), -10000);
        }
    }
}
