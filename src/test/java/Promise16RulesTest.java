/** Promise 16, rules: BEST RULE by what (0 to 2); in all (3; NONE). BAD. (The LOG is as it was.) */
public final class Promise16RulesTest {
    private static final Due due = new Due("Promise16RulesTest");
    private static final int NONE = ShoutedPrices.NONE;

    public static void main(String[] args) {
        theLowestOfLikeOnes();
        theGreatestGainTheLeastElse();
        eachRuleIsBestSomewhere();
        bestInAll();
        noneInAll();
        oneMore();
        behindTheGreatestZ();
        theLogIsAsItWas();
        bad();
        due.end();
    }

    private static void theLowestOfLikeOnes() {
        // no trades by any rule
        ShoutedPrices x = Due.laid("v5,2;c6,2;");
        for (int what = 0; what <= 3; what++) {
            due.is("rules(9999, " + what + ") without trades", x.rules(9999, what), 0);
        }
        // rules 1, 2 and 3 gain alike, 2 and 3 are as soon, none wanders
        x = Due.laid("v80,2;c20,2;n2;");
        due.holds("shouts miss trades", x.means(0, 0, 0) < 600 && x.means(0, 0, 1) > 10);
        due.is("by gain", x.rules(0, 0), 1);
        due.is("by soon", x.rules(0, 1), 2);
        due.is("by wanders", x.rules(0, 2), 0);
        due.is("in all", x.rules(0, 3), NONE);
    }

    private static void theGreatestGainTheLeastElse() {
        // a WRONG buyer loses by the bell and in pairs, so no trade is best: posted at 90 it buys nothing
        ShoutedPrices x = Due.laid("v9,5;c10,2;n1;");
        due.holds("the bell loses", x.means(3, 0, 0) < 0);
        due.is("posted does not", x.means(2, 0, 0), 0);
        due.is("by gain", x.rules(0, 0), x.means(0, 0, 0) == 0 ? 0 : 2);
        due.is("by soon", x.rules(0, 1), x.means(0, 0, 1) == 0 ? 0 : 2);
    }

    private static void eachRuleIsBestSomewhere() {
        int[] seen = new int[4];
        String[] rooms = {"v90,0;v80,1;v40,3;c10,0;c30,1;c20,4;n40;", "v80,2;c20,2;n2;", "v80,2;v70,2;c20,2;c30,0;n9;",
            "v5,2;c6,2;", "v9,5;c10,2;n1;"};
        for (String text : rooms) {
            ShoutedPrices x = Due.laid(text);
            for (int z = 0; z < 40; z++) {
                seen[x.rules(250 * z, 0)]++;
            }
        }
        for (int rule = 0; rule <= 3; rule++) {
            due.holds("rule " + rule + " is best by gain", seen[rule] > 0);
        }
    }

    /** By the bell all trade at once at one price: best in all, if no other gains as much. */
    private static void bestInAll() {
        int[] seen = new int[4];
        ShoutedPrices x = Due.laid("v99,5;v98,5;v97,5;c0,3;c1,3;c2,3;n4;");
        for (int z = 0; z < 100; z++) {
            int answer = x.rules(z, 3);
            if (answer != NONE) {
                seen[answer]++;
                for (int what = 0; what <= 2; what++) {
                    due.is("rules(" + z + ", " + what + ")", x.rules(z, what), answer);
                }
            }
        }
        due.holds("the bell is best in all", seen[3] > 0);
    }

    /** Two of the three are not enough. */
    private static void noneInAll() {
        // shouts gain as much as any and wander as little, but posted prices, at which nobody buys, are sooner
        ShoutedPrices x = Due.laid("v80,2;c20,2;");
        due.is("by gain", x.rules(0, 0), 0);
        due.is("by soon", x.rules(0, 1), 2);
        due.is("by wanders", x.rules(0, 2), 0);
        due.is("in all", x.rules(0, 3), NONE);
        boolean[] lacks = new boolean[2];
        for (int z = 0; z < 40; z++) {
            besideTheMeans("v90,0;v80,1;v40,3;c10,0;c30,1;c20,4;n40;", z);
            int[] best = besideTheMeans("v90,2;v80,1;v40,3;c10,0;c30,1;c20,2;n6;", z);
            lacks[0] |= best[1] == best[2] && best[0] != best[1];
            lacks[1] |= best[0] == best[1] && best[0] != best[2];
        }
        due.holds("not by gain alone", lacks[0]);
        due.holds("not by wanders alone", lacks[1]);
    }

    /** Of trades that gain 1 each the sums differ by one. */
    private static void oneMore() {
        int byOne = 0;
        for (int z = 0; z < 60; z++) {
            besideTheMeans("v51,0;c50,0;v49,0;n30;", z);
            ShoutedPrices x = Due.laid("v51,0;c50,0;v49,0;n30;");
            int best = x.rules(z, 0);
            for (int rule = 0; rule < best; rule++) {
                byOne += x.means(best, z, 0) - x.means(rule, z, 0) == 1 ? 1 : 0;
            }
        }
        due.holds("one more is better", byOne > 5);
    }

    private static void behindTheGreatestZ() {
        for (int z = 9990; z <= 9999; z++) {
            besideTheMeans("v90,0;v80,1;v40,3;c10,0;c30,1;c20,4;n40;", z);
        }
    }

    /** The best rule by each, from what the means say. */
    private static int[] besideTheMeans(String text, int z) {
        ShoutedPrices x = Due.laid(text);
        int[] best = new int[3];
        for (int what = 0; what <= 2; what++) {
            for (int rule = 1; rule <= 3; rule++) {
                int more = x.means(rule, z, what) - x.means(best[what], z, what);
                best[what] = (what == 0 ? more > 0 : more < 0) ? rule : best[what];
            }
            due.is(text + " rules(" + z + ", " + what + ")", x.rules(z, what), best[what]);
        }
        int inAll = best[0] == best[1] && best[1] == best[2] ? best[0] : NONE;
        due.is(text + " rules(" + z + ", 3)", x.rules(z, 3), inAll);
        return best;
    }

    private static void theLogIsAsItWas() {
        for (int what = 0; what <= 3; what++) {
            int its = what;
            int used = Whole.used().rules(9999, what), full = Whole.full().rules(0, what);
            due.changesNothing("rules(9999, " + what + ")", Whole::used, x -> x.rules(9999, its), used);
            due.changesNothing("rules(0, " + what + ")", Whole::full, x -> x.rules(0, its), full);
        }
        ShoutedPrices x = new ShoutedPrices();
        x.rules(0, 3);
        due.is("no log without a round", x.count(4), 0);
    }

    private static void bad() {
        int[][] rows = {{-1, 0}, {10000, 0}, {10000, 3}, {0, -1}, {0, 4}, {9999, 4}, {10000, 4}};
        for (int[] row : rows) {
            due.changesNothing("rules(" + row[0] + ", " + row[1] + ")", Whole::used, x -> x.rules(row[0], row[1]),
                ShoutedPrices.BAD);
        }
        for (int far : Due.FAR) {
            due.changesNothing("rules(" + far + ", 0)", Whole::used, x -> x.rules(far, 0), ShoutedPrices.BAD);
            due.changesNothing("rules(0, " + far + ")", Whole::used, x -> x.rules(0, far), ShoutedPrices.BAD);
        }
    }
}
