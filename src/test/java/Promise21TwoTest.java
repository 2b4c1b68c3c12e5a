/** Promise 21, two: TWO ROOMS: the most gain (what = 0), how many are carried (1). BAD answers -10000. */
public final class Promise21TwoTest {
    private static final Due due = new Due("Promise21TwoTest");
    /** WORTHS 90, 70, 50 of 0, 1, 2; COSTS 20, 40, 60 of 3, 4, 5. */
    private static final String SIX = "v90,0;v70,1;v50,2;c20,3;c40,4;c60,5;";

    public static void main(String[] args) {
        allInOneRoom();
        sellersAlone();
        buyersAlone();
        oneAlone();
        aRoomForEach();
        nothingToGain();
        likeGainsTheFewest();
        leastAndGreatest();
        taxAndLidAreNotAsked();
        besideAllNumbers();
        bad();
        due.end();
    }

    /** Rows: who is in the other room, what it costs to carry, the gain, how many are carried. */
    private static void two(String text, int[]... rows) {
        ShoutedPrices x = Due.laid(text);
        for (int[] row : rows) {
            String asked = text + " two(" + row[0] + ", " + row[1] + ", ";
            due.is(asked + "0)", x.two(row[0], row[1], 0), row[2]);
            due.is(asked + "1)", x.two(row[0], row[1], 1), row[3]);
        }
    }

    private static void allInOneRoom() {
        two(SIX, new int[][] {{0, 0, 100, 0}, {0, 99, 100, 0}, {63, 0, 100, 0}, {63, 99, 100, 0}});
    }

    /** All sellers in the other room: all that is traded is carried back, below 0. */
    private static void sellersAlone() {
        two(SIX, new int[][] {{56, 0, 100, -2}, {56, 5, 90, -2}, {56, 29, 42, -2}, {56, 30, 40, -1}, {56, 31, 39, -1},
            {56, 69, 1, -1}, {56, 70, 0, 0}, {56, 71, 0, 0}, {56, 99, 0, 0}});
    }

    private static void buyersAlone() {
        two(SIX, new int[][] {{7, 0, 100, 2}, {7, 29, 42, 2}, {7, 30, 40, 1}, {7, 69, 1, 1}, {7, 70, 0, 0}});
    }

    private static void oneAlone() {
        // without the dearest buyer 70 and 50 gain 60 with the sellers of the first room
        two(SIX, new int[][] {{1, 0, 100, 1}, {1, 39, 61, 1}, {1, 40, 60, 0}, {1, 41, 60, 0}});
        // without the cheapest seller: 90 by 40 and 70 by 60 gain 60
        two(SIX, new int[][] {{8, 0, 100, -1}, {8, 30, 70, -1}, {8, 39, 61, -1}, {8, 40, 60, 0}});
    }

    /** 90 with 20, 70 with 40: none is carried, even for nothing. */
    private static void aRoomForEach() {
        two(SIX, new int[][] {{9, 0, 100, 0}, {18, 0, 100, 0}, {27, 0, 100, 0}, {36, 0, 100, 0}});
        // the dearest of each room first, the cheapest of each
        two("v50,0;v90,0;c60,0;c20,0;", new int[][] {{0, 0, 70, 0}, {15, 0, 70, 0}, {5, 0, 70, 0}, {10, 0, 70, 0}});
    }

    private static void nothingToGain() {
        two("v9,0;c10,0;", new int[][] {{0, 0, 0, 0}, {1, 0, 0, 0}, {2, 0, 0, 0}, {3, 0, 0, 0}});
        two("v10,0;c10,0;", new int[][] {{0, 0, 0, 0}, {1, 0, 0, 0}, {2, 0, 0, 0}});
    }

    private static void likeGainsTheFewest() {
        two("v10,0;c9,0;", new int[][] {{1, 0, 1, 1}, {1, 1, 0, 0}, {2, 0, 1, -1}, {2, 1, 0, 0}});
        // like people in both rooms
        two("v50,0;v50,0;c20,0;c20,0;", new int[][] {{0, 0, 60, 0}, {5, 0, 60, 0}, {1, 0, 60, 1}, {2, 0, 60, 1},
            {4, 0, 60, -1}, {8, 0, 60, -1}, {12, 0, 60, -2}, {3, 0, 60, 2}, {3, 30, 0, 0}, {12, 30, 0, 0}, {12, 29, 2, -2}});
        // the second one carried gains 20 less 20: one is carried
        two("v60,0;v40,0;c10,0;c20,0;", new int[][] {{3, 20, 30, 1}, {3, 19, 32, 2}, {12, 20, 30, -1}, {12, 19, 32, -2}});
    }

    private static void leastAndGreatest() {
        two("v99,0;c0,0;", new int[][] {{1, 98, 1, 1}, {1, 99, 0, 0}, {2, 98, 1, -1}, {2, 99, 0, 0}, {3, 99, 99, 0}});
        two("v99,0;".repeat(10) + "c0,0;".repeat(10), new int[][] {{1023, 0, 990, 10}, {1023 << 10, 98, 10, -10},
            {1023, 99, 0, 0}, {(1 << 20) - 1, 99, 990, 0}, {0, 99, 990, 0}, {1 << 19, 0, 990, -1}, {1 << 9, 98, 892, 1}});
        due.is("bits beyond twenty", Due.laid("v99,0;".repeat(10) + "c0,0;".repeat(10)).two(1 << 20, 0, 0), -10000);
    }

    private static void taxAndLidAreNotAsked() {
        for (String more : new String[] {"t50;", "l0;", "t50;l0;"}) {
            two(SIX + more, new int[][] {{0, 0, 100, 0}, {56, 29, 42, -2}, {7, 30, 40, 1}});
        }
    }

    /** Each room of four beside all that can be chosen of it, one by one. */
    private static void besideAllNumbers() {
        int[] cards = {70, 40, 20, 50};
        for (int other = 0; other < 16; other++) {
            for (int k = 0; k <= 60; k += 10) {
                ShoutedPrices x = Due.laid("v70,0;v40,0;c20,0;c50,0;");
                int most = 0, carried = 0;
                for (int chosen = 0; chosen < 16; chosen++) {
                    if (Integer.bitCount(chosen & 3) == Integer.bitCount(chosen & 12)) {
                        int gain = 0, over = 0;
                        for (int p = 0; p < 4; p++) {
                            boolean in = (chosen >> p & 1) == 1, first = (other >> p & 1) == 0;
                            gain += in ? p < 2 ? cards[p] : -cards[p] : 0;
                            over += in && first ? p < 2 ? -1 : 1 : 0;
                        }
                        gain -= k * Math.abs(over);
                        boolean fewer = Math.abs(over) < Math.abs(carried);
                        if (gain > most || gain == most && (fewer || over == -carried && over > 0)) {
                            most = gain;
                            carried = over;
                        }
                    }
                }
                due.is("two(" + other + ", " + k + ", 0)", x.two(other, k, 0), most);
                due.is("two(" + other + ", " + k + ", 1)", x.two(other, k, 1), carried);
            }
        }
    }

    private static void bad() {
        int[][] rows = {{-1, 0, 0}, {64, 0, 0}, {65, 0, 1}, {0, -1, 0}, {0, 100, 0}, {0, 0, -1}, {0, 0, 2}, {63, 99, 2},
            {64, 99, 1}, {63, 100, 1}};
        for (int[] row : rows) {
            String call = "two(" + row[0] + ", " + row[1] + ", " + row[2] + ")";
            due.changesNothing(call, Whole::used, x -> x.two(row[0], row[1], row[2]), -10000);
        }
        for (int far : Due.FAR) {
            due.changesNothing("two(" + far + ", 0, 0)", Whole::used, x -> x.two(far, 0, 0), -10000);
            due.changesNothing("two(0, " + far + ", 0)", Whole::used, x -> x.two(0, far, 0), -10000);
            due.changesNothing("two(0, 0, " + far + ")", Whole::used, x -> x.two(0, 0, far), -10000);
        }
        due.is("two(4, 0, 0) of a new object", new ShoutedPrices().two(4, 0, 0), -10000);
        due.changesNothing("two(63, 99, 1)", Whole::used, x -> x.two(63, 99, 1), 0);
    }
}
