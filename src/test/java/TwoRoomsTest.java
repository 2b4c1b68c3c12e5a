/** Promises 21 to 23: two rooms with carriers, what is kept. */
public final class TwoRoomsTest {
    private static final Due due = new Due("TwoRoomsTest");
    /** WORTHS 90, 70, 50 of 0, 1, 2; COSTS 20, 40, 60 of 3, 4, 5. */
    private static final String SIX = "v90,0;v70,1;v50,2;c20,3;c40,4;c60,5;";

    public static void main(String[] args) {
        two();
        keepAndBack();
        keptWithLaws();
        due.end();
    }

    /** Rows: who is in the other room, what it costs to carry, the gain, how many are carried. */
    private static void two(String text, int[]... rows) {
        ShoutedPrices x = Due.laid(text);
        for (int[] row : rows) {
            String asked = text + " two(" + row[0] + ", " + row[1] + ", ";
            due.is(asked + "0)", x.two(row[0], row[1], 0), row[2]);
            due.is(asked + "1)", x.two(row[0], row[1], 1), row[3]);
        }
    }

    private static void two() {
        String[] alike = {SIX, SIX + "t50;", SIX + "l0;"};
        for (String text : alike) {
            // all in one room
            two(text, new int[][] {{0, 0, 100, 0}, {0, 99, 100, 0}, {63, 0, 100, 0}, {63, 99, 100, 0}});
            // all sellers in the other room: all that is traded is carried back
            two(text, new int[][] {{56, 0, 100, -2}, {56, 5, 90, -2}, {56, 29, 42, -2}, {56, 30, 40, -1}, {56, 31, 39, -1},
                {56, 69, 1, -1}, {56, 70, 0, 0}, {56, 99, 0, 0}});
            // all buyers there
            two(text, new int[][] {{7, 0, 100, 2}, {7, 29, 42, 2}, {7, 30, 40, 1}, {7, 70, 0, 0}});
            // the dearest buyer alone there: 70 and 50 here gain 60 without it, the fewest are carried of like gains
            two(text, new int[][] {{1, 0, 100, 1}, {1, 39, 61, 1}, {1, 40, 60, 0}, {1, 41, 60, 0}});
            // the cheapest seller alone there
            two(text, new int[][] {{8, 0, 100, -1}, {8, 30, 70, -1}});
            // a room for each: 90 with 20, 70 with 40, so none is carried, even for nothing
            two(text, new int[][] {{9, 0, 100, 0}, {18, 0, 100, 0}});
        }
        two("v9,0;c10,0;", new int[][] {{0, 0, 0, 0}, {1, 0, 0, 0}, {3, 0, 0, 0}});
        two("v10,0;c10,0;", new int[][] {{0, 0, 0, 0}, {1, 0, 0, 0}});
        two("v10,0;c9,0;", new int[][] {{1, 0, 1, 1}, {1, 1, 0, 0}, {2, 0, 1, -1}});
        two(Due.repeat("v99,0;", 10) + Due.repeat("c0,0;", 10),
            new int[][] {{1023, 0, 990, 10}, {1023 << 10, 98, 10, -10}, {1023, 99, 0, 0}, {(1 << 20) - 1, 99, 990, 0}});
        ShoutedPrices x = Due.laid(SIX);
        int[][] wrong = {{-1, 0, 0}, {64, 0, 0}, {0, -1, 0}, {0, 100, 0}, {0, 0, -1}, {0, 0, 2},
            {Integer.MIN_VALUE, 0, 0}, {Integer.MAX_VALUE, 0, 0}, {0, Integer.MAX_VALUE, 0}};
        for (int[] row : wrong) {
            due.is("two of wrong numbers", x.two(row[0], row[1], row[2]), -10000);
        }
    }

    private static void keepAndBack() {
        ShoutedPrices x = Due.laid("v80,2;c20,2;n2;");
        due.is("back to nothing", x.back(), ShoutedPrices.NO);
        x.round(0, 1, 0);
        due.is("keep", x.keep(), 1);
        x.round(0, 0, 0);
        due.is("keep", x.keep(), 2);
        due.is("keep a third", x.keep(), ShoutedPrices.FULL);
        due.is("kept", x.count(5), 2);
        x.round(0, 3, 0);
        due.is("back", x.back(), 1);
        due.is("the log", x.shout(1, 0), 1);
        due.is("its price", x.shout(1, 1), 20);
        due.is("its step", x.shout(1, 2), 1);
        due.is("its last", x.shout(1, 3), ShoutedPrices.NONE);
        due.is("back", x.back(), 0);
        due.is("the log before", x.shout(1, 0), 0);
        due.is("its price", x.shout(1, 1), 80);
        due.is("back once more", x.back(), ShoutedPrices.NO);
        due.is("the log stays", x.shout(1, 1), 80);
        due.is("kept", x.count(5), 0);
        due.is("keep", x.keep(), 1);
    }

    private static void keptWithLaws() {
        ShoutedPrices x = Due.laid(SIX + "n9;");
        x.keep();
        x.law(5, 0);
        x.law(0, 4);
        x.round(0, 2, 0);
        int shouts = x.count(4);
        x.keep();
        x.law(5, 1);
        due.is("back", x.back(), 1);
        due.is("the law then", x.person(5, 2), 0);
        due.is("the other one then", x.person(0, 2), 4);
        due.is("the shouts then", x.count(4), shouts);
        due.is("back", x.back(), 0);
        due.is("the law at first", x.person(5, 2), 5);
        due.is("the other one at first", x.person(0, 2), 0);
        due.is("no shouts at first", x.count(4), 0);
        // a text that is written or wiped is not kept
        x.keep();
        x.wipe();
        x.back();
        due.is("the text is as it is", x.count(3), 0);
    }
}
