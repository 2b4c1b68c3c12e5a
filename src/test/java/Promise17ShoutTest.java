/** Promise 17, shout: a shout of the LOG: the PERSON (what = 0), price (1), STEP (2), LAST (3; NONE). BAD. */
public final class Promise17ShoutTest {
    private static final Due due = new Due("Promise17ShoutTest");
    private static final int NONE = ShoutedPrices.NONE, BAD = ShoutedPrices.BAD;

    public static void main(String[] args) {
        asTheyCame();
        noneOfAnEmptyLog();
        oneShout();
        twoHundred();
        lastBehindATrade();
        ofTheLastRound();
        bad();
        due.end();
    }

    private static void shouts(ShoutedPrices x, int[]... rows) {
        due.is("shouts", x.count(4), rows.length);
        for (int i = 0; i < rows.length; i++) {
            for (int what = 0; what <= 3; what++) {
                due.is("shout(" + i + ", " + what + ")", x.shout(i, what), rows[i][what]);
            }
        }
        due.is("one more", x.shout(rows.length, 0), BAD);
    }

    private static void asTheyCame() {
        ShoutedPrices x = Due.laid("v80,2;c20,2;n2;");
        x.round(0, Draw.order(2, 1, 0), 0);
        shouts(x, new int[][] {{1, 60, 0, NONE}, {0, 80, 1, NONE}});
        x.round(0, Draw.order(2, 1, 1), 0);
        shouts(x, new int[][] {{1, 60, 0, NONE}, {1, 20, 1, NONE}});
        // what is not shouted is none: an offer above the lid
        x = Due.laid("v80,2;c20,2;n2;t5;l64;");
        x.round(0, Draw.order(2, 1, 0), 0);
        shouts(x, new int[][] {{0, 64, 1, NONE}});
        x = Due.laid("v80,2;c20,2;n2;t5;l65;");
        x.round(0, Draw.order(2, 1, 0), 0);
        shouts(x, new int[][] {{1, 60, 0, NONE}, {0, 65, 1, NONE}});
    }

    private static void noneOfAnEmptyLog() {
        ShoutedPrices x = new ShoutedPrices();
        for (int what = 0; what <= 3; what++) {
            due.is("shout(0, " + what + ")", x.shout(0, what), BAD);
        }
        x.round(1, 0, 0);
        due.is("rule 1 does not shout", x.shout(0, 0), BAD);
    }

    private static void oneShout() {
        ShoutedPrices x = Due.laid("v80,2;c20,2;n1;");
        x.round(0, Draw.order(2, 0), 0);
        shouts(x, new int[][] {{0, 80, 0, NONE}});
        x = Due.laid("v0,2;c99,2;n1;");
        x.round(0, Draw.order(2, 1), 0);
        shouts(x, new int[][] {{1, 99, 0, NONE}});
        x.round(0, Draw.order(2, 0), 0);
        shouts(x, new int[][] {{0, 0, 0, NONE}});
    }

    /** 200 at most: nobody trades in 200 steps. */
    private static void twoHundred() {
        ShoutedPrices x = Due.laid("v5,0;v6,1;c50,0;c60,1;n200;");
        x.round(0, 77, 0);
        due.is("shouts", x.count(4), 200);
        for (int i = 0; i < 200; i++) {
            due.is("the person of shout " + i, x.shout(i, 0), Draw.of(77, i, 0) % 4);
        }
        due.is("the last one's step", x.shout(199, 2), 199);
        due.is("its LAST", x.shout(199, 3), NONE);
        due.is("shout 200", x.shout(200, 0), BAD);
        x.round(0, 78, 0);
        due.is("shouts again", x.count(4), 200);
        due.is("the first of these", x.shout(0, 0), Draw.of(78, 0, 0) % 4);
        x = Due.laid("v5,0;v6,1;c50,0;c60,1;n199;");
        x.round(0, 77, 0);
        due.is("of 199 steps", x.count(4), 199);
        due.is("shout 199", x.shout(199, 0), BAD);
    }

    private static void lastBehindATrade() {
        ShoutedPrices x = Due.laid("v99,2;c0,2;v99,1;n3;x0;");
        x.round(0, Draw.order(3, 0, 1, 2), 0);
        shouts(x, new int[][] {{0, 33, 0, NONE}, {1, 33, 1, NONE}, {2, 33, 2, 33}});
        // a LAST of 0 is one
        x = Due.laid("v0,2;c0,5;v99,1;n3;x0;");
        x.round(0, Draw.order(z -> Draw.of(z, 1, 1) % 100 == 0, 3, 0, 1, 2), 0);
        shouts(x, new int[][] {{0, 0, 0, NONE}, {1, 0, 1, NONE}, {2, 0, 2, 0}});
    }

    /** A shorter round leaves nothing of the one before. */
    private static void ofTheLastRound() {
        ShoutedPrices x = Due.laid("v80,2;c20,2;n2;l59;");
        x.round(0, Draw.order(2, 0, 0), 0);
        shouts(x, new int[][] {{0, 40, 0, NONE}, {0, 59, 1, NONE}});
        x.round(0, Draw.order(2, 1, 0), 0);
        shouts(x, new int[][] {{0, 59, 1, NONE}});
    }

    private static void bad() {
        ShoutedPrices used = Whole.used();
        int size = used.count(4);
        due.holds("there are shouts", size > 1);
        int[][] rows = {{-1, 0}, {size, 0}, {size, 3}, {size + 1, 0}, {0, -1}, {0, 4}, {size - 1, 4}, {size, 4}, {200, 0}};
        for (int[] row : rows) {
            due.changesNothing("shout(" + row[0] + ", " + row[1] + ")", Whole::used, x -> x.shout(row[0], row[1]), BAD);
        }
        for (int far : Due.FAR) {
            due.changesNothing("shout(" + far + ", 0)", Whole::used, x -> x.shout(far, 0), BAD);
            due.changesNothing("shout(0, " + far + ")", Whole::used, x -> x.shout(0, far), BAD);
        }
        due.changesNothing("shout(0, 3)", Whole::used, x -> x.shout(0, 3), NONE);
        due.holds("the last one", used.shout(size - 1, 2) >= 0);
    }
}
