/** Promises 17 to 20: the log of shouts, what is known by it, which laws may have made it. */
public final class OnlookersTest {
    private static final Due due = new Due("OnlookersTest");
    private static final int NONE = ShoutedPrices.NONE, BAD = ShoutedPrices.BAD;

    public static void main(String[] args) {
        aNewLog();
        shout();
        prices();
        nearLast();
        known();
        laws();
        lawsByTheLid();
        lawsOfNear();
        wrongNumbers();
        due.end();
    }

    private static void aNewLog() {
        ShoutedPrices x = new ShoutedPrices();
        due.is("no shouts", x.count(4), 0);
        due.is("shout(0, 0)", x.shout(0, 0), BAD);
        due.is("known(0)", x.known(0), 0);
        due.is("known(1)", x.known(1), 99);
        due.is("least(0)", x.least(0), 0);
        due.is("least(1)", x.least(1), 0);
        due.is("laws(0)", x.laws(0), 63);
        due.is("laws(1)", x.laws(1), 63);
    }

    private static void shouts(ShoutedPrices x, int[]... rows) {
        due.is("shouts", x.count(4), rows.length);
        for (int i = 0; i < rows.length; i++) {
            for (int what = 0; what < 4; what++) {
                due.is("shout(" + i + ", " + what + ")", x.shout(i, what), rows[i][what]);
            }
        }
    }

    private static void shout() {
        // z 1: the person 1 shouts, then the person 0 (DRAW(t, 0): 22803, 54100)
        ShoutedPrices x = Due.laid("v80,2;c20,2;n2;");
        x.round(0, 1, 0);
        shouts(x, new int[][] {{1, 60, 0, NONE}, {0, 80, 1, NONE}});
        // who has traded is silent: 4 steps more, both have traded at the second one
        x = Due.laid("v80,2;c20,2;n2;");
        x.round(0, 0, 0);
        shouts(x, new int[][] {{1, 60, 0, NONE}, {1, 20, 1, NONE}});
        // an offer above the lid is none, a bid is cut
        x = Due.laid("v80,2;c20,2;n2;t5;l64;");
        x.round(0, 1, 0);
        shouts(x, new int[][] {{0, 64, 1, NONE}});
        x = Due.laid("v80,2;c20,2;n2;t5;l65;");
        x.round(0, 1, 0);
        shouts(x, new int[][] {{1, 60, 0, NONE}, {0, 65, 1, NONE}});
        theLastOne();
    }

    private static void theLastOne() {
        // nobody trades, 200 steps are 200 shouts
        ShoutedPrices x = Due.laid("v5,0;v6,1;c50,0;c60,1;n200;");
        x.round(0, 77, 0);
        due.is("200 shouts", x.count(4), 200);
        due.is("the last one's step", x.shout(199, 2), 199);
        due.is("one more", x.shout(200, 2), BAD);
        // behind the first trade each shout has a last price
        x = Due.laid("v99,2;v99,2;v98,2;c0,2;c1,2;c1,2;n100;");
        x.round(0, 3, 0);
        int shouts = x.count(4);
        int lasts = 0;
        for (int i = 0; i < shouts; i++) {
            lasts += x.shout(i, 3) == NONE ? 0 : 1;
        }
        due.is("shouts behind a trade", lasts > 0 ? 1 : 0, 1);
        due.is("none before it", x.shout(0, 3), NONE);
    }

    /** z 3 at one step: DRAW(0, 0) is 44670, the person 0 shouts; DRAW(0, 1) is 362. */
    private static ShoutedPrices one(String text) {
        ShoutedPrices x = Due.laid(text + "n1;");
        x.round(0, 3, 0);
        return x;
    }

    private static void price(String text, int price) {
        due.is(text + " price", one(text).shout(0, 1), price);
    }

    private static void prices() {
        price("v99,0;c0,0;", 62);
        price("v80,0;c0,0;", 38);
        price("v0,0;c0,0;", 0);
        price("v80,0;c0,0;l20;", 20);
        price("v80,0;c0,0;l38;", 38);
        price("v80,1;c0,0;", 38);
        price("v80,2;c0,0;", 80);
        price("v80,3;c0,0;", 38);
        price("v99,4;c0,0;", 50);
        price("v99,4;c0,0;h61;", 61);
        price("v99,4;c0,0;h63;", 62);
        price("v0,5;c0,0;", 62);
        price("v0,5;c0,0;l61;", 61);
        price("c20,0;v0,0;", 62);
        price("c99,0;v0,0;", 99);
        price("c20,1;v0,0;", 62);
        price("c20,2;v0,0;", 20);
        price("c20,3;v0,0;", 62);
        price("c20,4;v0,0;", 62);
        price("c20,4;v0,0;h70;", 70);
        price("c99,5;v0,0;", 62);
        price("c20,0;v0,0;t37;", 62);
        price("c20,0;v0,0;t38;", BAD);
        price("c20,0;v0,0;l62;", 62);
        price("c20,0;v0,0;l61;", BAD);
        price("c20,4;v0,0;h70;l69;", BAD);
    }

    private static long draw(int z, int t, int k) {
        long x = 7919L * z + 6151L * t + 3571L * k + 1;
        return x * x % 65521;
    }

    /** By NEAR a price is the last one, less by X, more by a draw, then cut. */
    private static void nearLast() {
        int seen = 0;
        for (int near = 0; near <= 50; near += 10) {
            ShoutedPrices x = Due.laid("v99,1;v90,1;v97,1;v20,1;c0,1;c9,1;c1,1;c70,1;n200;x" + near + ";");
            for (int z = 0; z < 5; z++) {
                x.round(0, z, 0);
                for (int i = 0; i < x.count(4) && i < 40; i++) {
                    int p = x.shout(i, 0), last = x.shout(i, 3);
                    if (last != NONE) {
                        long price = last - near + draw(z, x.shout(i, 2), 1) % (2 * near + 1);
                        price = Math.max(0, Math.min(99, price));
                        price = p < 4 ? Math.min(price, x.person(p, 1)) : Math.max(price, x.person(p, 1));
                        due.is("near " + near + " shout " + i, x.shout(i, 1), price);
                        seen++;
                    }
                }
            }
        }
        due.is("shouts near a last price", seen > 100 ? 1 : 0, 1);
    }

    private static void known(String text, int z, int... cards) {
        ShoutedPrices x = Due.laid(text);
        x.round(0, z, 0);
        for (int p = 0; p < x.count(0); p++) {
            due.is(text + " known(" + p + ")", x.known(p), cards[p]);
        }
        due.is(text + " least(0)", x.least(0), cards[x.count(0)]);
        due.is(text + " least(1)", x.least(1), cards[x.count(0) + 1]);
    }

    private static void known() {
        known("v80,2;c20,2;n2;", 1, 80, 60, 1, 20);
        known("v80,2;c20,2;n2;t20;", 1, 80, 60, 1, 20);
        known("v80,2;c20,2;n2;t21;", 1, 80, 60, 0, 0);
        // the seller alone shouts, 60 and then 20
        known("v80,2;c20,2;n2;", 0, 0, 20, 0, 0);
        known("v80,0;c20,0;n1;", 3, 38, 99, 0, 0);
        // a buyer who bids above its worth is taken at its word
        known("v0,5;c20,0;n1;", 3, 62, 99, 0, 0);
        known("v80,2;c20,2;n2;l70;", 1, 70, 60, 1, 10);
        ShoutedPrices x = Due.laid("v80,2;c20,2;n2;");
        x.round(0, 1, 0);
        x.round(1, 1, 0);
        due.is("known by the log alone", x.known(0), 80);
        x.law(0, 5);
        due.is("whatever the laws are", x.known(0), 80);
    }

    private static void laws(String text, int bits) {
        ShoutedPrices x = one(text);
        due.is(text + " laws", x.laws(0), bits);
        due.is(text + " laws of who is silent", x.laws(1), 63);
        x.law(0, 2);
        due.is(text + " laws, whatever the law is now", x.laws(0), bits);
    }

    /** Bits: BLIND 1, NEAR 2, PATIENT 4, FEARFUL 8, HOLDER 16, WRONG 32. */
    private static void laws() {
        laws("v99,0;c0,0;", 1 + 2 + 8 + 32);
        laws("v99,0;c0,0;h61;", 1 + 2 + 8 + 32);
        laws("v99,0;c0,0;h62;", 1 + 2 + 8 + 16 + 32);
        laws("v62,2;c0,0;", 1 + 2 + 4 + 8 + 32);
        laws("v0,5;c0,0;", 32);
        laws("v61,5;c0,0;", 32);
        laws("v62,5;c0,0;h62;", 63);
        laws("c20,0;v0,0;", 1 + 2 + 8 + 16 + 32);
        laws("c20,0;v0,0;h63;", 1 + 2 + 8 + 32);
        laws("c62,5;v0,0;", 63);
        laws("c63,5;v0,0;", 32);
        laws("c99,2;v0,0;", 1 + 2 + 4 + 8 + 16 + 32);
        laws("c99,5;v0,0;", 32);
        // each of the shouts must be so: the seller offers 60 at step 0 and 20 at step 1
        ShoutedPrices x = Due.laid("v80,2;c20,2;n2;h20;");
        x.round(0, 0, 0);
        due.is("laws of two shouts", x.laws(1), 63);
        x = Due.laid("v80,2;c20,2;n2;h21;");
        x.round(0, 0, 0);
        due.is("laws, a holder no more", x.laws(1), 47);
        // 4 steps: 99 less 79 by 4 is 80; 60; 40; at last 20, as who is FEARFUL must then
        x = Due.laid("v80,2;c20,2;n4;");
        x.round(0, 0, 0);
        due.is("laws of four shouts", x.laws(1), 1 + 2 + 4 + 8 + 32);
        x = Due.laid("v80,2;c20,0;n4;h0;");
        x.round(0, 0, 0);
        due.is("the last of these is none of 20", x.shout(3, 1) == 20 ? 1 : 0, 0);
        due.is("laws of BLIND shouts", x.laws(1), 1 + 2 + 16 + 32);
    }

    private static void lawsByTheLid() {
        // a bid of the lid may be any that is cut
        laws("v80,0;c0,0;l20;", 63);
        laws("v80,0;c0,0;l38;", 63);
        laws("v80,0;c0,0;l39;", 1 + 2 + 8 + 16 + 32);
        laws("v80,0;c0,0;l38;h37;", 1 + 2 + 4 + 8 + 32);
        laws("v0,5;c0,0;l20;", 32);
        laws("v20,5;c0,0;l20;", 63);
    }

    /** With a last price NEAR reaches as far as X on both sides. */
    private static void lawsOfNear() {
        ShoutedPrices x = Due.laid("v99,0;v90,0;v97,0;v20,0;c0,0;c9,0;c1,0;c70,0;n200;x7;");
        for (int z = 0; z < 15; z++) {
            x.round(0, z, 0);
            for (int p = 0; p < 8; p++) {
                boolean may = true;
                for (int i = 0; i < x.count(4); i++) {
                    may = may && (x.shout(i, 0) != p || reaches(x, i, p));
                }
                due.is("near may have made it", x.laws(p) >> 1 & 1, may ? 1 : 0);
            }
        }
    }

    private static boolean reaches(ShoutedPrices x, int i, int p) {
        int price = x.shout(i, 1), last = x.shout(i, 3), card = x.person(p, 1);
        if (last == NONE) {
            return p < 4 ? price <= card : price >= card;
        }
        for (int told = last - 7; told <= last + 7; told++) {
            int cut = Math.max(0, Math.min(99, told));
            if (price == (p < 4 ? Math.min(cut, card) : Math.max(cut, card))) {
                return true;
            }
        }
        return false;
    }

    private static void wrongNumbers() {
        ShoutedPrices x = Due.laid("v80,2;c20,2;n2;");
        x.round(0, 1, 0);
        int[] wrong = {-1, Integer.MIN_VALUE, Integer.MAX_VALUE, 2};
        for (int w : wrong) {
            due.is("shout(" + w + ", 0)", x.shout(w, 0), BAD);
            due.is("known(" + w + ")", x.known(w), BAD);
            due.is("least(" + w + ")", x.least(w), BAD);
            due.is("laws(" + w + ")", x.laws(w), BAD);
        }
        due.is("shout(0, 4)", x.shout(0, 4), BAD);
        due.is("shout(0, -1)", x.shout(0, -1), BAD);
        due.is("shout(2, 3)", x.shout(2, 3), BAD);
    }
}
