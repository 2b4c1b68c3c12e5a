/** Promise 20, laws: LAWS that may have made a PERSON's shouts, bit l for LAW l; without a shout all. BAD. */
public final class Promise20LawsTest {
    private static final Due due = new Due("Promise20LawsTest");
    private static final int BLIND = 1, NEAR = 2, PATIENT = 4, FEARFUL = 8, HOLDER = 16, WRONG = 32, ALL = 63;

    public static void main(String[] args) {
        withoutAShout();
        blindEnds();
        patientExactly();
        holderEnds();
        theCardInTheLastQuarter();
        nearEndsOfABuyer();
        nearEndsOfASeller();
        nearCutByCards();
        byTheLid();
        eachOfItsShouts();
        whateverTheLawIs();
        bad();
        due.end();
    }

    /** z 3: DRAW(0, 0) is 44670, so the PERSON 0 shouts at one step; DRAW(0, 1) is 362, so 62 if it is WRONG. */
    private static void laws(String text, int bits) {
        ShoutedPrices x = Due.laid(text + "n1;");
        x.round(0, 3, 0);
        due.is(text + " shouts", x.count(4), 1);
        due.is(text + " laws", x.laws(0), bits);
        due.is(text + " laws of who is silent", x.laws(1), ALL);
    }

    private static void withoutAShout() {
        ShoutedPrices x = new ShoutedPrices();
        due.is("a buyer", x.laws(0), ALL);
        due.is("a seller", x.laws(1), ALL);
        x = Due.laid("v1,0;".repeat(10) + "c99,0;".repeat(10));
        due.is("the last of twenty", x.laws(19), ALL);
        due.is("laws(20)", x.laws(20), ShoutedPrices.BAD);
        // who is never heard above the lid
        x = Due.laid("v0,0;c50,5;t50;l0;");
        x.round(0, 1, 0);
        due.is("a seller above the lid", x.laws(1), ALL);
    }

    /** A BUYER's WORTH is the highest bid, a SELLER's COST the lowest offer of all but WRONG. */
    private static void blindEnds() {
        laws("v63,5;c0,0;h99;", ALL - PATIENT);
        laws("v62,5;c0,0;h99;", ALL);
        laws("v61,5;c0,0;h99;", WRONG);
        laws("v0,5;c0,0;h99;", WRONG);
        laws("c61,5;v0,0;h0;", ALL - PATIENT);
        laws("c62,5;v0,0;h0;", ALL);
        laws("c63,5;v0,0;h0;", WRONG);
        laws("c99,5;v0,0;h0;", WRONG);
        laws("v0,0;c0,0;", ALL);
        laws("c99,0;v0,0;", ALL);
        laws("v99,2;c0,0;h99;", ALL);
        laws("c0,2;v0,0;h0;", ALL);
    }

    private static void patientExactly() {
        // 80 by 4 is 20, 40, 60, 80; 99 less 80, 60, 40, 20
        patient("v80,2;c99,0;t1;h99;", new int[] {20, 40, 60, 80});
        patient("c19,2;v0,0;h0;", new int[] {79, 59, 39, 19});
        // BLIND shouts may be PATIENT if each is so, cut
        for (int z = 0; z < 400; z++) {
            ShoutedPrices x = Due.laid("v7,0;c99,0;t1;n2;");
            x.round(0, z, 0);
            boolean so = true;
            for (int t = 0; t < 2; t++) {
                so = so && (Draw.of(z, t, 0) % 2 == 1 || Draw.of(z, t, 1) % 8 == 7 * (t + 1) / 2);
            }
            due.is("patient at z " + z, x.laws(0) & PATIENT, so ? PATIENT : 0);
        }
    }

    private static void patient(String text, int[] prices) {
        ShoutedPrices x = Due.laid(text + "n4;");
        for (int z = 0; z < 30; z++) {
            x.round(0, z, 0);
            int shouts = x.count(4);
            for (int i = 0; i < shouts; i++) {
                if (x.shout(i, 0) == 0) {
                    due.is(text + " price", x.shout(i, 1), prices[x.shout(i, 2)]);
                }
            }
            // the last one is the card, as who is FEARFUL must shout then
            due.is(text + " at z " + z, x.laws(0), ALL);
        }
    }

    private static void holderEnds() {
        laws("v99,0;c0,0;h61;", ALL - PATIENT - HOLDER);
        laws("v99,0;c0,0;h62;", ALL - PATIENT);
        laws("v99,0;c0,0;h63;", ALL - PATIENT);
        laws("c20,0;v0,0;h63;", ALL - PATIENT - HOLDER);
        laws("c20,0;v0,0;h62;", ALL - PATIENT);
        laws("c20,0;v0,0;h61;", ALL - PATIENT);
        laws("v99,4;c0,0;h0;", ALL - PATIENT);
        laws("c0,4;v0,0;h99;", ALL - PATIENT);
    }

    private static void theCardInTheLastQuarter() {
        for (int n : new int[] {3, 4, 5, 8, 200}) {
            for (int z = 0; z < 20; z++) {
                ShoutedPrices x = Due.laid("v50,0;c99,0;t1;h99;n" + n + ";");
                x.round(0, z, 0);
                boolean so = true;
                for (int t = 0; t < n; t++) {
                    boolean late = 4 * t >= 3 * n && Draw.of(z, t, 0) % 2 == 0;
                    so = so && (!late || Draw.of(z, t, 1) % 51 == 50);
                }
                due.is("fearful of n" + n + " at z " + z, x.laws(0) & FEARFUL, so ? FEARFUL : 0);
            }
        }
    }

    /** The third one's bits, when LAST is so; 0 without such a round at z. */
    private static int third(String text, int z, int last) {
        if (!Draw.isInOrder(z, 3, 0, 1, 2)) {
            return 0;
        }
        ShoutedPrices x = Due.laid(text + "n3;");
        x.round(0, z, 0);
        if (x.count(4) != 3) {
            return 0;
        }
        due.is(text + " LAST", x.shout(2, 3), last);
        due.is(text + " price", x.shout(2, 1), Draw.of(z, 2, 1) % 100);
        return x.laws(2);
    }

    private static int ifSo(boolean so, int bits) {
        return so ? bits : 0;
    }

    /** 33 is bid and taken; a WRONG buyer of 99 bids behind it: LAST less X and LAST and X are NEAR, one beyond is not. */
    private static void nearEndsOfABuyer() {
        boolean[] seen = new boolean[100];
        for (int near : new int[] {0, 5, 20, 50}) {
            for (int z = 0; z <= 9999; z++) {
                int bits = third("v99,2;c0,2;v99,5;h53;x" + near + ";", z, 33);
                if (bits != 0) {
                    int price = Draw.of(z, 2, 1) % 100;
                    boolean isNear = price >= 33 - near && price <= 33 + near;
                    due.is("a bid of " + price + " near " + near, bits,
                        BLIND + WRONG + ifSo(isNear, NEAR + FEARFUL) + ifSo(price == 99, PATIENT) + ifSo(price <= 53, HOLDER));
                    seen[price] = true;
                }
            }
        }
        for (int price : new int[] {12, 13, 27, 28, 32, 33, 34, 38, 39, 53, 54, 83, 84}) {
            due.holds("a bid of " + price + " was there", seen[price]);
        }
    }

    private static void nearEndsOfASeller() {
        boolean[] seen = new boolean[100];
        for (int z = 0; z <= 9999; z++) {
            int bits = third("v99,2;c0,2;c0,5;h39;x5;", z, 33);
            if (bits != 0) {
                int price = Draw.of(z, 2, 1) % 100;
                boolean isNear = price >= 28 && price <= 38;
                due.is("an offer of " + price, bits,
                    BLIND + WRONG + ifSo(isNear, NEAR + FEARFUL) + ifSo(price == 0, PATIENT) + ifSo(price >= 39, HOLDER));
                seen[price] = true;
            }
        }
        for (int price : new int[] {27, 28, 38, 39}) {
            due.holds("an offer of " + price + " was there", seen[price]);
        }
    }

    /** LAST is 33, NEAR 5: a WORTH of 30 bids 28 to 30 near it, one of 20 the 20 alone, a COST of 36 offers 36 to 38. */
    private static void nearCutByCards() {
        int[][] rows = {{30, 28, 30}, {20, 20, 20}, {28, 28, 28}, {27, 27, 27}};
        for (int[] row : rows) {
            cut("v99,2;c0,2;v" + row[0] + ",5;h99;x5;", row[1], row[2], 0, row[0]);
        }
        rows = new int[][] {{36, 36, 38}, {50, 50, 50}, {38, 38, 38}, {39, 39, 39}};
        for (int[] row : rows) {
            cut("v99,2;c0,2;c" + row[0] + ",5;h0;x5;", row[1], row[2], row[0], 99);
        }
    }

    private static void cut(String text, int least, int most, int blindLeast, int blindMost) {
        int seen = 0;
        for (int z = 0; z <= 9999; z++) {
            int bits = third(text, z, 33);
            if (bits != 0) {
                int price = Draw.of(z, 2, 1) % 100;
                boolean isNear = price >= least && price <= most, isBlind = price >= blindLeast && price <= blindMost;
                due.is(text + " of " + price, bits & (NEAR + FEARFUL), ifSo(isNear, NEAR + FEARFUL));
                due.is(text + " of " + price, bits & (BLIND + HOLDER + WRONG), WRONG + ifSo(isBlind, BLIND + HOLDER));
                seen += isNear ? 1 : 0;
            }
        }
        due.holds(text + " was near", seen > 0);
    }

    /** A bid of the LID may be any that is cut. */
    private static void byTheLid() {
        laws("v80,0;c0,0;l20;", ALL);
        laws("v80,0;c0,0;l38;", ALL);
        laws("v80,0;c0,0;l39;", ALL - PATIENT);
        laws("v80,0;c0,0;l38;h38;", ALL);
        laws("v80,0;c0,0;l38;h37;", ALL - HOLDER);
        laws("v0,5;c0,0;l20;", WRONG);
        laws("v19,5;c0,0;l20;", WRONG);
        laws("v20,5;c0,0;l20;", ALL);
        laws("v0,5;c0,0;l0;", ALL);
    }

    private static void eachOfItsShouts() {
        // 60 and then 20 are offered: a HOLDER of 20 may offer both, one of 21 not the second
        ShoutedPrices x = Due.laid("v0,2;c20,2;n2;h20;");
        x.round(0, Draw.order(2, 1, 1), 0);
        due.is("laws of two shouts", x.laws(1), ALL);
        x = Due.laid("v0,2;c20,2;n2;h21;");
        x.round(0, Draw.order(2, 1, 1), 0);
        due.is("not the second", x.laws(1), ALL - HOLDER);
        due.is("another one's shouts do not count", x.laws(0), ALL);
        // 49 and then 99 are bid: a HOLDER of 48 not the first
        x = Due.laid("v99,2;c99,0;t1;n2;h48;");
        x.round(0, Draw.order(2, 0, 0), 0);
        due.is("not the first", x.laws(0), ALL - HOLDER);
    }

    private static void whateverTheLawIs() {
        ShoutedPrices x = Due.laid("v99,0;c0,0;n1;h61;");
        x.round(0, 3, 0);
        for (int l = 0; l <= 5; l++) {
            x.law(0, l);
            due.is("laws of who is of law " + l + " now", x.laws(0), ALL - PATIENT - HOLDER);
        }
        x.lay();
        due.is("behind lay", x.laws(0), ALL);
    }

    private static void bad() {
        for (int p : new int[] {-1, 6, 7, 20, Integer.MIN_VALUE, Integer.MAX_VALUE}) {
            due.changesNothing("laws(" + p + ")", Whole::used, x -> x.laws(p), ShoutedPrices.BAD);
        }
        due.is("laws(2) of a new object", new ShoutedPrices().laws(2), ShoutedPrices.BAD);
    }
}
