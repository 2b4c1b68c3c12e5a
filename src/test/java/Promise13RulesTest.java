/** Promise 13, the RULES 1 PAIRS, 2 POSTED and 3 BELL. */
public final class Promise13RulesTest {
    private static final Due due = new Due("Promise13RulesTest");
    private static final int NONE = ShoutedPrices.NONE;
    private static final String SIX = "v90,2;v70,2;v50,2;c20,2;c40,2;c60,2;";

    public static void main(String[] args) {
        pairsAtTheOfferAndTax();
        pairsIfBothHaveNotTraded();
        pairsByTheirDraws();
        pairsAsTheyCome();
        pairsOfTwenty();
        pairsNearLast();
        postedAtTheOfferAndTax();
        postedByThePersonsDraw();
        postedIsTheLowestLeft();
        postedAtStepZero();
        postedByTheTrueWorth();
        bellAtTheLowestPrice();
        bellByTheLid();
        bellByThePersonsDraw();
        bellAtTheLastStep();
        due.end();
    }

    private static void of(String text, int rule, int z, int... prices) {
        ShoutedPrices x = Due.laid(text);
        for (int p = 0; p < prices.length; p++) {
            due.is(text + " of(" + rule + ", " + z + ", " + p + ")", x.of(rule, z, p), prices[p]);
        }
    }

    /** At the steps of two 40 is bid, 60 offered; then 80 bid, 20 offered. */
    private static void pairsAtTheOfferAndTax() {
        String two = "v80,2;c20,2;n2;";
        of(two, 1, 0, 20, 20);
        of(two + "t50;", 1, 0, 70, 70);
        of("v80,2;c30,2;n2;t50;", 1, 0, 80, 80);
        of("v80,2;c31,2;n2;t50;", 1, 0, NONE, NONE);
        of("v80,2;c80,2;n2;", 1, 0, 80, 80);
        of("v80,2;c81,2;n2;", 1, 0, NONE, NONE);
        of(two + "t50;l70;", 1, 0, 70, 70);
        of(two + "t50;l69;", 1, 0, NONE, NONE);
        of(two + "l20;", 1, 0, 20, 20);
        of(two + "l19;", 1, 0, NONE, NONE);
    }

    /** Bids of 24, 49, 74, 99, offers of 75, 50, 25, 0 at the steps of four. */
    private static void pairsIfBothHaveNotTraded() {
        String four = "v99,2;v99,2;c0,2;c0,2;n4;";
        of(four, 1, Draw.meetings(2, 2, 2, 0, 0, 1, 1), 25, 0, 25, 0);
        of(four, 1, Draw.meetings(2, 2, 2, 0, 0, 0, 1), 25, NONE, 25, NONE);
        of(four, 1, Draw.meetings(2, 2, 2, 0, 0, 1, 0), 25, NONE, 25, NONE);
        of(four, 1, Draw.meetings(2, 2, 2, 1, 1, 1, 1), NONE, 25, NONE, 25);
        of(four + "t49;", 1, Draw.meetings(2, 2, 2, 0, 0, 1, 1), 74, 49, 74, 49);
        of(four + "t50;", 1, Draw.meetings(2, 2, 2, 0, 0, 1, 1), NONE, 50, NONE, 50);
    }

    /** The BUYER by DRAW(t, 1), the SELLER by DRAW(t, 3). */
    private static void pairsByTheirDraws() {
        for (int z = 0; z < 40; z++) {
            int bid = Draw.of(z, 0, 1) % 100, offer = Draw.of(z, 0, 3) % 100;
            int price = bid >= offer ? offer : NONE;
            of("v50,5;c50,5;n1;", 1, z, price, price);
            int taxed = bid >= offer + 20 ? offer + 20 : NONE;
            of("v50,5;c50,5;n1;t20;", 1, z, taxed, taxed);
        }
        // DRAW(0, 3) is 62525; modulo 80 it is 45; DRAW(0, 1) is 48110; modulo 100 it is 10
        of("v99,2;c20,0;n1;", 1, 0, 65, 65);
        of("v99,0;c10,2;n1;", 1, 0, 10, 10);
        of("v99,0;c11,2;n1;", 1, 0, NONE, NONE);
    }

    /** BUYERS and SELLERS are counted each by themselves, however they are mixed. */
    private static void pairsAsTheyCome() {
        for (int z = 0; z < 40; z++) {
            ShoutedPrices x = Due.laid("c0,2;v99,2;c0,2;v99,2;c0,2;n1;");
            int buyer = 1 + 2 * (Draw.of(z, 0, 0) % 2), seller = 2 * (Draw.of(z, 0, 2) % 3);
            for (int p = 0; p < 5; p++) {
                due.is("of(1, " + z + ", " + p + ")", x.of(1, z, p), p == buyer || p == seller ? 0 : NONE);
            }
        }
    }

    private static void pairsOfTwenty() {
        boolean lastMet = false;
        for (int z = 0; z < 60; z++) {
            ShoutedPrices x = Due.laid("v99,2;".repeat(10) + "c0,2;".repeat(10) + "n1;");
            int buyer = Draw.of(z, 0, 0) % 10, seller = 10 + Draw.of(z, 0, 2) % 10;
            for (int p = 0; p < 20; p++) {
                due.is("of(1, " + z + ", " + p + ") of 20", x.of(1, z, p), p == buyer || p == seller ? 0 : NONE);
            }
            lastMet |= seller == 19;
        }
        due.holds("the last one met a buyer", lastMet);
    }

    /** 66 is bid at the second of three steps for 33 and a TAX of 10: 43 is LAST at the third, for a buyer, for a seller. */
    private static void pairsNearLast() {
        int z = Draw.meetings(0, 2, 2, 0, 0, 0, 0, 1, 1);
        String buyer = "v99,2;v99,1;c0,2;", seller = "v99,2;v54,2;c0,2;", more = "n3;x0;t10;";
        of(buyer + "c32,2;" + more, 1, z, 43, 42, 43, 42);
        of(buyer + "c33,2;" + more, 1, z, 43, 43, 43, 43);
        of(buyer + "c34,2;" + more, 1, z, 43, NONE, 43, NONE);
        of(seller + "c0,1;" + more, 1, z, 43, 53, 43, 53);
        of(seller.replace("54", "53") + "c0,1;" + more, 1, z, 43, 53, 43, 53);
        of(seller.replace("54", "52") + "c0,1;" + more, 1, z, 43, NONE, 43, NONE);
        noLastOfTheRoundBefore(z);
    }

    /** Who is NEAR is BLIND at first, whatever was paid in the ROUND before. */
    private static void noLastOfTheRoundBefore(int z) {
        for (int rule = 1; rule <= 3; rule++) {
            for (int next = 0; next < 20; next++) {
                ShoutedPrices used = Due.laid("v99,2;v99,1;c0,2;c0,1;n3;x0;t10;");
                due.holds("a trade", used.round(1, z, 0) > 0);
                ShoutedPrices made = Due.laid("v99,2;v99,1;c0,2;c0,1;n3;x0;t10;");
                for (int p = 0; p < 4; p++) {
                    due.is("of " + p + " by rule " + rule + " at z " + next, used.of(rule, next, p), made.of(rule, next, p));
                }
            }
        }
    }

    /** 60 is posted at the first of two steps. */
    private static void postedAtTheOfferAndTax() {
        String two = "v80,2;c20,2;n2;";
        of(two, 2, 0, 60, 60);
        of(two + "t20;", 2, 0, 80, 80);
        of(two + "t21;", 2, 0, NONE, NONE);
        of(two + "l60;", 2, 0, 60, 60);
        of(two + "l59;", 2, 0, NONE, NONE);
        of(two + "t5;l65;", 2, 0, 65, 65);
        of(two + "t5;l64;", 2, 0, NONE, NONE);
        of("v0,0;c0,2;n1;", 2, 0, 0, 0);
        of("v99,0;c99,2;n1;", 2, 0, 99, 99);
        of("v99,0;c99,2;n1;t1;", 2, 0, NONE, NONE);
    }

    private static void postedByThePersonsDraw() {
        for (int z : new int[] {0, 1, 77, 9999}) {
            for (int place = 0; place < 10; place++) {
                String text = "v99,0;".repeat(place) + "c20,0;v99,0;n1;";
                int offer = 20 + Draw.of(z, place, 1) % 80;
                due.is(text + " at z " + z, Due.laid(text).of(2, z, place), offer);
            }
            String last = "v99,0;".repeat(10) + "c99,2;".repeat(9) + "c0,5;n1;";
            due.is("the person 19 at z " + z, Due.laid(last).of(2, z, 19), Draw.of(z, 19, 1) % 100);
        }
    }

    private static void postedIsTheLowestLeft() {
        // offers of 79 and 89; z 1: the buyer 1, then the buyer 0
        String four = "v99,2;v99,2;c19,2;c59,2;n4;";
        of(four, 2, 1, 89, 79, 79, 89);
        of("v99,2;v99,2;c59,2;c19,2;n4;", 2, 1, 89, 79, 89, 79);
        of("v88,2;v99,2;c59,2;c19,2;n4;", 2, 1, NONE, 79, NONE, 79);
        // z 0: always the buyer 1, who trades once; of like offers the lower person's
        of(four, 2, 0, NONE, 79, 79, NONE);
        of("v99,2;v99,2;c19,2;c19,2;n4;", 2, 0, NONE, 79, 79, NONE);
        of("v99,2;v99,2;c19,2;c19,2;n4;", 2, 1, 79, 79, 79, 79);
        // a third buyer finds none left
        of("v99,2;v99,2;v99,2;c0,2;n3;", 2, Draw.order(3, 2, 0, 1), NONE, NONE, 66, 66);
        // who posted nothing is not left
        of("v99,2;c98,2;c0,2;n1;l97;", 2, 0, 0, NONE, 0);
    }

    /** t is 0: who is PATIENT posts the first step's price, who is FEARFUL does not fear, nobody has a LAST. */
    private static void postedAtStepZero() {
        of("v99,2;c0,2;n200;", 2, 0, 99, 99);
        of("v98,2;c0,2;n200;", 2, 0, NONE, NONE);
        of("v99,2;c0,2;n99;", 2, 0, 98, 98);
        for (int law : new int[] {0, 1, 3}) {
            int offer = 20 + Draw.of(7, 1, 1) % 80;
            of("v99,2;c20," + law + ";n1;x0;", 2, 7, offer, offer);
            of("v99,2;c20," + law + ";n4;x0;", 2, 7, offer, offer);
        }
        ShoutedPrices x = Due.laid("v99,2;c20,2;n2;");
        due.is("soon at the first step", x.round(2, 0, 2), 1);
        x = Due.laid("v0,2;v99,2;c20,2;n4;");
        due.is("soon at the third step", x.round(2, Draw.order(2, 0, 0, 1), 2), 3);
    }

    private static void postedByTheTrueWorth() {
        of("v60,5;c20,2;n2;", 2, 0, 60, 60);
        of("v59,5;c20,2;n2;", 2, 0, NONE, NONE);
        of("v60,4;c20,2;n2;h0;", 2, 0, 60, 60);
        // a buyer who is BLIND would bid 0 only
        of("v0,0;c0,2;n1;", 2, 0, 0, 0);
        // a WRONG seller may sell below its cost
        int offer = Draw.of(0, 1, 1) % 100;
        due.is("the offer is below", offer, 47);
        of("v47,0;c90,5;n1;", 2, 0, 47, 47);
        of("v46,0;c90,5;n1;", 2, 0, NONE, NONE);
    }

    private static void bellAtTheLowestPrice() {
        of(SIX, 3, 0, 50, 50, NONE, 50, 50, NONE);
        of(SIX, 3, 9999, 50, 50, NONE, 50, 50, NONE);
        of(SIX + "t20;", 3, 0, 60, 60, NONE, 60, 60, NONE);
        of(SIX + "t30;", 3, 0, 70, 70, NONE, 70, 70, NONE);
        of(SIX + "t31;", 3, 0, 70, NONE, NONE, 70, NONE, NONE);
        of("v9,2;c10,2;", 3, 0, NONE, NONE);
        of("v10,2;c10,2;", 3, 0, 10, 10);
        of("v0,2;c0,2;", 3, 0, 0, 0);
        // of like cards the lower person
        of("v50,2;v50,2;c10,2;", 3, 0, 50, NONE, 50);
        of("v50,2;c10,2;c10,2;", 3, 0, 10, 10, NONE);
        of("v50,2;v49,2;c10,2;c10,2;c10,2;", 3, 0, 10, 10, 10, 10, NONE);
    }

    /** Bids above the LID are the LID, offers above it are not told. */
    private static void bellByTheLid() {
        of(SIX + "l55;", 3, 0, 50, 50, NONE, 50, 50, NONE);
        of(SIX + "l40;", 3, 0, 40, 40, NONE, 40, 40, NONE);
        of(SIX + "l39;", 3, 0, 39, NONE, NONE, 39, NONE, NONE);
        of(SIX + "l20;", 3, 0, 20, NONE, NONE, 20, NONE, NONE);
        of(SIX + "l19;", 3, 0, NONE, NONE, NONE, NONE, NONE, NONE);
        of(SIX + "t20;l40;", 3, 0, 40, NONE, NONE, 40, NONE, NONE);
        of(SIX + "t20;l39;", 3, 0, NONE, NONE, NONE, NONE, NONE, NONE);
        // by the lid buyers are alike, so the lower person trades
        of("v50,2;v90,2;c10,2;l45;", 3, 0, 45, NONE, 45);
    }

    private static void bellByThePersonsDraw() {
        for (int z : new int[] {0, 1, 2, 9999}) {
            int buyer = Draw.of(z, 0, 1) % 81;
            of("v80,0;c" + buyer + ",2;n9;", 3, z, buyer, buyer);
            of("v80,0;c" + (buyer + 1) + ",2;n9;", 3, z, NONE, NONE);
            int seller = 20 + Draw.of(z, 1, 1) % 80;
            of("v" + seller + ",2;c20,0;n9;", 3, z, seller, seller);
            of("v" + (seller - 1) + ",2;c20,0;n9;", 3, z, NONE, NONE);
            String last = "v99,2;".repeat(10) + "c99,2;".repeat(9) + "c0,5;t1;l98;";
            int told = Draw.of(z, 19, 1) % 100;
            due.is("the person 19 at z " + z, Due.laid(last).of(3, z, 19), told > 97 ? NONE : 98);
        }
        of("v80,4;c50,2;", 3, 0, 50, 50);
        of("v80,4;c51,2;", 3, 0, NONE, NONE);
        of("v80,4;c51,2;h60;", 3, 0, 51, 51);
        of("v99,2;c20,4;", 3, 0, 50, 50);
        of("v99,2;c20,4;h26;", 3, 0, 27, 27);
    }

    /** STEP N less 1, so who is PATIENT tells the truth, and who is FEARFUL from N 4 on. */
    private static void bellAtTheLastStep() {
        for (int n : new int[] {1, 2, 3, 60, 200}) {
            of("v80,2;c80,2;n" + n + ";", 3, 7, 80, 80);
            ShoutedPrices x = Due.laid("v80,2;c20,2;n" + n + ";");
            due.is("soon of n" + n, x.round(3, 7, 2), 1);
        }
        of("v80,3;c80,3;n3;", 3, 7, NONE, NONE);
        of("v80,3;c80,3;n4;", 3, 7, 80, 80);
        of("v80,3;c80,3;n200;", 3, 7, 80, 80);
        of("v80,1;c80,1;n200;", 3, 7, NONE, NONE);
    }
}
