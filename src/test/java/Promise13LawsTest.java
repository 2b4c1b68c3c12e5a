/** Promise 13: a PERSON's LAW at STEP t: what a BUYER bids, what a SELLER offers. */
public final class Promise13LawsTest {
    private static final Due due = new Due("Promise13LawsTest");
    private static final int NONE = ShoutedPrices.NONE;
    private static final int[] CARDS = {0, 1, 49, 50, 51, 98, 99};

    public static void main(String[] args) {
        blind();
        nearWithoutLast();
        nearALowLast();
        nearAHighLast();
        patient();
        fearful();
        fearfulNearLast();
        holder();
        wrong();
        bidsByTheLid();
        offersByTheLid();
        everyStep();
        due.end();
    }

    private interface Law {
        int tells(int draw, int step);
    }

    /** A PERSON alone is heard, by RULE 0 at all its STEPS; the law's price beside each shout. */
    private static int alone(String person, int steps, Law law) {
        boolean buys = person.charAt(0) == 'v';
        // who is beside it never trades: a seller of 99 with the tax is above the lid, a buyer bids 0 below the tax
        String other = buys ? "c99,0;t1;" : "v0,0;t1;l99;";
        ShoutedPrices x = Due.laid(person + other + "n" + steps + ";");
        int seen = 0;
        for (int z = 0; z < 12; z++) {
            x.round(0, z, 0);
            int shouts = Math.min(x.count(4), 10);
            for (int i = 0; i < shouts; i++) {
                if (x.shout(i, 0) == 0) {
                    int step = x.shout(i, 2);
                    due.is(person + " at z " + z + " step " + step, x.shout(i, 1), law.tells(Draw.of(z, step, 1), step));
                    seen++;
                }
            }
        }
        return seen;
    }

    private static void blind() {
        for (int card : CARDS) {
            due.holds("bids", alone("v" + card + ",0;", 30, (draw, t) -> draw % (card + 1)) > 20);
            Law offers = (draw, t) -> card + draw % (100 - card);
            due.holds("offers", card > 97 || alone("c" + card + ",0;x7;h3;", 30, offers) > 20);
        }
        // 99 with a tax of 1 is above the lid
        ShoutedPrices x = Due.laid("c99,0;v0,0;t1;n200;");
        x.round(0, 3, 0);
        due.is("what is known of who is not heard", x.laws(0), 63);
        due.is("an offer of 99 without a tax", first("c99,0;v0,0;n1;", 3), 99);
        due.is("a bid at a worth of 0", first("v0,0;c99,0;n1;", 3), 0);
    }

    /** What the PERSON 0 shouts at z, whose first STEP is its own. */
    private static int first(String text, int z) {
        ShoutedPrices x = Due.laid(text);
        x.round(0, z, 0);
        return x.count(4) > 0 && x.shout(0, 0) == 0 ? x.shout(0, 1) : NONE;
    }

    private static void nearWithoutLast() {
        for (int law : new int[] {1, 3}) {
            for (int card : new int[] {0, 1, 50, 99}) {
                alone("v" + card + "," + law + ";x0;", 200, (draw, t) -> t >= 150 ? card : draw % (card + 1));
            }
            alone("c40," + law + ";x0;", 200, (draw, t) -> t >= 150 ? 40 : 40 + draw % 60);
        }
    }

    /** At STEP 0 the PERSON 0 bids as much as LAST shall be, at STEP 1 a WRONG seller takes it, then the third tells. */
    private static void nearALowLast() {
        for (int last : new int[] {0, 1, 4, 5, 6, 33}) {
            String two = "v" + 3 * last + ",2;c0,5;";
            near(two + "v99,1;", last, 5, 0, 99);
            near(two + "v99,1;", last, 50, 0, 99);
            near(two + "v99,1;", last, 0, 0, 99);
            near(two + "v3,1;", last, 5, 0, 3);
            near(two + "v0,1;", last, 5, 0, 0);
            near(two + "c0,1;", last, 5, 0, 99);
            near(two + "c3,1;", last, 5, 3, 99);
            near(two + "c99,1;", last, 5, 99, 99);
        }
    }

    /** At STEP 0 the PERSON 0 offers as much as LAST shall be, at STEP 1 a WRONG buyer takes it. */
    private static void nearAHighLast() {
        for (int last : new int[] {99, 98, 95, 94, 93, 66}) {
            String two = "c" + (99 - 3 * (99 - last)) + ",2;v99,5;";
            near(two + "v99,1;", last, 5, 0, 99);
            near(two + "v99,1;", last, 50, 0, 99);
            near(two + "v99,1;", last, 0, 0, 99);
            near(two + "v96,1;", last, 5, 0, 96);
            near(two + "c0,1;", last, 5, 0, 99);
            near(two + "c96,1;", last, 5, 96, 99);
        }
    }

    private static void near(String three, int last, int near, int atLeast, int atMost) {
        int seen = 0;
        for (int z = 0; z <= 9999 && seen < 12; z++) {
            int taken = Draw.of(z, 1, 1) % 100;
            boolean trades = three.charAt(0) == 'v' ? taken <= last : taken >= last;
            if (trades && Draw.isInOrder(z, 3, 0, 1, 2)) {
                ShoutedPrices x = Due.laid(three + "n3;x" + near + ";");
                x.round(0, z, 0);
                due.is(three + " LAST", x.shout(2, 3), last);
                int price = Math.min(99, Math.max(0, last - near + Draw.of(z, 2, 1) % (2 * near + 1)));
                price = Math.min(atMost, Math.max(atLeast, price));
                due.is(three + " near " + near + " at z " + z, x.shout(2, 1), price);
                seen++;
            }
        }
        due.holds(three + " was near " + last, seen > 0);
    }

    /** Cut, and the CARD at the last STEP. */
    private static void patient() {
        for (int steps : new int[] {1, 2, 3, 7, 199, 200}) {
            for (int card : CARDS) {
                alone("v" + card + ",2;", steps, (draw, t) -> card * (t + 1) / steps);
            }
            alone("c7,2;", steps, (draw, t) -> 99 - 92 * (t + 1) / steps);
        }
        for (int card : CARDS) {
            due.is("the only step", first("v" + card + ",2;c99,0;t1;n1;", 3), card);
            due.is("the only step", first("c" + card + ",2;v0,0;n1;", 3), card);
            due.is("the first of 200", first("v" + card + ",2;c99,0;t1;n200;", 3), 0);
            due.is("the first of 200", first("c" + card + ",2;v0,0;n200;", 3), 99);
        }
        due.is("a half is cut", first("v99,2;c99,0;t1;n2;", 3), 49);
        due.is("a half is cut, then taken from 99", first("c0,2;v0,0;n2;", 3), 50);
        due.is("a third of 98 is cut", first("v98,2;c99,0;t1;n3;", 3), 32);
        due.is("a third of 98 is cut, then taken from 99", first("c1,2;v0,0;n3;", 3), 67);
    }

    /** In the last quarter, 4 t is 3 N or more. */
    private static void fearful() {
        for (int steps = 1; steps <= 12; steps++) {
            int n = steps;
            alone("v99,3;", n, (draw, t) -> 4 * t >= 3 * n ? 99 : draw % 100);
            alone("c1,3;", n, (draw, t) -> 4 * t >= 3 * n ? 1 : 1 + draw % 99);
        }
        int[][] soon = {{1, 0}, {2, 0}, {3, 0}, {4, 4}, {5, 5}, {6, 6}, {7, 7}, {8, 7}, {9, 8}, {12, 10}, {197, 149},
            {198, 150}, {199, 151}, {200, 151}};
        for (int[] row : soon) {
            // of like cards they trade when they tell their cards, which draws do not make them here
            ShoutedPrices x = Due.laid("v80,3;c80,3;n" + row[0] + ";");
            due.is("soon of n" + row[0], x.round(1, 7, 2), row[1]);
        }
    }

    private static void fearfulNearLast() {
        for (int last : new int[] {0, 5, 33}) {
            String two = "v" + 3 * last + ",2;c0,5;";
            // of three steps none is of the last quarter
            near(two + "v99,3;", last, 5, 0, 99);
            near(two + "c3,3;", last, 5, 3, 99);
        }
        // of four steps the fourth is: 96 by 4 is bid, then taken, the third waits
        for (int z = 0; z <= 9999; z++) {
            boolean inOrder = Draw.of(z, 0, 0) % 3 == 0 && Draw.of(z, 1, 0) % 3 == 1 && Draw.of(z, 3, 0) % 3 == 2;
            if (inOrder && Draw.of(z, 1, 1) % 100 <= 24) {
                ShoutedPrices x = Due.laid("v96,2;c0,5;v77,3;n4;x0;");
                x.round(0, z, 0);
                int i = x.count(4) - 1;
                due.is("LAST", x.shout(i, 3), 24);
                due.is("the step", x.shout(i, 2), 3);
                due.is("the worth in the last quarter", x.shout(i, 1), 77);
                due.is("near LAST before it", x.shout(2, 1), x.count(4) == 4 ? 24 : 77);
            }
        }
    }

    private static void holder() {
        for (int h : new int[] {0, 1, 30, 50, 98, 99}) {
            for (int card : CARDS) {
                alone("v" + card + ",4;h" + h + ";", 30, (draw, t) -> Math.min(h, draw % (card + 1)));
            }
            if (h < 99) {
                alone("c40,4;l99;h" + h + ";", 30, (draw, t) -> Math.max(h, 40 + draw % 60));
            }
        }
    }

    private static void wrong() {
        for (int card : new int[] {0, 50, 99}) {
            due.holds("bids", alone("v" + card + ",5;", 30, (draw, t) -> draw % 100) > 20);
            alone("c" + card + ",5;", 30, (draw, t) -> draw % 100);
        }
        // both ends come up
        int least = 99, most = 0;
        for (int z = 0; z < 9999 && (least > 0 || most < 99); z++) {
            if (Draw.of(z, 0, 0) % 2 == 0) {
                int price = first("v50,5;c99,0;t50;n1;", z);
                least = Math.min(least, price);
                most = Math.max(most, price);
            }
        }
        due.is("the least", least, 0);
        due.is("the most", most, 99);
    }

    /** z 3: DRAW(0, 0) is 44670, so the PERSON 0 shouts; DRAW(0, 1) is 362. */
    private static void bidsByTheLid() {
        for (String law : new String[] {"0", "1", "3", "4;h99", "5"}) {
            due.is("a bid at the lid", first("v99," + law + ";c99,0;t1;n1;l62;", 3), 62);
            due.is("a bid above the lid", first("v99," + law + ";c99,0;t1;n1;l61;", 3), 61);
            due.is("a bid below the lid", first("v99," + law + ";c99,0;t1;n1;l63;", 3), 62);
            due.is("a bid above a lid of 0", first("v99," + law + ";c99,0;t1;n1;l0;", 3), 0);
        }
        due.is("a patient bid above the lid", first("v70,2;c99,0;t1;n1;l69;", 3), 69);
        due.is("a patient bid at the lid", first("v70,2;c99,0;t1;n1;l70;", 3), 70);
        // the tax is not asked: the bid is what is paid
        due.is("a bid at the lid with a tax", first("v99,0;c99,0;t50;n1;l62;", 3), 62);
    }

    private static void offersByTheLid() {
        for (String law : new String[] {"0", "1", "3", "4;h0", "5"}) {
            due.is("an offer at the lid", first("c0," + law + ";v0,0;n1;l62;", 3), 62);
            due.is("an offer above the lid", first("c0," + law + ";v0,0;n1;l61;", 3), NONE);
            due.is("an offer and the tax at the lid", first("c0," + law + ";v0,0;n1;t30;l92;", 3), 62);
            due.is("an offer and the tax above the lid", first("c0," + law + ";v0,0;n1;t31;l92;", 3), NONE);
            due.is("at 99 without a lid", first("c0," + law + ";v0,0;n1;t37;", 3), 62);
            due.is("above 99 without a lid", first("c0," + law + ";v0,0;n1;t38;", 3), NONE);
        }
        due.is("a patient offer at the lid", first("c20,2;v0,0;n1;t5;l25;", 3), 20);
        due.is("a patient offer above the lid", first("c20,2;v0,0;n1;t5;l24;", 3), NONE);
        due.is("an offer of 0 at a lid of 0", first("c0,2;v0,0;n1;l0;", 3), 0);
    }

    /** All STEPS from 0 to 199 at the ends of z: who shouts, and what. */
    private static void everyStep() {
        for (int z : new int[] {0, 1, 9998, 9999}) {
            for (int what = 0; what <= 2; what++) {
                // the seller, PERSON 10, is not heard
                ShoutedPrices x = Due.laid("v0,5;".repeat(10) + "c99,0;t50;n200;");
                x.round(0, z, 0);
                int i = 0;
                for (int t = 0; t < 200; t++) {
                    int person = Draw.of(z, t, 0) % 11;
                    if (person < 10) {
                        int answer = what == 0 ? person : what == 1 ? Draw.of(z, t, 1) % 100 : t;
                        due.is("shout " + i + " at z " + z, x.shout(i, what), answer);
                        i++;
                    }
                }
                due.is("shouts at z " + z, x.count(4), i);
            }
        }
    }
}
