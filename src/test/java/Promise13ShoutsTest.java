/** Promise 13, RULE 0, SHOUTS. PEOPLE are PATIENT, so what they shout at a STEP of a few is plain; z makes the order. */
public final class Promise13ShoutsTest {
    private static final Due due = new Due("Promise13ShoutsTest");
    private static final int NONE = ShoutedPrices.NONE;

    public static void main(String[] args) {
        aBidAsHighAsTheOffer();
        anOfferAsLowAsTheBid();
        theBestBidStands();
        theBestOfferStands();
        anOwnWorseBid();
        anOwnWorseOffer();
        aBidOfZeroStands();
        nothingStandsBehindATrade();
        shoutsBehindATradeStand();
        whoHasTradedIsSilent();
        soonByTheShoutThatTakes();
        sidesDoNotTradeWithThemselves();
        lastIsThePriceWithTheTax();
        nothingOfTheRoundBefore();
        due.end();
    }

    /** The price of each PERSON in a round whose STEPS belong to these PEOPLE. */
    private static ShoutedPrices of(String text, int[] order, int... prices) {
        ShoutedPrices x = Due.laid(text + "n" + order.length + ";");
        int z = Draw.order(prices.length, order);
        for (int p = 0; p < prices.length; p++) {
            due.is(text + " of " + p, x.of(0, z, p), prices[p]);
        }
        return x;
    }

    private static int[] order(int... persons) {
        return persons;
    }

    /** 60 is offered, 80 bid: taken at the offer and TAX. */
    private static void aBidAsHighAsTheOffer() {
        of("v80,2;c20,2;", order(1, 0), 60, 60);
        of("v60,2;c20,2;", order(1, 0), 60, 60);
        of("v59,2;c20,2;", order(1, 0), NONE, NONE);
        of("v80,2;c20,2;t19;", order(1, 0), 79, 79);
        of("v80,2;c20,2;t20;", order(1, 0), 80, 80);
        of("v80,2;c20,2;t21;", order(1, 0), NONE, NONE);
        of("v80,2;c20,2;t20;l80;", order(1, 0), 80, 80);
        of("v80,2;c20,2;t20;l79;", order(1, 0), NONE, NONE);
    }

    /** 40 is bid, 20 offered: taken at the bid. */
    private static void anOfferAsLowAsTheBid() {
        of("v80,2;c20,2;", order(0, 1), 40, 40);
        of("v80,2;c40,2;", order(0, 1), 40, 40);
        of("v80,2;c41,2;", order(0, 1), NONE, NONE);
        of("v80,2;c20,2;t20;", order(0, 1), 40, 40);
        of("v80,2;c20,2;t21;", order(0, 1), NONE, NONE);
        of("v80,2;c20,2;t10;l30;", order(0, 1), 30, 30);
        of("v80,2;c20,2;t10;l29;", order(0, 1), NONE, NONE);
    }

    /** 20 is bid, then as much, more, less; then 20 is offered. */
    private static void theBestBidStands() {
        of("v60,2;v30,2;c20,2;", order(0, 1, 2), 20, NONE, 20);
        of("v60,2;v32,2;c20,2;", order(0, 1, 2), NONE, 21, 21);
        of("v60,2;v29,2;c20,2;", order(0, 1, 2), 20, NONE, 20);
        of("v30,2;v60,2;c20,2;", order(1, 0, 2), NONE, 20, 20);
    }

    /** 79 is offered, then as much, less, more; then 79 is bid. */
    private static void theBestOfferStands() {
        of("c39,2;c69,2;v79,2;", order(0, 1, 2), 79, NONE, 79);
        of("c39,2;c67,2;v79,2;", order(0, 1, 2), NONE, 78, 78);
        of("c39,2;c70,2;v79,2;", order(0, 1, 2), 79, NONE, 79);
        of("c69,2;c39,2;v79,2;", order(1, 0, 2), NONE, 79, 79);
    }

    private static void anOwnWorseBid() {
        int seen = 0;
        for (int z = 0; z < 200; z++) {
            int first = Draw.of(z, 0, 1) % 100, second = Draw.of(z, 1, 1) % 100;
            if (Draw.isInOrder(z, 2, 0, 0, 1) && second < first) {
                due.is("the higher bid is paid", Due.laid("v9,5;c" + first + ",2;n3;").of(0, z, 1), first);
                seen++;
            }
        }
        due.holds("own lower bids", seen > 5);
    }

    private static void anOwnWorseOffer() {
        int seen = 0;
        for (int z = 0; z < 200; z++) {
            int first = Draw.of(z, 0, 1) % 100, second = Draw.of(z, 1, 1) % 100;
            if (Draw.isInOrder(z, 2, 1, 1, 0) && second > first) {
                due.is("the lower offer is paid", Due.laid("v" + first + ",2;c9,5;n3;").of(0, z, 0), first);
                seen++;
            }
        }
        due.holds("own higher offers", seen > 5);
    }

    /** A STANDING bid of 0 is one, an offer of 99 too. */
    private static void aBidOfZeroStands() {
        of("v0,2;c0,2;", order(0, 1), 0, 0);
        of("v0,2;v0,2;c0,2;", order(1, 0, 2), NONE, 0, 0);
        of("v99,2;c99,2;", order(1, 0), 99, 99);
        of("c99,2;c99,2;v99,2;", order(1, 0, 2), NONE, 99, 99);
    }

    private static void nothingStandsBehindATrade() {
        // 90 is offered, 30 bid, 30 offered, which takes it; 95 is bid: the offer of 90 stands no more
        of("c63,2;v60,2;c7,2;v95,2;", order(0, 1, 2, 3), NONE, 30, 30, NONE);
        // 31 is offered, which takes nothing: what is best stands when 95 is bid
        of("c63,2;v60,2;c8,2;v95,2;", order(0, 1, 2, 3), NONE, NONE, 31, 31);
        // 20 is bid, 60 offered, 60 bid, which takes it; 10 is offered: the bid of 20 stands no more
        of("v80,2;c21,2;v80,2;c10,2;", order(0, 1, 2, 3), NONE, 60, 60, NONE);
        // 58 is bid, which takes nothing: what is best stands when 10 is offered
        of("v80,2;c20,2;v78,2;c10,2;", order(0, 1, 2, 3), NONE, NONE, 58, 58);
    }

    /** Also what is no better than what stood before: 24 is bid and taken by a WRONG offer, then 74; or 74, then 12. */
    private static void shoutsBehindATradeStand() {
        int z = Draw.order(i -> Draw.of(i, 1, 1) % 100 <= 24, 4, 1, 0, 2, 3);
        ShoutedPrices x = Due.laid("c0,5;v99,2;v99,2;c74,2;n4;");
        int[] prices = {24, 24, 74, 74};
        for (int p = 0; p < 4; p++) {
            due.is("of " + p, x.of(0, z, p), prices[p]);
        }
        due.is("traded", x.round(0, z, 0), 2);
        due.is("wanders", x.round(0, z, 3), 50);
        z = Draw.order(i -> Draw.of(i, 0, 1) % 100 == 74 && Draw.of(i, 1, 1) % 100 <= 74, 4, 1, 0, 2, 3);
        x = Due.laid("c0,5;v9,5;v16,2;c12,2;n4;");
        prices = new int[] {74, 74, 12, 12};
        for (int p = 0; p < 4; p++) {
            due.is("of " + p, x.of(0, z, p), prices[p]);
        }
    }

    /** 24 is bid, 50 offered, 74 bid: taken; the seller's last STEP is without a shout, and so are the buyer's. */
    private static void whoHasTradedIsSilent() {
        ShoutedPrices x = of("v99,2;c0,2;", order(0, 1, 0, 1), 50, 50);
        due.is("shouts", x.count(4), 3);
        due.is("the last one's step", x.shout(2, 2), 2);
        x = of("v99,2;c0,2;", order(0, 1, 0, 0), 50, 50);
        due.is("shouts", x.count(4), 3);
        due.is("the fourth shout", x.shout(3, 0), ShoutedPrices.BAD);
    }

    /** SOON is the STEP of what took the STANDING one, be it a bid or an offer, and 1. */
    private static void soonByTheShoutThatTakes() {
        due.is("an offer takes", Due.laid("v80,2;c20,2;n2;").round(0, Draw.order(2, 0, 1), 2), 2);
        due.is("a bid takes", Due.laid("v80,2;c20,2;n2;").round(0, Draw.order(2, 1, 0), 2), 2);
        due.is("an offer takes at the third", Due.laid("v60,2;v30,2;c20,2;n3;").round(0, Draw.order(3, 0, 1, 2), 2), 3);
        due.is("a bid takes at the third of four", Due.laid("v99,2;c0,2;n4;").round(0, Draw.order(2, 0, 1, 0, 1), 2), 3);
    }

    private static void sidesDoNotTradeWithThemselves() {
        of("v60,2;v0,2;c99,2;", order(0, 1, 0), NONE, NONE, NONE);
        of("c60,2;c99,2;v0,2;", order(0, 1, 0), NONE, NONE, NONE);
        of("v60,2;c99,2;", order(0, 0, 0), NONE, NONE);
    }

    /** 50 is offered and with a TAX of 20 taken by a bid of 74: LAST is 70, for a seller as for a buyer. */
    private static void lastIsThePriceWithTheTax() {
        for (String third : new String[] {"v99,1;", "c0,1;"}) {
            ShoutedPrices x = of("c0,2;v99,2;" + third + "x0;t20;", order(0, 0, 1, 2), 70, 70, NONE);
            due.is("no LAST before", x.shout(2, 3), NONE);
            due.is("LAST", x.shout(3, 3), 70);
            due.is("what is near it", x.shout(3, 1), 70);
        }
        // 49 is bid at the second of four steps and taken by an offer of 25 at the third
        ShoutedPrices x = of("c0,2;v99,2;v99,1;x0;t20;", order(1, 1, 0, 2), 49, 49, NONE);
        due.is("LAST", x.shout(3, 3), 49);
        due.is("what is near it", x.shout(3, 1), 49);
    }

    /** No STANDING bid, no STANDING offer, no LAST, nobody who has traded. */
    private static void nothingOfTheRoundBefore() {
        ShoutedPrices x = Due.laid("v80,2;c20,2;n2;");
        int bids = Draw.order(2, 0, 0), offers = Draw.order(2, 1, 1), both = Draw.order(2, 1, 0);
        for (int[] rounds : new int[][] {{bids, offers}, {offers, bids}, {both, offers}, {both, bids}}) {
            x.round(0, rounds[0], 0);
            due.is("traded", x.round(0, rounds[1], 0), 0);
            due.is("shouts", x.count(4), 2);
            due.is("LAST", x.shout(0, 3), NONE);
        }
        x.round(0, both, 0);
        due.is("traded again", x.round(0, both, 0), 1);
        // who is NEAR is BLIND at first
        x = Due.laid("v99,1;c0,2;n3;x0;");
        int z = Draw.order(2, 0, 1, 0);
        x.round(0, Draw.order(2, 1, 0, 0), 0);
        x.round(0, z, 0);
        due.is("the first bid", x.shout(0, 1), Draw.of(z, 0, 1) % 100);
    }
}
