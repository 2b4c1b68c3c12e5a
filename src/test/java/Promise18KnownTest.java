/** Promise 18, known: a BUYER's WORTH is its highest bid or more, a SELLER's COST its lowest offer or less. BAD. */
public final class Promise18KnownTest {
    private static final Due due = new Due("Promise18KnownTest");

    public static void main(String[] args) {
        withoutAShout();
        theHighestBid();
        theLowestOffer();
        leastAndGreatest();
        whatIsShoutedCounts();
        byTheLogAlone();
        bad();
        due.end();
    }

    private static ShoutedPrices shouted(String text, int people, int... order) {
        ShoutedPrices x = Due.laid(text + "n" + order.length + ";");
        x.round(0, Draw.order(people, order), 0);
        return x;
    }

    private static void withoutAShout() {
        ShoutedPrices x = new ShoutedPrices();
        due.is("a buyer", x.known(0), 0);
        due.is("a seller", x.known(1), 99);
        // another one shouts
        x = shouted("v80,2;c20,2;", 2, 1, 1);
        due.is("a silent buyer", x.known(0), 0);
        x = shouted("v80,2;c20,2;", 2, 0, 0);
        due.is("a silent seller", x.known(1), 99);
        // above the lid nothing is offered
        x = shouted("v80,2;c20,2;l19;", 2, 1, 1);
        due.is("a seller who is not heard", x.known(1), 99);
    }

    private static void theHighestBid() {
        ShoutedPrices x = shouted("v80,2;c99,2;", 2, 0, 0);
        due.is("40, then 80", x.known(0), 80);
        // BLIND bids rise and fall
        x = Due.laid("v99,0;c99,0;t1;n6;");
        for (int z = 0; z < 30; z++) {
            x.round(0, z, 0);
            int most = 0;
            for (int t = 0; t < 6; t++) {
                most = Draw.of(z, t, 0) % 2 == 0 ? Math.max(most, Draw.of(z, t, 1) % 100) : most;
            }
            due.is("the highest bid at z " + z, x.known(0), most);
        }
    }

    private static void theLowestOffer() {
        ShoutedPrices x = shouted("v0,2;c20,2;", 2, 1, 1);
        due.is("60, then 20", x.known(1), 20);
        x = Due.laid("v0,0;c1,0;n6;");
        for (int z = 0; z < 30; z++) {
            x.round(0, z, 0);
            int least = 99;
            for (int t = 0; t < 6; t++) {
                least = Draw.of(z, t, 0) % 2 == 1 ? Math.min(least, 1 + Draw.of(z, t, 1) % 99) : least;
            }
            due.is("the lowest offer at z " + z, x.known(1), least);
        }
    }

    private static void leastAndGreatest() {
        ShoutedPrices x = shouted("v0,2;c99,2;", 2, 0, 0);
        due.is("a bid of 0", x.known(0), 0);
        x = shouted("v0,2;c99,2;", 2, 1, 1);
        due.is("an offer of 99", x.known(1), 99);
        x = shouted("v99,2;c0,2;t50;l60;", 2, 1, 1);
        due.is("an offer of 0", x.known(1), 0);
        x = shouted("v99,2;c0,2;", 2, 0, 0);
        due.is("a bid of 99", x.known(0), 99);
        x = Due.laid("v1,0;".repeat(10) + "c99,0;".repeat(10));
        due.is("the last of twenty", x.known(19), 99);
        due.is("known(20)", x.known(20), ShoutedPrices.BAD);
    }

    /** A bid is cut by the LID, a WRONG one is taken at its word. */
    private static void whatIsShoutedCounts() {
        ShoutedPrices x = shouted("v80,2;c20,2;l70;", 2, 0, 0);
        due.is("a bid of the lid", x.known(0), 70);
        int z = Draw.order(i -> Draw.of(i, 0, 1) % 100 == 62, 2, 0);
        x = Due.laid("v0,5;c99,0;n1;");
        x.round(0, z, 0);
        due.is("a bid above the worth", x.known(0), 62);
    }

    private static void byTheLogAlone() {
        ShoutedPrices x = shouted("v80,2;c20,2;", 2, 1, 0);
        due.is("a bid", x.known(0), 80);
        due.is("an offer", x.known(1), 60);
        x.law(0, 5);
        x.round(1, 0, 0);
        x.means(0, 0, 0);
        due.is("whatever the laws are", x.known(0), 80);
        x.keep();
        x.round(0, Draw.order(2, 1, 1), 0);
        due.is("silent now", x.known(0), 0);
        due.is("lower now", x.known(1), 20);
        x.back();
        due.is("the log before", x.known(1), 60);
        x.lay();
        due.is("nothing behind lay", x.known(1), 99);
    }

    private static void bad() {
        for (int p : new int[] {-1, 6, 7, 19, 20, Integer.MIN_VALUE, Integer.MAX_VALUE}) {
            due.changesNothing("known(" + p + ")", Whole::used, x -> x.known(p), ShoutedPrices.BAD);
        }
        due.is("known(2) of a new object", new ShoutedPrices().known(2), ShoutedPrices.BAD);
    }
}
