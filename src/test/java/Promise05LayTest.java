/** Promise 5, lay: LAID: how many PEOPLE; the LOG is empty, nothing KEPT (THE TEXT stays). NO. */
public final class Promise05LayTest {
    private static final Due due = new Due("Promise05LayTest");
    /** WORTH 99 bids 33 at step 0 of 3, COST 0 offers 33 at step 1: LAST is 33 at step 2, when the third bids. */
    private static final String THREE = "v99,2;c0,2;v99,1;n3;";

    public static void main(String[] args) {
        howMany();
        aBuyerAndASeller();
        refused();
        logAndKept();
        theTextStays();
        steps();
        tax();
        lid();
        near();
        holders();
        nothingOfTheRoomBefore();
        due.end();
    }

    private static void howMany() {
        for (int each = 1; each <= 10; each++) {
            ShoutedPrices x = new ShoutedPrices();
            due.is("lay " + each + " of each", Due.lay(x, "v1,1;c22,1;".repeat(each)), 2 * each);
            due.is("people", x.count(0), 2 * each);
            due.is("one side", Due.lay(x, "n7;c9,0;" + "v0,0;".repeat(each)), each + 1);
        }
    }

    /** No fault, but no room either. */
    private static void aBuyerAndASeller() {
        for (String text : new String[] {"", "n5;", "v5,0;", "c5,0;", "v5,0;v9,5;n3;", "c5,0;l9;c9,5;", "v1,1;".repeat(10),
            "c1,1;".repeat(10)}) {
            due.is("fault of " + text, Due.fault(text), ShoutedPrices.NONE);
            due.is("lay " + text, Due.lay(new ShoutedPrices(), text), ShoutedPrices.NO);
        }
        due.is("lay c0,0;v0,0;", Due.lay(new ShoutedPrices(), "c0,0;v0,0;"), 2);
    }

    private static void refused() {
        for (String text : new String[] {"", "v5,0;", "c5,0;n9;", "v8,0;c7,0;n9;t", "v8,0;c7,6;", "v8,0;c7,0;n0;",
            "v1,1;".repeat(11) + "c1,1;"}) {
            due.changesNothing("lay " + text, () -> withText(text), ShoutedPrices::lay, ShoutedPrices.NO);
        }
        due.changesNothing("lay of no text", ShoutedPrices::new, ShoutedPrices::lay, ShoutedPrices.NO);
    }

    private static ShoutedPrices withText(String text) {
        ShoutedPrices x = Whole.used();
        x.wipe();
        Due.write(x, text);
        return x;
    }

    private static void logAndKept() {
        ShoutedPrices x = Due.laid("v80,2;c20,2;n2;");
        x.round(0, 1, 0);
        x.keep();
        x.keep();
        x.law(0, 5);
        due.is("lay again", x.lay(), 2);
        due.is("no shouts", x.count(4), 0);
        due.is("the first shout", x.shout(0, 0), ShoutedPrices.BAD);
        due.is("nothing kept", x.count(5), 0);
        due.is("nothing to go back to", x.back(), ShoutedPrices.NO);
        due.is("the law as told", x.person(0, 2), 2);
        due.is("what is known", x.known(0), 0);
        due.is("keep", x.keep(), 1);
    }

    private static void theTextStays() {
        ShoutedPrices x = Due.laid("v80,2;c20,2;n2;");
        due.is("bytes", x.count(3), 15);
        Due.write(x, "c9,1;");
        due.is("lay with one more", x.lay(), 3);
        due.is("bytes", x.count(3), 20);
        Due.write(x, "c9,6;");
        due.is("a fault", x.lay(), ShoutedPrices.NO);
        due.is("bytes", x.count(3), 25);
        due.is("its place", x.fault(), 20);
    }

    private static void steps() {
        int[][] rows = {{1, 1}, {200, 200}, {60, 60}, {7, 7}};
        for (int[] row : rows) {
            due.is("n" + row[0], Due.laid("v80,2;n" + row[0] + ";c20,2;").count(6), row[1]);
        }
        due.is("without", Due.laid("v80,2;c20,2;").count(6), 60);
        due.is("the last one", Due.laid("n3;v80,2;n200;c20,2;n1;").count(6), 1);
        due.is("the last one, as without", Due.laid("n3;v80,2;c20,2;n60;").count(6), 60);
        // who is alone to shout does so at each step
        ShoutedPrices x = Due.laid("v0,0;c99,0;t50;n200;");
        x.round(0, 5, 0);
        due.is("a step beyond the last", x.shout(x.count(4) - 1, 2) < 200 ? 0 : 1, 0);
    }

    private static void tax() {
        due.is("without", Due.laid("v99,0;c0,0;").lines(2), 0);
        due.is("t0", Due.laid("v99,0;c0,0;t0;").lines(2), 0);
        due.is("t1", Due.laid("v99,0;c0,0;t1;").lines(2), 1);
        due.is("t50", Due.laid("t50;v99,0;c0,0;").lines(2), 50);
        due.is("the last one", Due.laid("t50;v99,0;t7;c0,0;t9;").lines(2), 9);
        due.is("the last one, none", Due.laid("t50;v99,0;c0,0;t0;").lines(2), 0);
    }

    /** By the bell, the price is the buyer's worth or the lid, if the seller offers at all. */
    private static void lid() {
        due.is("without", heard(""), 99);
        due.is("l99", heard("l99;"), 99);
        due.is("l98", heard("l98;"), ShoutedPrices.NONE);
        due.is("l0", heard("l0;"), ShoutedPrices.NONE);
        due.is("the last one", heard("l0;l5;l99;"), 99);
        due.is("the last one, lower", heard("l99;l98;"), ShoutedPrices.NONE);
        due.is("l0, for nothing", Due.laid("v99,2;c0,2;n1;l0;").of(3, 0, 1), 0);
        due.is("a bid of the lid", bid(""), 99);
        due.is("a bid of l99", bid("l99;"), 99);
        due.is("a bid of l98", bid("l98;"), 98);
        due.is("a bid of l0", bid("l0;"), 0);
        due.is("a bid of the last one", bid("l0;l7;"), 7);
    }

    private static int heard(String lid) {
        return Due.laid("v99,2;c99,2;n1;" + lid).of(3, 0, 1);
    }

    private static int bid(String lid) {
        ShoutedPrices x = Due.laid("v99,2;c99,2;n1;" + lid);
        x.round(0, Draw.order(2, 0), 0);
        return x.shout(0, 1);
    }

    private static void near() {
        near("", 5);
        near("x5;", 5);
        near("x0;", 0);
        near("x1;", 1);
        near("x50;", 50);
        near("x50;x3;", 3);
        near("x50;x0;x5;", 5);
    }

    private static void near(String item, int near) {
        int seen = 0;
        for (int z = 0; z < 2000 && seen < 20; z++) {
            if (Draw.isInOrder(z, 3, 0, 1, 2)) {
                ShoutedPrices x = Due.laid(THREE + item);
                x.round(0, z, 0);
                due.is("the last price", x.shout(2, 3), 33);
                int price = Math.min(99, Math.max(0, 33 - near + Draw.of(z, 2, 1) % (2 * near + 1)));
                due.is("near '" + item + "' at z " + z, x.shout(2, 1), price);
                seen++;
            }
        }
        due.is("shouts that were near", seen, 20);
    }

    private static void holders() {
        holders("", 50);
        holders("h50;", 50);
        holders("h0;", 0);
        holders("h99;", 99);
        holders("h98;", 98);
        holders("h99;h0;h20;", 20);
    }

    private static void holders(String item, int wanted) {
        ShoutedPrices x = Due.laid("v99,4;c0,4;n1;" + item);
        for (int z = 0; z < 100; z++) {
            x.round(0, z, 0);
            int blind = Draw.of(z, 0, 1) % 100;
            int price = Draw.of(z, 0, 0) % 2 == 0 ? Math.min(blind, wanted) : Math.max(blind, wanted);
            due.is("a holder '" + item + "' at z " + z, x.shout(0, 1), price);
        }
    }

    private static void nothingOfTheRoomBefore() {
        ShoutedPrices x = Whole.full();
        due.is("lay", Due.lay(x, "v9,0;c1,0;"), 2);
        x.wipe();
        due.holds("as a new object", Whole.of(x).equals(Whole.of(new ShoutedPrices())));
        // nor of a text that was not laid, or laid before that one
        for (String before : new String[] {"v8,1;", "v8,1;c0,4;", "v8,1;v8,1;c0,4;v7,3;"}) {
            x = new ShoutedPrices();
            for (int i = 0; i < 3; i++) {
                Due.lay(x, "n7;t9;l30;x1;h2;" + before);
                x.fault();
            }
            due.is("lay", Due.lay(x, "v9,0;c1,0;"), 2);
            x.wipe();
            due.holds("as a new object behind " + before, Whole.of(x).equals(Whole.of(new ShoutedPrices())));
        }
    }
}
