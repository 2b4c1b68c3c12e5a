/** Promise 23, back: as KEPT last (it is KEPT no more then): how many are left. NO. */
public final class Promise23BackTest {
    private static final Due due = new Due("Promise23BackTest");

    public static void main(String[] args) {
        no();
        noBehindLay();
        theLastOneFirst();
        keptNoMore();
        lawsOfAllPeople();
        theLog();
        textAndRoomStay();
        due.end();
    }

    private static void no() {
        due.changesNothing("back of a new object", ShoutedPrices::new, ShoutedPrices::back, ShoutedPrices.NO);
        due.changesNothing("back, nothing left", () -> {
            ShoutedPrices x = Whole.full();
            x.back();
            x.back();
            x.law(2, 1);
            x.round(0, 77, 0);
            return x;
        }, ShoutedPrices::back, ShoutedPrices.NO);
    }

    private static void noBehindLay() {
        ShoutedPrices x = Whole.full();
        due.is("lay", x.lay(), 6);
        due.is("back", x.back(), ShoutedPrices.NO);
        x = Whole.full();
        x.wipe();
        due.is("lay of no text", x.lay(), ShoutedPrices.NO);
        due.is("back all the same", x.back(), 1);
    }

    private static void theLastOneFirst() {
        ShoutedPrices x = new ShoutedPrices();
        x.law(0, 1);
        x.keep();
        x.law(0, 2);
        x.keep();
        x.law(0, 3);
        due.is("back", x.back(), 1);
        due.is("the last one's", x.person(0, 2), 2);
        due.is("back", x.back(), 0);
        due.is("the first one's", x.person(0, 2), 1);
        due.is("back", x.back(), ShoutedPrices.NO);
        due.is("as it is", x.person(0, 2), 1);
    }

    private static void keptNoMore() {
        ShoutedPrices x = new ShoutedPrices();
        x.law(0, 1);
        x.keep();
        x.law(0, 2);
        x.keep();
        x.back();
        due.is("kept", x.count(5), 1);
        x.law(0, 4);
        due.is("keep", x.keep(), 2);
        x.law(0, 5);
        due.is("back", x.back(), 1);
        due.is("what was kept in its place", x.person(0, 2), 4);
        due.is("back", x.back(), 0);
        due.is("the first one", x.person(0, 2), 1);
        due.is("kept", x.count(5), 0);
    }

    private static void lawsOfAllPeople() {
        ShoutedPrices x = Due.laid("v1,1;c99,1;".repeat(10));
        for (int p = 0; p < 20; p++) {
            x.law(p, p % 6);
        }
        x.keep();
        for (int p = 0; p < 20; p++) {
            x.law(p, 5 - p % 6);
        }
        x.back();
        for (int p = 0; p < 20; p++) {
            due.is("the law of " + p, x.person(p, 2), p % 6);
        }
    }

    private static void theLog() {
        ShoutedPrices x = Due.laid("v80,2;c20,2;n2;");
        x.keep();
        x.round(0, Draw.order(2, 1, 1), 0);
        x.keep();
        x.round(0, Draw.order(2, 1, 0), 0);
        due.is("the buyer's bid", x.shout(1, 1), 80);
        due.is("back", x.back(), 1);
        int[] shout = {1, 20, 1, ShoutedPrices.NONE};
        for (int what = 0; what <= 3; what++) {
            due.is("shout(1, " + what + ")", x.shout(1, what), shout[what]);
        }
        due.is("known by it", x.known(0), 0);
        due.is("back", x.back(), 0);
        due.is("no shouts at first", x.count(4), 0);
        due.is("known by none", x.known(1), 99);
        stepAndLast();
    }

    private static void stepAndLast() {
        ShoutedPrices x = Due.laid("v80,2;c20,2;n2;l59;");
        x.round(0, Draw.order(2, 1, 0), 0);
        x.keep();
        x.round(0, Draw.order(2, 0, 0), 0);
        due.is("the first shout's step", x.shout(0, 2), 0);
        x.back();
        due.is("the step as kept", x.shout(0, 2), 1);
        x = Due.laid("v99,2;c0,2;v99,1;n3;x0;");
        x.round(0, Draw.order(3, 0, 1, 2), 0);
        x.keep();
        x.round(0, Draw.order(3, 1, 1, 1), 0);
        x.back();
        due.is("LAST", x.shout(2, 3), 33);
        due.is("its laws", x.laws(2), 1 + 2 + 8 + 16 + 32);
    }

    private static void textAndRoomStay() {
        ShoutedPrices x = Due.laid("v80,2;c20,2;n2;t5;");
        x.keep();
        x.wipe();
        Due.write(x, "v7");
        due.is("back", x.back(), 0);
        due.is("the text is as it is", x.count(3), 2);
        due.is("its fault", x.fault(), 0);
        due.is("the room", x.lines(2), 25);
        due.is("the steps", x.count(6), 2);
    }
}
