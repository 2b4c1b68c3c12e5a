/** Promise 22, keep: KEPT (LAWS, the LOG: 2 at most): how many. FULL. */
public final class Promise22KeepTest {
    private static final Due due = new Due("Promise22KeepTest");

    public static void main(String[] args) {
        twoAtMost();
        full();
        fullIsFullOfTwo();
        roomAgain();
        keepsOfTheNewObject();
        allElseStays();
        due.end();
    }

    private static void twoAtMost() {
        ShoutedPrices x = new ShoutedPrices();
        due.is("the first", x.keep(), 1);
        due.is("the second", x.keep(), 2);
        due.is("the third", x.keep(), ShoutedPrices.FULL);
        due.is("once more", x.keep(), ShoutedPrices.FULL);
        due.is("kept", x.count(5), 2);
    }

    private static void full() {
        due.changesNothing("keep when full", Whole::full, ShoutedPrices::keep, ShoutedPrices.FULL);
        due.changesNothing("keep twice when full", () -> {
            ShoutedPrices x = Whole.full();
            x.keep();
            return x;
        }, ShoutedPrices::keep, ShoutedPrices.FULL);
    }

    /** What is refused is not kept: neither of the two is changed by it. */
    private static void fullIsFullOfTwo() {
        ShoutedPrices x = Due.laid("v80,2;c20,2;n2;");
        x.law(0, 1);
        x.keep();
        x.law(0, 3);
        x.keep();
        x.law(0, 5);
        due.is("keep", x.keep(), ShoutedPrices.FULL);
        due.is("the law is as it is", x.person(0, 2), 5);
        due.is("back", x.back(), 1);
        due.is("the second one's law", x.person(0, 2), 3);
        due.is("back", x.back(), 0);
        due.is("the first one's law", x.person(0, 2), 1);
    }

    private static void roomAgain() {
        ShoutedPrices x = Whole.full();
        x.back();
        due.is("behind back", x.keep(), 2);
        due.is("full again", x.keep(), ShoutedPrices.FULL);
        due.is("lay", x.lay(), 6);
        due.is("behind lay", x.keep(), 1);
        due.is("two", x.keep(), 2);
        due.is("full again", x.keep(), ShoutedPrices.FULL);
    }

    /** An empty log is kept, too, and one of 200 shouts. */
    private static void keepsOfTheNewObject() {
        ShoutedPrices x = Due.laid("v5,0;v6,1;c50,0;c60,1;n200;");
        x.keep();
        x.round(0, 77, 0);
        x.keep();
        x.round(0, 78, 0);
        due.is("back", x.back(), 1);
        due.is("200 shouts", x.count(4), 200);
        for (int i = 0; i < 100; i++) {
            due.is("a shout", x.shout(2 * i, 0), Draw.of(77, 2 * i, 0) % 4);
            due.is("a shout", x.shout(2 * i + 1, 0), Draw.of(77, 2 * i + 1, 0) % 4);
        }
        due.is("the last one's step", x.shout(199, 2), 199);
        due.is("back", x.back(), 0);
        due.is("no shouts", x.count(4), 0);
    }

    private static void allElseStays() {
        ShoutedPrices x = Due.laid("v80,2;c20,3;n2;");
        x.round(0, Draw.order(2, 1, 0), 0);
        x.keep();
        due.is("the law", x.person(0, 2), 2);
        due.is("the shouts", x.count(4), 2);
        due.is("the text", x.count(3), 15);
        // what is kept is not what is changed behind it
        x.law(1, 0);
        x.round(0, Draw.order(2, 0, 0), 0);
        x.back();
        due.is("the law as kept", x.person(1, 2), 3);
        due.is("the shout as kept", x.shout(0, 0), 1);
    }
}
