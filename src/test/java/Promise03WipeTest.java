/** Promise 3, wipe: THE TEXT is empty: how long it was. */
public final class Promise03WipeTest {
    private static final Due due = new Due("Promise03WipeTest");

    public static void main(String[] args) {
        howLongItWas();
        emptyThen();
        allElseStays();
        due.end();
    }

    private static void howLongItWas() {
        ShoutedPrices x = new ShoutedPrices();
        due.is("wipe nothing", x.wipe(), 0);
        for (int size : new int[] {1, 8, 9, 299, 300}) {
            Due.write(x, "v".repeat(size));
            due.is("wipe " + size, x.wipe(), size);
            due.is("wipe again", x.wipe(), 0);
            due.is("bytes", x.count(3), 0);
        }
        Due.write(x, "v".repeat(300));
        x.write(1, 'v');
        due.is("a byte that did not fit is none", x.wipe(), 300);
    }

    /** What stood there does not come back behind a shorter text. */
    private static void emptyThen() {
        ShoutedPrices x = new ShoutedPrices();
        Due.write(x, "v80,2;c20,3;n9;");
        x.wipe();
        due.is("fault", x.fault(), ShoutedPrices.NONE);
        due.is("lay", x.lay(), ShoutedPrices.NO);
        Due.write(x, "v70,2;");
        due.is("lay without the seller", x.lay(), ShoutedPrices.NO);
        Due.write(x, "c1");
        due.is("the rest of it is gone", x.fault(), 6);
        x = Whole.full();
        x.wipe();
        due.is("room for eight again", x.write(8, 0), 8);
    }

    private static void allElseStays() {
        due.changesNothing("wipe of nothing", ShoutedPrices::new, ShoutedPrices::wipe, 0);
        ShoutedPrices x = Due.laid("v80,2;c20,2;n2;");
        x.round(0, 1, 0);
        x.keep();
        due.is("wipe", x.wipe(), 15);
        due.is("the worth", x.person(0, 1), 80);
        due.is("the steps", x.count(6), 2);
        due.is("the shouts", x.count(4), 2);
        due.is("kept", x.count(5), 1);
    }
}
