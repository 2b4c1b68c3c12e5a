/** Promise 24, count: 0 PEOPLE, 1 BUYERS, 2 SELLERS, 3 bytes of THE TEXT, 4 shouts of the LOG, 5 KEPT, 6 STEPS. BAD. */
public final class Promise24CountTest {
    private static final Due due = new Due("Promise24CountTest");

    public static void main(String[] args) {
        ofANewObject();
        least();
        greatest();
        mixed();
        bad();
        due.end();
    }

    private static void counts(ShoutedPrices x, int... counts) {
        for (int what = 0; what < counts.length; what++) {
            due.is("count(" + what + ")", x.count(what), counts[what]);
        }
    }

    private static void ofANewObject() {
        counts(new ShoutedPrices(), 2, 1, 1, 0, 0, 0, 60);
    }

    private static void least() {
        ShoutedPrices x = Due.laid("v0,0;c0,0;n1;");
        x.wipe();
        counts(x, 2, 1, 1, 0, 0, 0, 1);
        x.write(1, 0);
        counts(x, 2, 1, 1, 1, 0, 0, 1);
    }

    private static void greatest() {
        ShoutedPrices x = Due.laid("v0,0;".repeat(10) + "c99,5;".repeat(10) + "n200;");
        due.is("bytes", x.count(3), 115);
        Due.write(x, "n".repeat(185));
        // nobody trades: all STEPS are shouts
        for (int p = 10; p < 20; p++) {
            x.law(p, 0);
        }
        x.round(0, 9999, 0);
        x.keep();
        x.keep();
        counts(x, 20, 10, 10, 300, 200, 2, 200);
    }

    private static void mixed() {
        ShoutedPrices x = Due.laid("c1,2;v80,2;c5,2;n8;");
        x.keep();
        counts(x, 3, 1, 2, 19, 0, 1, 8);
        x = Due.laid("v80,2;c1,2;v5,2;v7,0;n2;l1;");
        x.round(0, Draw.order(4, 0, 2), 0);
        counts(x, 4, 3, 1, 27, 2, 0, 2);
    }

    private static void bad() {
        for (int what : new int[] {-1, 7, 8, Integer.MIN_VALUE, Integer.MAX_VALUE}) {
            due.changesNothing("count(" + what + ")", Whole::used, x -> x.count(what), ShoutedPrices.BAD);
        }
        due.changesNothing("count(6)", Whole::used, x -> x.count(6), 12);
    }
}
