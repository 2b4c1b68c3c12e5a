/** Promise 19, least: by what is KNOWN: QUANTITY (what = 0), MOST (1) at the least. BAD. */
public final class Promise19LeastTest {
    private static final Due due = new Due("Promise19LeastTest");

    public static void main(String[] args) {
        nothingKnown();
        oneSideKnown();
        bothKnown();
        theTaxAsTold();
        several();
        besideTheLines();
        whoIsWrong();
        bad();
        due.end();
    }

    private static void least(ShoutedPrices x, int quantity, int most) {
        due.is("least(0)", x.least(0), quantity);
        due.is("least(1)", x.least(1), most);
    }

    private static ShoutedPrices shouted(String text, int people, int... order) {
        ShoutedPrices x = Due.laid(text + "n" + order.length + ";");
        x.round(0, Draw.order(people, order), 0);
        return x;
    }

    private static void nothingKnown() {
        least(new ShoutedPrices(), 0, 0);
        least(Due.laid("v99,0;".repeat(10) + "c0,0;".repeat(10)), 0, 0);
    }

    /** 0 for a WORTH, 99 for a COST that is not heard of: trades only with a COST of 0, a WORTH of 99. */
    private static void oneSideKnown() {
        least(shouted("v80,2;c20,2;", 2, 1, 1), 0, 0);
        least(shouted("v98,2;c20,2;", 2, 0, 0), 0, 0);
        least(shouted("v99,2;c20,2;", 2, 0, 0), 1, 0);
        least(shouted("v99,2;c20,2;t1;", 2, 0, 0), 0, 0);
        least(shouted("v80,2;c0,2;", 2, 1, 1), 1, 0);
        least(shouted("v80,2;c1,2;", 2, 1, 1), 0, 0);
    }

    private static void bothKnown() {
        least(shouted("v80,2;c20,2;", 2, 1, 0), 1, 20);
        least(shouted("v80,2;c20,2;", 2, 0, 1), 1, 20);
        least(shouted("v60,2;c20,2;", 2, 1, 0), 1, 0);
        least(shouted("v59,2;c20,2;", 2, 1, 0), 0, 0);
    }

    /** 60 is offered, 80 bid. */
    private static void theTaxAsTold() {
        least(shouted("v80,2;c20,2;t20;", 2, 1, 0), 1, 20);
        least(shouted("v80,2;c20,2;t21;", 2, 1, 0), 0, 0);
        // the lid cuts the bid, and is not asked else
        least(shouted("v80,2;c20,2;l70;", 2, 1, 0), 1, 10);
    }

    /** The highest bid of all, 53, is beside an offer of 66, then of 53. */
    private static void several() {
        ShoutedPrices x = Due.laid("v90,2;v80,2;c66,2;c0,2;n3;");
        x.round(0, Draw.order(4, 0, 1, 2), 0);
        due.is("a bid of 30", x.known(0), 30);
        due.is("a bid of 53", x.known(1), 53);
        due.is("an offer of 66", x.known(2), 66);
        least(x, 0, 0);
        x = Due.laid("v50,2;v80,2;c53,2;c99,2;n3;");
        x.round(0, Draw.order(4, 0, 1, 2), 0);
        due.is("an offer of 53", x.known(2), 53);
        least(x, 1, 0);
    }

    /** As if what is KNOWN were told. */
    private static void besideTheLines() {
        for (int z = 0; z < 30; z++) {
            ShoutedPrices x = Due.laid("v90,0;v70,1;v50,4;c20,0;c40,3;c30,1;t4;n20;");
            x.round(0, z, 0);
            StringBuilder text = new StringBuilder("t4;");
            for (int p = 0; p < 6; p++) {
                text.append(p < 3 ? 'v' : 'c').append(x.known(p)).append(",0;");
            }
            ShoutedPrices told = Due.laid(text.toString());
            least(x, told.lines(0), told.lines(1));
        }
    }

    /** By the LOG all the same: 62 is bid for a WORTH of 5, then 51 or 50 is offered; or 2 for a COST of 90, then 80 bid. */
    private static void whoIsWrong() {
        int z = Draw.order(i -> Draw.of(i, 0, 1) % 100 == 62, 2, 0, 1);
        ShoutedPrices x = Due.laid("v5,5;c51,2;n2;t12;");
        x.round(0, z, 0);
        least(x, 0, 0);
        x = Due.laid("v5,5;c50,2;n2;t12;");
        x.round(0, z, 0);
        least(x, 1, 12);
        x.law(0, 0);
        least(x, 1, 12);
        x.law(1, 5);
        least(x, 1, 12);
        z = Draw.order(i -> Draw.of(i, 0, 1) % 100 == 2, 2, 1, 0);
        x = Due.laid("v80,2;c90,5;n2;");
        x.round(0, z, 0);
        least(x, 1, 78);
    }

    private static void bad() {
        for (int what : new int[] {-1, 2, 3, Integer.MIN_VALUE, Integer.MAX_VALUE}) {
            due.changesNothing("least(" + what + ")", Whole::used, x -> x.least(what), ShoutedPrices.BAD);
        }
    }
}
