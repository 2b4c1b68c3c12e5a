/** Promise 9, served: SERVED with the LID: trades (0), the most gain (1), the least (2), LOST (3). BAD. */
public final class Promise09ServedTest {
    private static final Due due = new Due("Promise09ServedTest");
    /** WORTHS 90, 70, 50; COSTS 20, 40, 60: two trades, 100 in all, from 50 to 60. */
    private static final String SIX = "v90,0;v70,0;v50,0;c20,0;c40,0;c60,0;";

    public static void main(String[] args) {
        aLidNoLowerThanThePrice();
        aLidBelowThePrice();
        costAndTaxLikeTheLid();
        worthLikeTheLid();
        nobodyServed();
        noQuantity();
        bad();
        due.end();
    }

    private static void served(String text, int... answers) {
        ShoutedPrices x = Due.laid(text);
        for (int what = 0; what < answers.length; what++) {
            due.is(text + " served(" + what + ")", x.served(what), answers[what]);
        }
    }

    /** QUANTITY, MOST: also where a SELLER more would sell, a BUYER less would buy. */
    private static void aLidNoLowerThanThePrice() {
        served(SIX, 2, 100, 100, 0);
        served(SIX + "l50;", 2, 100, 100, 0);
        served(SIX + "l60;", 2, 100, 100, 0);
        served(SIX + "l71;", 2, 100, 100, 0);
        served(SIX + "l91;", 2, 100, 100, 0);
        served(SIX + "l99;", 2, 100, 100, 0);
        served(SIX + "t20;l60;", 2, 100, 100, 0);
        served("v0,0;c0,0;l0;", 1, 0, 0, 0);
    }

    private static void aLidBelowThePrice() {
        served(SIX + "l49;", 2, 100, 60, 40);
        served(SIX + "t20;l59;", 1, 70, 50, 50);
        served("v90,0;v70,0;c20,0;l69;", 1, 70, 50, 20);
        served("v90,0;v70,0;c20,0;l70;", 1, 70, 70, 0);
        served("v99,0;".repeat(10) + "c0,0;".repeat(9) + "l98;", 9, 891, 891, 0);
        served("v99,0;".repeat(9) + "v98,0;" + "c0,0;".repeat(9) + "l97;", 9, 891, 890, 1);
    }

    private static void costAndTaxLikeTheLid() {
        served(SIX + "l40;", 2, 100, 60, 40);
        served(SIX + "l39;", 1, 70, 30, 70);
        served(SIX + "l20;", 1, 70, 30, 70);
        served(SIX + "t20;l40;", 1, 70, 30, 70);
        served(SIX + "t10;l49;", 1, 70, 30, 70);
        served("v9,0;v5,0;c0,0;l0;", 1, 9, 5, 4);
    }

    private static void worthLikeTheLid() {
        served("v90,0;v70,0;v69,0;c20,0;l69;", 1, 70, 49, 21);
        served("v90,0;v70,0;v68,0;c20,0;l69;", 1, 70, 50, 20);
        served("v90,0;v70,0;v50,0;c20,0;l50;", 1, 70, 30, 40);
        served("v90,0;v70,0;v50,0;c20,0;l51;", 1, 70, 50, 20);
    }

    private static void nobodyServed() {
        served(SIX + "l19;", 0, 0, 0, 100);
        served(SIX + "l0;", 0, 0, 0, 100);
        served(SIX + "t20;l39;", 0, 0, 0, 100);
        served("v9,0;v5,0;c0,0;t1;l0;", 0, 0, 0, 9);
    }

    private static void noQuantity() {
        served("v9,0;c10,0;l0;", 0, 0, 0, 0);
        served("v9,0;c10,0;", 0, 0, 0, 0);
        served("v9,0;c10,0;l9;", 0, 0, 0, 0);
        served("v59,0;c10,0;t50;l20;", 0, 0, 0, 0);
        served("v59,0;c10,0;t50;l60;", 0, 0, 0, 0);
    }

    private static void bad() {
        for (int what : new int[] {-1, 4, 5, Integer.MIN_VALUE, Integer.MAX_VALUE}) {
            due.changesNothing("served(" + what + ")", Whole::used, x -> x.served(what), ShoutedPrices.BAD);
            due.is("without trades", Due.laid("v9,0;c10,0;").served(what), ShoutedPrices.BAD);
        }
    }
}
