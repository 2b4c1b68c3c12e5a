/** Promise 10, pairs: the mean gain of PAIRS, in lowest terms: above (part = 0), below (1). BAD. */
public final class Promise10PairsTest {
    private static final Due due = new Due("Promise10PairsTest");
    private static final String SIX = "v90,0;v70,0;v50,0;c20,0;c40,0;c60,0;";

    public static void main(String[] args) {
        asManyOfEach();
        someMeetNone();
        worthLikeCostAndTax();
        lowestTerms();
        noGain();
        theLidIsNotAsked();
        bad();
        due.end();
    }

    private static void pairs(String text, int above, int below) {
        ShoutedPrices x = Due.laid(text);
        due.is(text + " above", x.pairs(0), above);
        due.is(text + " below", x.pairs(1), below);
    }

    private static void asManyOfEach() {
        pairs("v90,0;c20,0;", 70, 1);
        pairs("v90,0;v80,0;c20,0;c31,0;", 119, 1);
        pairs(SIX, 280, 3);
        pairs("v99,0;".repeat(10) + "c0,0;".repeat(10), 990, 1);
    }

    private static void someMeetNone() {
        pairs("v90,0;v70,0;c20,0;c40,0;c60,0;", 80, 1);
        pairs("v10,0;v7,0;c6,0;", 5, 2);
        pairs("v10,0;c6,0;c5,0;", 9, 2);
        pairs("v99,0;" + "c0,0;".repeat(10), 99, 1);
        pairs("v99,0;".repeat(10) + "c0,0;", 99, 1);
        pairs("v1,0;" + "c0,0;" + "c50,0;".repeat(9), 1, 10);
    }

    /** The TAX is gain, too; one more and they do not trade. */
    private static void worthLikeCostAndTax() {
        pairs("v60,0;c10,0;t50;", 50, 1);
        pairs("v59,0;c10,0;t50;", 0, 1);
        pairs("v10,0;c10,0;", 0, 1);
        pairs(SIX + "t10;", 280, 3);
        pairs(SIX + "t11;", 260, 3);
    }

    private static void lowestTerms() {
        pairs("v10,0;v10,0;v6,0;v5,0;c4,0;", 15, 4);
        pairs("v10,0;v10,0;v5,0;v5,0;c4,0;", 7, 2);
        pairs("v10,0;v10,0;v6,0;v6,0;c4,0;", 4, 1);
        pairs("v9,0;" + "v0,0;".repeat(9) + "c3,0;", 3, 5);
        pairs("v9,0;" + "v0,0;".repeat(9) + "c4,0;", 1, 2);
        pairs("v9,0;" + "v0,0;".repeat(8) + "c3,0;", 2, 3);
    }

    private static void noGain() {
        pairs("v9,0;c10,0;", 0, 1);
        pairs("v10,0;v10,0;c10,0;", 0, 1);
        pairs("v9,0;c10,0;c11,0;", 0, 1);
        pairs("v0,0;".repeat(10) + "c99,0;".repeat(10), 0, 1);
    }

    private static void theLidIsNotAsked() {
        pairs(SIX + "l0;", 280, 3);
    }

    private static void bad() {
        for (int part : new int[] {-1, 2, 3, Integer.MIN_VALUE, Integer.MAX_VALUE}) {
            due.changesNothing("pairs(" + part + ")", Whole::used, x -> x.pairs(part), ShoutedPrices.BAD);
        }
    }
}
