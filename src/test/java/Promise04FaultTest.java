/** Promise 4, fault: the place (from 0 on) of the first byte of the first ITEM that is not so. NONE. */
public final class Promise04FaultTest {
    private static final Due due = new Due("Promise04FaultTest");
    private static final int NONE = ShoutedPrices.NONE;

    public static void main(String[] args) {
        without();
        letters();
        everyByteOfAnItem();
        oneToThreeFigures();
        howManyNumbers();
        anEndBehindTheLastOne();
        bounds();
        tenOfEachSide();
        thePlace();
        inThreeHundredBytes();
        changesNothing();
        due.end();
    }

    private static void fault(String text, int place) {
        due.is("fault of " + text, Due.fault(text), place);
    }

    /** Wherever an item stands that is not so, it is the fault. */
    private static void isNone(String item) {
        fault(item, 0);
        fault("v1,1;" + item, 5);
        fault("n1;c22,3;" + item + "v1,1;", 9);
    }

    private static void without() {
        String[] good = {"", "v0,0;", "c0,0;", "n1;", "v007,05;", "n060;", "v1,2;c3,4;n5;t6;l7;x8;h9;", "l0;l0;l0;"};
        for (String text : good) {
            fault(text, NONE);
        }
    }

    private static void letters() {
        for (char letter = 0; letter < 256; letter++) {
            fault(letter + "1;", "ntlxh".indexOf(letter) >= 0 ? NONE : 0);
            fault("v1,1;" + letter + "1,1;", "vc".indexOf(letter) >= 0 ? NONE : 5);
            fault(letter + ";", 0);
        }
    }

    private static void everyByteOfAnItem() {
        for (char sign = 0; sign < 256; sign++) {
            boolean figure = sign >= '0' && sign <= '9';
            fault("v" + sign + "2,3;", figure ? NONE : 0);
            fault("v1" + sign + ",3;", figure ? NONE : 0);
            fault("v12" + sign + "3;", sign == ',' ? NONE : 0);
            fault("v12," + sign + ";", sign >= '0' && sign <= '5' ? NONE : 0);
            fault("v12,3" + sign, sign == ';' ? NONE : 0);
            fault("n9" + sign, sign == ';' ? NONE : 0);
            fault("n" + sign + ";", figure && sign != '0' ? NONE : 0);
        }
    }

    private static void oneToThreeFigures() {
        for (String letter : new String[] {"n", "t", "l", "x", "h"}) {
            isNone(letter + ";");
            fault(letter + "1;", NONE);
            fault(letter + "01;", NONE);
            fault(letter + "001;", NONE);
            isNone(letter + "0001;");
        }
        for (String letter : new String[] {"v", "c"}) {
            fault(letter + "001,005;", NONE);
            fault(letter + "000,000;", NONE);
            isNone(letter + "0001,1;");
            isNone(letter + "1,0001;");
            isNone(letter + ",1;");
            isNone(letter + "1,;");
            isNone(letter + ",;");
        }
        isNone("n4294967297;");
        isNone("v1,4294967296;");
    }

    private static void howManyNumbers() {
        String[] bad = {"v1;", "c1;", "v1,1,1;", "c1,1,1;", "v1,1,;", "v1,,1;", "n1,1;", "t1,1;", "l1,1;", "x1,1;", "h1,1;",
            "n1,;", "n,1;", "n1,1,1;", "v;", "c;", "1,1;", ";", ";;", "vv1,1;", "nn1;"};
        for (String item : bad) {
            isNone(item);
        }
    }

    private static void anEndBehindTheLastOne() {
        for (String item : new String[] {"v12,3;", "c98,5;", "n200;", "t50;", "l99;", "x50;", "h99;"}) {
            fault(item, NONE);
            for (int size = 1; size < item.length(); size++) {
                fault(item.substring(0, size), 0);
                fault("v1,1;c1,1;" + item.substring(0, size), 10);
            }
        }
        fault("v1,2,", 0);
        fault("n1,", 0);
        // the next letter does not end an item
        fault("n1n2;", 0);
        fault("v1,1c1,1;", 0);
    }

    /** The last number that is told, and the first one beyond it. */
    private static void bounds() {
        String[][] bounds = {{"v99,5;", "v100,5;", "v99,6;"}, {"c99,5;", "c100,5;", "c99,6;"}, {"n200;", "n201;"},
            {"n1;", "n0;"}, {"t50;", "t51;"}, {"l99;", "l100;"}, {"x50;", "x51;"}, {"h99;", "h100;"}};
        for (String[] row : bounds) {
            fault(row[0], NONE);
            for (int i = 1; i < row.length; i++) {
                isNone(row[i]);
            }
        }
        for (String least : new String[] {"v0,0;", "c0,0;", "t0;", "l0;", "x0;", "h0;"}) {
            fault(least, NONE);
        }
        for (String item : new String[] {"v999,0;", "v0,999;", "c999,0;", "c0,999;", "n999;", "t999;", "l999;", "x999;",
            "h999;", "n000;", "v0,10;", "c0,10;"}) {
            isNone(item);
        }
        // of several the last one counts, but each must be so
        fault("n0;n5;", 0);
        fault("n5;t51;t5;", 3);
    }

    private static void tenOfEachSide() {
        String buyers = "v1,1;".repeat(10), sellers = "c22,1;".repeat(10);
        fault(buyers, NONE);
        fault(sellers, NONE);
        fault(buyers + sellers, NONE);
        fault(buyers + "v1,1;", 50);
        fault(sellers + "c22,1;", 60);
        fault(buyers + sellers + "v1,1;", 110);
        fault(sellers + buyers + "n9;c1,1;", 113);
        fault("v1,1;c22,1;".repeat(10) + "n9;", NONE);
        fault("v1,1;c22,1;".repeat(10) + "n9;v1,1;", 113);
        fault("v1,1;c22,1;".repeat(10) + "c1,1;n0;", 110);
    }

    private static void thePlace() {
        fault("n0;n0;", 0);
        fault("v9,0;n0;n0;", 5);
        fault("v9,0;c1,6;n0;", 5);
        fault("v9,0;c1,0;n20", 10);
        fault(" v9,0;", 0);
        fault("v9,0; c1,0;", 5);
        fault("v9,0;\n", 5);
    }

    private static void inThreeHundredBytes() {
        fault("n1;".repeat(100), NONE);
        fault("n1;".repeat(99) + "n1,", 297);
        fault("n1;".repeat(99) + "n12", 297);
        fault("n1;".repeat(99) + "n;v", 297);
        fault("n12;" + "n1;".repeat(98) + "n", 298);
        fault("n12;" + "n1;".repeat(98) + "n1", 298);
        fault("n12;n12;" + "n1;".repeat(97) + "x", 299);
    }

    private static void changesNothing() {
        due.changesNothing("fault of a text without its end", Whole::used, ShoutedPrices::fault, 17);
        due.changesNothing("fault of a full text", Whole::full, ShoutedPrices::fault, NONE);
        due.changesNothing("fault of no text", ShoutedPrices::new, ShoutedPrices::fault, NONE);
    }
}
