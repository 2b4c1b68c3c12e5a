/** Promise 2, write: the lowest n bytes (1 to 8) of v, the highest of these first, come behind THE TEXT. BAD; FULL. */
public final class Promise02WriteTest {
    private static final Due due = new Due("Promise02WriteTest");

    public static void main(String[] args) {
        oneToEightBytes();
        theHighestFirst();
        theLowestAlone();
        behindTheText();
        threeHundredAtMost();
        theLastByteCounts();
        bad();
        full();
        badGoesBeforeFull();
        theRoomStays();
        due.end();
    }

    private static void oneToEightBytes() {
        for (int n = 1; n <= 8; n++) {
            ShoutedPrices x = new ShoutedPrices();
            due.is("write(" + n + ")", x.write(n, -1), n);
            due.is("write(" + n + ") again", x.write(n, Long.MIN_VALUE), 2 * n);
            due.is("bytes", x.count(3), 2 * n);
        }
    }

    /** Each split of a text is the same text. */
    private static void theHighestFirst() {
        String text = "v71,3;c62,5;n123;";
        for (int n = 1; n <= 8; n++) {
            ShoutedPrices x = new ShoutedPrices();
            for (int from = 0; from < text.length(); from += n) {
                String part = text.substring(from, Math.min(from + n, text.length()));
                x.write(part.length(), Due.packed(part));
            }
            due.is("lay by " + n, x.lay(), 2);
            due.is("the worth by " + n, x.person(0, 1), 71);
            due.is("the cost by " + n, x.person(1, 1), 62);
            due.is("the steps by " + n, x.count(6), 123);
        }
    }

    /** What stands above the lowest n bytes does not count; the eighth byte may be the sign. */
    private static void theLowestAlone() {
        ShoutedPrices x = new ShoutedPrices();
        due.is("write(2)", x.write(2, 0x7777777777777630L | Due.packed("v7")), 2);
        due.is("write(4)", x.write(4, -1L << 32 | Due.packed(",0;c")), 6);
        due.is("write(1)", x.write(1, Long.MIN_VALUE | '3'), 7);
        due.is("write(3)", x.write(3, ~0xffffffL | Due.packed(",5;")), 10);
        due.is("lay", x.lay(), 2);
        due.is("the worth", x.person(0, 1), 7);
        due.is("the cost", x.person(1, 1), 3);
        due.is("its law", x.person(1, 2), 5);
        x.wipe();
        x.write(8, 0x80_00_00_00_00_00_00_00L | Due.packed("v1,1;n1"));
        due.is("a first byte of 128 is one", x.fault(), 0);
        x.wipe();
        x.write(7, 0x80_00_00_00_00_00_00_00L | Due.packed("v1,1;n1"));
        x.write(1, 0x3b);
        due.is("without it there is none", x.fault(), ShoutedPrices.NONE);
    }

    private static void behindTheText() {
        ShoutedPrices x = new ShoutedPrices();
        int size = 0;
        for (int n : new int[] {5, 1, 8, 8, 2, 7}) {
            size += n;
            due.is("write(" + n + ")", x.write(n, 0), size);
        }
        x.wipe();
        due.is("behind nothing again", x.write(3, 0), 3);
    }

    private static void threeHundredAtMost() {
        for (int n = 1; n <= 8; n++) {
            ShoutedPrices x = filled(300 - n);
            due.is(n + " behind " + (300 - n), x.write(n, 0), 300);
            due.is("one more", x.write(1, 0), ShoutedPrices.FULL);
            x = filled(301 - n);
            due.is(n + " behind " + (301 - n), x.write(n, 0), ShoutedPrices.FULL);
            due.is("bytes", x.count(3), 301 - n);
        }
    }

    private static ShoutedPrices filled(int size) {
        ShoutedPrices x = new ShoutedPrices();
        Due.write(x, "n".repeat(size));
        return x;
    }

    private static void theLastByteCounts() {
        ShoutedPrices x = new ShoutedPrices();
        due.is("299", Due.write(x, "v5,1;c3,2;" + "n10;".repeat(1) + "n9;".repeat(94) + "n19"), 299);
        due.is("write the last one", x.write(1, ';'), 300);
        due.is("fault", x.fault(), ShoutedPrices.NONE);
        due.is("lay", x.lay(), 2);
        due.is("the last item counts", x.count(6), 19);
    }

    private static void bad() {
        for (int n : new int[] {0, -1, 9, 10, Integer.MIN_VALUE, Integer.MAX_VALUE}) {
            due.changesNothing("write(" + n + ")", Whole::used, x -> x.write(n, ';'), ShoutedPrices.BAD);
            due.changesNothing("write(" + n + ") of nothing", ShoutedPrices::new, x -> x.write(n, 'v'), ShoutedPrices.BAD);
        }
    }

    /** What does not fit comes not in part, and the rest fits then. */
    private static void full() {
        due.changesNothing("write(1) full", Whole::full, x -> x.write(1, ';'), ShoutedPrices.FULL);
        due.changesNothing("write(8) full", Whole::full, x -> x.write(8, 0), ShoutedPrices.FULL);
        ShoutedPrices x = new ShoutedPrices();
        Due.write(x, "v5,1;c3,2;" + "n10;" + "n9;".repeat(94));
        due.is("5 behind 296", x.write(5, Due.packed("n198;")), ShoutedPrices.FULL);
        due.is("4 behind 296", x.write(4, Due.packed("n20;")), 300);
        due.is("lay", x.lay(), 2);
        due.is("steps", x.count(6), 20);
    }

    private static void badGoesBeforeFull() {
        for (int n : new int[] {0, 9, -1}) {
            due.changesNothing("write(" + n + ") full", Whole::full, x -> x.write(n, 0), ShoutedPrices.BAD);
        }
    }

    private static void theRoomStays() {
        ShoutedPrices x = new ShoutedPrices();
        Due.write(x, "v80,2;c20,3;n9;");
        due.is("the worth", x.person(0, 1), 9);
        due.is("the steps", x.count(6), 60);
    }
}
