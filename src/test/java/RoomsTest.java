/** Promises 1 to 7, and 24: texts, faults, rooms laid, people. */
public final class RoomsTest {
    private static final Due due = new Due("RoomsTest");

    public static void main(String[] args) {
        aNewObject();
        write();
        wipe();
        faultOfForms();
        faultOfBounds();
        lay();
        withoutAndSeveral();
        person();
        law();
        count();
        due.end();
    }

    private static void aNewObject() {
        ShoutedPrices x = new ShoutedPrices();
        due.is("new: people", x.count(0), 2);
        due.is("new: buyers", x.count(1), 1);
        due.is("new: sellers", x.count(2), 1);
        due.is("new: bytes", x.count(3), 0);
        due.is("new: shouts", x.count(4), 0);
        due.is("new: kept", x.count(5), 0);
        due.is("new: steps", x.count(6), 60);
        due.is("new: a buyer", x.person(0, 0), 0);
        due.is("new: its worth", x.person(0, 1), 9);
        due.is("new: its law", x.person(0, 2), 0);
        due.is("new: a seller", x.person(1, 0), 1);
        due.is("new: its cost", x.person(1, 1), 1);
        due.is("new: its law", x.person(1, 2), 0);
        due.is("new: fault", x.fault(), ShoutedPrices.NONE);
        due.is("new: lay of no text", x.lay(), ShoutedPrices.NO);
    }

    private static void write() {
        ShoutedPrices x = new ShoutedPrices();
        due.is("write(0)", x.write(0, 'v'), ShoutedPrices.BAD);
        due.is("write(9)", x.write(9, 'v'), ShoutedPrices.BAD);
        due.is("write(-1)", x.write(-1, 'v'), ShoutedPrices.BAD);
        due.is("write(min)", x.write(Integer.MIN_VALUE, 'v'), ShoutedPrices.BAD);
        due.is("write(max)", x.write(Integer.MAX_VALUE, 'v'), ShoutedPrices.BAD);
        due.is("nothing is written", x.count(3), 0);
        // the two lowest bytes alone, whatever stands above them
        due.is("write(2)", x.write(2, 0x7777777777777630L | ('v' << 8 | '7')), 2);
        due.is("write(4)", x.write(4, -1L << 32 | ',' << 24 | '0' << 16 | ';' << 8 | 'c'), 6);
        due.is("write(1)", x.write(1, '3'), 7);
        due.is("write(3)", x.write(3, ',' << 16 | '5' << 8 | ';'), 10);
        due.is("lay what is written", x.lay(), 2);
        due.is("the worth", x.person(0, 1), 7);
        due.is("the cost", x.person(1, 1), 3);
        due.is("its law", x.person(1, 2), 5);
        full();
    }

    private static void full() {
        ShoutedPrices x = new ShoutedPrices();
        for (int i = 1; i <= 37; i++) {
            due.is("write 8", x.write(8, 0), 8 * i);
        }
        due.is("5 behind 296", x.write(5, 0), ShoutedPrices.FULL);
        due.is("9 behind 296: BAD goes first", x.write(9, 0), ShoutedPrices.BAD);
        due.is("4 behind 296", x.write(4, 0), 300);
        due.is("1 behind 300", x.write(1, 0), ShoutedPrices.FULL);
        due.is("0 behind 300", x.write(0, 0), ShoutedPrices.BAD);
        due.is("bytes", x.count(3), 300);
        due.is("wipe", x.wipe(), 300);
        due.is("bytes", x.count(3), 0);
    }

    private static void wipe() {
        ShoutedPrices x = new ShoutedPrices();
        due.is("wipe nothing", x.wipe(), 0);
        due.is("lay", Due.lay(x, "v8,1;c2,1;n7;"), 2);
        due.is("wipe", x.wipe(), 13);
        due.is("wipe again", x.wipe(), 0);
        due.is("the room stays", x.person(0, 1), 8);
        due.is("its steps stay", x.count(6), 7);
        due.is("no fault in nothing", x.fault(), ShoutedPrices.NONE);
    }

    private static void faultOfForms() {
        String[] good = {"", "v0,0;", "v007,05;", "n060;", "v1,2;c3,4;n5;t6;l7;x8;h9;", "l0;l0;l0;"};
        for (String text : good) {
            due.is("fault of " + text, Due.fault(text), ShoutedPrices.NONE);
        }
        String[] bad = {"v", ";", "v;", "v1;", "v1,;", "v,1;", "v1,2,3;", "v1,2,;", "v1,2", "v1,2,", "v0001,2;", "v1,0002;",
            "v1;2;", "v1.2;", "v-1,2;", "v 1,2;", " v1,2;", "V1,2;", "C1,2;", "n;", "n1", "n1,2;", "n1,", "n1,;", "l1,2", "t1,1;",
            "l1,1;", "x1,1;", "h1,1;", "l;", "x;", "h;", "t;", "w1;", "a1,1;", "0;", "1,1;", "vv1,1;", "v1,1 ;",
            "\u00ff1;", "v\u00b1,1;", "\u0000", "v1,1\u0000;"};
        for (String text : bad) {
            due.is("fault of " + text, Due.fault(text), 0);
            due.is("fault of v1,1; and " + text, Due.fault("v1,1;" + text), 5);
            due.is("fault of n1;c22,3; and " + text + " and more", Due.fault("n1;c22,3;" + text + "v1,1;"), 9);
        }
        due.is("the first one", Due.fault("v9,0;c1,6;n0;"), 5);
        due.is("an item without end", Due.fault("v9,0;c1,0;n20"), 10);
    }

    private static void faultOfBounds() {
        String[][] bounds = {{"v99,5;", "v100,5;", "v99,6;"}, {"c99,5;", "c100,5;", "c99,6;"}, {"n1;", "n0;", "n000;"},
            {"n200;", "n201;", "n999;"}, {"t0;t50;", "t51;", "t999;"}, {"l0;l99;", "l100;", "l999;"},
            {"x0;x50;", "x51;", "x999;"}, {"h0;h99;", "h100;", "h999;"}};
        for (String[] row : bounds) {
            due.is("fault of " + row[0], Due.fault(row[0]), ShoutedPrices.NONE);
            due.is("fault of " + row[1], Due.fault("x1;" + row[1]), 3);
            due.is("fault of " + row[2], Due.fault(row[2]), 0);
        }
        due.is("a bound that is mended behind", Due.fault("n0;n5;"), 0);
        String ten = Due.repeat("v1,1;", 10) + Due.repeat("c22,1;", 10);
        due.is("ten of each", Due.fault(ten), ShoutedPrices.NONE);
        due.is("eleven buyers", Due.fault(ten + "v1,1;"), 110);
        due.is("eleven sellers", Due.fault(ten + "n9;" + "c1,1;"), 113);
        due.is("eleven buyers, no sellers", Due.fault(Due.repeat("v1,1;", 11)), 50);
    }

    private static void lay() {
        ShoutedPrices x = new ShoutedPrices();
        due.is("a buyer alone", Due.lay(x, "v5,0;"), ShoutedPrices.NO);
        due.is("a seller alone", Due.lay(x, "c5,0;"), ShoutedPrices.NO);
        due.is("nobody", Due.lay(x, "n5;"), ShoutedPrices.NO);
        due.is("a fault", Due.lay(x, "v8,0;c7,0;n9;t"), ShoutedPrices.NO);
        due.is("the room is as it was", x.person(0, 1), 9);
        due.is("its steps are as they were", x.count(6), 60);
        due.is("the text stays", x.count(3), 14);
        due.is("six", Due.lay(x, "c1,2;v80,1;c3,3;c5,4;v9,5;v0,0;n9;"), 6);
        due.is("the text stays", x.count(3), 34);
        due.is("steps", x.count(6), 9);
        due.is("fault", x.fault(), ShoutedPrices.NONE);
        x.round(0, 4, 0);
        due.is("shouts", x.count(4) > 0 ? 1 : 0, 1);
        x.keep();
        x.law(0, 5);
        due.is("a fault", Due.lay(x, "v8,0;c7,6;"), ShoutedPrices.NO);
        due.is("shouts stay then", x.count(4) > 0 ? 1 : 0, 1);
        due.is("what is kept stays then", x.count(5), 1);
        due.is("a law stays then", x.person(0, 2), 5);
        due.is("lay anew", Due.lay(x, "c1,2;v80,1;c3,3;c5,4;v9,5;v0,0;n9;"), 6);
        due.is("no shouts", x.count(4), 0);
        due.is("nothing kept", x.count(5), 0);
        due.is("nothing to go back to", x.back(), ShoutedPrices.NO);
        due.is("the law as told", x.person(0, 2), 2);
        due.is("twenty", Due.lay(x, Due.repeat("v1,1;c22,1;", 10)), 20);
    }

    private static void withoutAndSeveral() {
        // what counts without an item is what counted in no room before
        ShoutedPrices x = Due.laid("v80,0;c20,0;n7;t9;l30;x1;h2;");
        due.is("laid", Due.lay(x, "v80,0;c20,0;"), 2);
        due.is("60 steps", x.count(6), 60);
        due.is("no tax", x.lines(2), 20);
        due.is("no lid", x.served(3), 0);
        x = Due.laid("n7;t9;l30;v80,0;n200;c20,0;t3;l99;");
        due.is("the last n counts", x.count(6), 200);
        due.is("the last t counts", x.lines(2), 23);
        due.is("the last l counts", x.served(0), 1);
        due.is("its fault", Due.fault("n7;n201;n8;"), 3);
    }

    private static void person() {
        ShoutedPrices x = Due.laid("c1,2;v80,1;c30,3;v99,5;");
        int[][] people = {{1, 1, 2}, {0, 80, 1}, {1, 30, 3}, {0, 99, 5}};
        for (int p = 0; p < people.length; p++) {
            for (int what = 0; what < 3; what++) {
                due.is("person(" + p + ", " + what + ")", x.person(p, what), people[p][what]);
            }
            due.is("what 3", x.person(p, 3), ShoutedPrices.BAD);
            due.is("what -1", x.person(p, -1), ShoutedPrices.BAD);
        }
        due.is("person -1", x.person(-1, 0), ShoutedPrices.BAD);
        due.is("person 4", x.person(4, 0), ShoutedPrices.BAD);
        due.is("person max", x.person(Integer.MAX_VALUE, 0), ShoutedPrices.BAD);
        due.is("person min", x.person(Integer.MIN_VALUE, 0), ShoutedPrices.BAD);
    }

    private static void law() {
        ShoutedPrices x = Due.laid("c1,2;v80,1;");
        due.is("law(1, 5)", x.law(1, 5), 1);
        due.is("law(1, 0)", x.law(1, 0), 5);
        due.is("law(1, 6)", x.law(1, 6), ShoutedPrices.BAD);
        due.is("law(1, -1)", x.law(1, -1), ShoutedPrices.BAD);
        due.is("law(2, 0)", x.law(2, 0), ShoutedPrices.BAD);
        due.is("law(-1, 0)", x.law(-1, 0), ShoutedPrices.BAD);
        due.is("it is as it was", x.person(1, 2), 0);
        due.is("the other one is as told", x.person(0, 2), 2);
        due.is("law(0, 2)", x.law(0, 2), 2);
    }

    private static void count() {
        ShoutedPrices x = Due.laid("c1,2;v80,2;c5,2;n8;");
        x.keep();
        int[] counts = {3, 1, 2, 19, 0, 1, 8};
        for (int what = 0; what < counts.length; what++) {
            due.is("count(" + what + ")", x.count(what), counts[what]);
        }
        due.is("count(7)", x.count(7), ShoutedPrices.BAD);
        due.is("count(-1)", x.count(-1), ShoutedPrices.BAD);
        x.round(0, 1, 0);
        due.is("every step has a shout till one trades", x.count(4) > 0 ? 1 : 0, 1);
    }
}
