/** Promise 7, law: LAW of a PERSON: what it was. BAD. (A LAW may be changed.) */
public final class Promise07LawTest {
    private static final Due due = new Due("Promise07LawTest");

    public static void main(String[] args) {
        whatItWas();
        ofOneAlone();
        firstAndLastPerson();
        countsFromNowOn();
        bad();
        due.end();
    }

    private static void whatItWas() {
        ShoutedPrices x = new ShoutedPrices();
        int was = 0;
        for (int l : new int[] {5, 4, 3, 2, 1, 0, 0, 5}) {
            due.is("law(1, " + l + ")", x.law(1, l), was);
            due.is("it is", x.person(1, 2), l);
            was = l;
        }
    }

    private static void ofOneAlone() {
        ShoutedPrices x = Due.laid("c1,2;v80,1;c7,0;");
        due.is("law(1, 4)", x.law(1, 4), 1);
        due.is("the one before it", x.person(0, 2), 2);
        due.is("the one behind it", x.person(2, 2), 0);
        due.is("its card", x.person(1, 1), 80);
        due.is("its side", x.person(1, 0), 0);
    }

    private static void firstAndLastPerson() {
        ShoutedPrices x = Due.laid("v1,1;c22,1;".repeat(10));
        due.is("law(0, 5)", x.law(0, 5), 1);
        due.is("law(19, 5)", x.law(19, 5), 1);
        due.is("law(20, 5)", x.law(20, 5), ShoutedPrices.BAD);
        due.is("law(0, 0)", x.law(0, 0), 5);
        due.is("law(19, 0)", x.law(19, 0), 5);
    }

    /** The LOG stays as it was shouted; the next round is by the new law. */
    private static void countsFromNowOn() {
        ShoutedPrices x = Due.laid("v80,2;c20,2;n1;");
        int z = Draw.order(2, 0);
        x.round(0, z, 0);
        due.is("patient at the last step", x.shout(0, 1), 80);
        x.law(0, 0);
        due.is("the log stays", x.shout(0, 1), 80);
        x.round(0, z, 0);
        due.is("blind", x.shout(0, 1), Draw.of(z, 0, 1) % 81);
        due.is("lay", x.lay(), 2);
        due.is("as the text tells", x.person(0, 2), 2);
    }

    private static void bad() {
        int[][] rows = {{-1, 0}, {6, 0}, {0, -1}, {0, 6}, {5, 6}, {6, 6}, {-1, -1}};
        for (int[] row : rows) {
            due.changesNothing("law(" + row[0] + ", " + row[1] + ")", Whole::used, x -> x.law(row[0], row[1]),
                ShoutedPrices.BAD);
        }
        for (int far : Due.FAR) {
            due.changesNothing("law(" + far + ", 1)", Whole::used, x -> x.law(far, 1), ShoutedPrices.BAD);
            due.changesNothing("law(0, " + far + ")", Whole::used, x -> x.law(0, far), ShoutedPrices.BAD);
        }
    }
}
