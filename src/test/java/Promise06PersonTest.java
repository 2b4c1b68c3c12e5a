/** Promise 6, person: 0 a BUYER, 1 a SELLER (what = 0), its CARD (1), its LAW (2). BAD. */
public final class Promise06PersonTest {
    private static final Due due = new Due("Promise06PersonTest");

    public static void main(String[] args) {
        numberedAsTheyCome();
        leastAndGreatest();
        twenty();
        bad();
        due.end();
    }

    private static void numberedAsTheyCome() {
        ShoutedPrices x = Due.laid("c1,2;v80,1;n9;c30,3;v99,5;");
        int[][] people = {{1, 1, 2}, {0, 80, 1}, {1, 30, 3}, {0, 99, 5}};
        for (int p = 0; p < people.length; p++) {
            for (int what = 0; what < 3; what++) {
                due.is("person(" + p + ", " + what + ")", x.person(p, what), people[p][what]);
            }
        }
    }

    private static void leastAndGreatest() {
        ShoutedPrices x = Due.laid("v0,0;v99,5;c0,0;c99,5;");
        for (int p = 0; p < 4; p++) {
            due.is("its card", x.person(p, 1), p % 2 == 0 ? 0 : 99);
            due.is("its law", x.person(p, 2), p % 2 == 0 ? 0 : 5);
        }
    }

    private static void twenty() {
        StringBuilder text = new StringBuilder();
        for (int i = 0; i < 20; i++) {
            text.append(i % 2 == 0 ? 'c' : 'v').append(3 * i).append(',').append(i % 6).append(';');
        }
        ShoutedPrices x = Due.laid(text.toString());
        for (int p = 0; p < 20; p++) {
            due.is("its side", x.person(p, 0), 1 - p % 2);
            due.is("its card", x.person(p, 1), 3 * p);
            due.is("its law", x.person(p, 2), p % 6);
        }
        due.is("person 20", x.person(20, 0), ShoutedPrices.BAD);
    }

    private static void bad() {
        int[][] rows = {{-1, 0}, {6, 0}, {6, 1}, {6, 2}, {0, -1}, {0, 3}, {5, 3}, {6, 3}};
        for (int[] row : rows) {
            due.changesNothing("person(" + row[0] + ", " + row[1] + ")", Whole::used, x -> x.person(row[0], row[1]),
                ShoutedPrices.BAD);
        }
        for (int far : Due.FAR) {
            due.changesNothing("person(" + far + ", 0)", Whole::used, x -> x.person(far, 0), ShoutedPrices.BAD);
            due.changesNothing("person(0, " + far + ")", Whole::used, x -> x.person(0, far), ShoutedPrices.BAD);
        }
        due.is("person(2, 0) of a new object", new ShoutedPrices().person(2, 0), ShoutedPrices.BAD);
        due.changesNothing("person(5, 2)", Whole::used, x -> x.person(5, 2), 2);
    }
}
