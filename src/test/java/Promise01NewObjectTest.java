import java.util.List;

/** Promise 1, a new object: as told (at first v9,0;c1,0;); THE TEXT is empty. */
public final class Promise01NewObjectTest {
    private static final Due due = new Due("Promise01NewObjectTest");

    public static void main(String[] args) {
        people();
        textLogAndKeptAreEmpty();
        settings();
        isTheRoomOfItsText();
        nothingOfAnotherObject();
        due.end();
    }

    private static void people() {
        ShoutedPrices x = new ShoutedPrices();
        due.is("people", x.count(0), 2);
        due.is("buyers", x.count(1), 1);
        due.is("sellers", x.count(2), 1);
        due.is("a buyer", x.person(0, 0), 0);
        due.is("its worth", x.person(0, 1), 9);
        due.is("its law", x.person(0, 2), 0);
        due.is("a seller", x.person(1, 0), 1);
        due.is("its cost", x.person(1, 1), 1);
        due.is("its law", x.person(1, 2), 0);
        due.is("nobody else", x.person(2, 0), ShoutedPrices.BAD);
    }

    private static void textLogAndKeptAreEmpty() {
        ShoutedPrices x = new ShoutedPrices();
        due.is("bytes", x.count(3), 0);
        due.is("shouts", x.count(4), 0);
        due.is("kept", x.count(5), 0);
        due.is("fault of no text", x.fault(), ShoutedPrices.NONE);
        due.is("lay of no text", x.lay(), ShoutedPrices.NO);
        due.is("the first shout", x.shout(0, 0), ShoutedPrices.BAD);
        due.is("back", x.back(), ShoutedPrices.NO);
        due.is("wipe", x.wipe(), 0);
    }

    /** 60 STEPS, no TAX, the LID 99; NEAR 5 and HOLDERS' 50 by which LAWS the shouts may have. */
    private static void settings() {
        ShoutedPrices x = new ShoutedPrices();
        due.is("steps", x.count(6), 60);
        due.is("price without a tax", x.lines(2), 1);
        due.is("lost by no lid", x.served(3), 0);
        x.law(1, 4);
        x.law(0, 4);
        int least = 99;
        for (int z = 0; z < 5; z++) {
            x.round(0, z, 0);
            least = Math.min(least, x.known(1));
        }
        due.is("the least that a holder asks", least, 50);
    }

    private static void isTheRoomOfItsText() {
        ShoutedPrices told = Due.laid("v9,0;c1,0;n60;t0;l99;x5;h50;");
        told.wipe();
        due.holds("a new object is v9,0;c1,0;", Whole.of(told).equals(Whole.of(new ShoutedPrices())));
        ShoutedPrices x = new ShoutedPrices();
        told = Due.laid("v9,0;c1,0;n60;t0;l99;x5;h50;");
        for (int law = 0; law <= 5; law++) {
            x.law(0, law);
            told.law(0, law);
            x.law(1, 5 - law);
            told.law(1, 5 - law);
            for (int rule = 0; rule <= 3; rule++) {
                due.is("means of laws " + law, x.means(rule, 7, 0), told.means(rule, 7, 0));
            }
        }
    }

    private static void nothingOfAnotherObject() {
        List<Long> first = Whole.of(new ShoutedPrices());
        Whole.of(Whole.full());
        due.holds("a new object is like the first one", Whole.of(new ShoutedPrices()).equals(first));
    }
}
