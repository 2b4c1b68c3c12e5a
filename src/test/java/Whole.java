import java.util.ArrayList;
import java.util.List;

/** All that calls can tell of an object, THE TEXT and what is KEPT too; the object is spent by it. */
final class Whole {
    private static final String ROOM = "v90,1;c20,4;v70,3;c35,0;v66,4;c80,2;n12;t3;l85;x9;h41;";
    private static final String OTHER_TEXT = "c7,5;v44,2;n9;t1;l60";

    /** Six PEOPLE, shouts, one KEPT, other LAWS now than told, in THE TEXT another room without its last sign. */
    static ShoutedPrices used() {
        ShoutedPrices x = Due.laid(ROOM);
        x.law(1, 1);
        x.round(0, 4, 0);
        x.keep();
        x.law(1, 0);
        x.law(4, 5);
        x.round(0, 8, 0);
        x.wipe();
        Due.write(x, OTHER_TEXT);
        return x;
    }

    /** As full as can be: 300 bytes, two KEPT. */
    static ShoutedPrices full() {
        ShoutedPrices x = used();
        x.keep();
        x.law(0, 2);
        x.round(0, 9, 0);
        x.wipe();
        int left = 300 - ROOM.length();
        Due.write(x, ROOM + "n10;".repeat(left % 3) + "n9;".repeat(left / 3 - left % 3));
        return x;
    }

    static List<Long> of(ShoutedPrices x) {
        List<Long> all = new ArrayList<>();
        room(all, x);
        shouts(all, x);
        for (int kept = 0; kept < 3; kept++) {
            add(all, x.back());
            shouts(all, x);
        }
        // THE TEXT: as it is, and with an end
        add(all, x.fault(), x.lay(), x.write(1, ';'), x.fault(), x.lay());
        room(all, x);
        return all;
    }

    private static void room(List<Long> all, ShoutedPrices x) {
        for (int what = 0; what <= 6; what++) {
            add(all, x.count(what));
        }
        int people = x.count(0);
        for (int p = 0; p < people; p++) {
            add(all, x.person(p, 0), x.person(p, 1), x.of(1, 5, p), x.of(3, 5, p));
        }
        add(all, x.lines(2), x.lines(3), x.lines(4), x.served(0), x.served(2));
    }

    private static void shouts(List<Long> all, ShoutedPrices x) {
        int people = x.count(0), shouts = x.count(4);
        add(all, shouts);
        for (int p = 0; p < people; p++) {
            add(all, x.person(p, 2), x.laws(p));
        }
        for (int i = 0; i < shouts && i < 10; i++) {
            add(all, x.shout(i, 0), x.shout(i, 1), x.shout(i, 2), x.shout(i, 3));
        }
    }

    private static void add(List<Long> all, long... answers) {
        for (long answer : answers) {
            all.add(answer);
        }
    }
}
