import java.util.Random;

/** Runs of calls by chance (always the same), on the program and on the model of the document beside it. */
public final class ModelTest {
    private static final Due due = new Due("ModelTest");
    private static final int RUNS = 1000, MOST_CALLS = 512;

    private final Random chance;
    private final ShoutedPrices x = new ShoutedPrices();
    private final Model y = new Model();
    private final String run;
    private int calls = 0;

    private ModelTest(int seed) {
        chance = new Random(seed);
        run = "run " + seed + " ";
    }

    public static void main(String[] args) {
        for (int seed = 0; seed < RUNS; seed++) {
            new ModelTest(seed).go();
        }
        due.end();
    }

    private void go() {
        if (below(4) > 0) {
            put(room());
        }
        while (calls < MOST_CALLS - 150) {
            step();
        }
        allOfTheLog();
    }

    private int below(int bound) {
        return chance.nextInt(bound);
    }

    /** Mostly a number that is told, from 0 to below the bound; else one beside, or far off. */
    private int number(int bound) {
        switch (below(25)) {
            case 0: return -1;
            case 1: return bound;
            case 2: return bound - 1;
            case 3: return chance.nextInt();
            default: return below(bound);
        }
    }

    private int person() {
        return number(y.count(0));
    }

    private void is(String call, long got, long want) {
        calls++;
        due.is(run + call + " of " + y.text, got, want);
    }

    private String room() {
        StringBuilder text = new StringBuilder();
        int people = 2 + below(below(2) == 0 ? 5 : 19);
        int laws = below(3) == 0 ? 1 : 6;
        int from = below(6);
        int spread = below(4) == 0 ? 5 : 100;
        int least = below(100 - spread + 1);
        for (int i = 0; i < people; i++) {
            text.append(below(2) == 0 ? 'v' : 'c').append(least + below(spread)).append(',');
            text.append((from + below(laws)) % 6).append(';');
        }
        setting(text, 'n', below(2) == 0 ? 1 + below(8) : 1 + below(200));
        setting(text, 't', below(2) == 0 ? below(51) : below(8));
        setting(text, 'l', below(2) == 0 ? below(100) : 60 + below(40));
        setting(text, 'x', below(51));
        setting(text, 'h', below(100));
        return text.toString();
    }

    private void setting(StringBuilder text, char letter, int value) {
        if (below(2) == 0) {
            text.append(letter).append(value).append(';');
        }
    }

    private String spoilt(String text) {
        if (below(4) > 0) {
            return text;
        }
        StringBuilder other = new StringBuilder(text);
        int at = below(text.length());
        String signs = "vcntlxh,;0123456789 \u00ff";
        switch (below(3)) {
            case 0: other.deleteCharAt(at); break;
            case 1: other.setCharAt(at, signs.charAt(below(signs.length()))); break;
            default: other.insert(at, signs.charAt(below(signs.length())));
        }
        return other.toString();
    }

    private void put(String text) {
        is("wipe()", x.wipe(), y.wipe());
        int from = 0;
        while (from < text.length()) {
            int n = Math.min(1 + below(8), text.length() - from);
            long v = chance.nextLong();
            for (int i = 0; i < n; i++) {
                v = v << 8 | text.charAt(from + i);
            }
            is("write", x.write(n, v), y.write(n, v));
            from += n;
        }
        is("fault()", x.fault(), y.fault());
        is("lay()", x.lay(), y.lay());
    }

    private void step() {
        switch (below(11)) {
            case 0: case 1: rooms(); break;
            case 2: case 3: lines(); break;
            case 4: case 5: case 6: rounds(); break;
            case 7: case 8: onlookers(); break;
            default: twoRooms();
        }
    }

    private void rooms() {
        int p = person(), l = number(6), what = number(7), n = number(9);
        long v = chance.nextLong();
        switch (below(40)) {
            case 0: put(spoilt(room())); break;
            case 1: is("write", x.write(n, v), y.write(n, v)); break;
            case 2: is("wipe()", x.wipe(), y.wipe()); break;
            case 3: is("fault()", x.fault(), y.fault()); break;
            case 4: is("lay()", x.lay(), y.lay()); break;
            default:
                is("person(" + p + ", " + l % 4 + ")", x.person(p, l % 4), y.person(p, l % 4));
                is("law(" + p + ", " + l + ")", x.law(p, l), y.law(p, l));
                is("count(" + what + ")", x.count(what), y.count(what));
        }
    }

    private void lines() {
        int what = number(5), four = number(4), part = number(2), p = person(), v = number(100);
        is("lines(" + what + ")", x.lines(what), y.lines(what));
        is("served(" + four + ")", x.served(four), y.served(four));
        is("bell(" + p + ", " + v + ")", x.bell(p, v), y.bell(p, v));
        if (below(8) == 0) {
            is("pairs(" + part + ")", x.pairs(part), y.pairs(part));
            is("best(" + p + ", " + part + ")", x.best(p, part), y.best(p, part));
        }
    }

    private void rounds() {
        int rule = number(4), z = below(4) == 0 ? number(10000) : below(5), what = number(4), p = person();
        String asked = "(" + rule + ", " + z + ", " + what + ")";
        is("round" + asked, x.round(rule, z, what), y.round(rule, z, what));
        int second = below(2) == 0 ? rule : number(4);
        is("of(" + second + ", " + z + ", " + p + ")", x.of(second, z, p), y.of(second, z, p));
        if (below(8) == 0) {
            is("means" + asked, x.means(rule, z, what), y.means(rule, z, what));
        }
        if (below(30) == 0) {
            is("rules(" + z + ", " + what + ")", x.rules(z, what), y.rules(z, what));
        }
    }

    private void onlookers() {
        int i = number(1 + Math.max(0, y.count(4))), what = number(4), p = person(), part = number(2);
        is("shout(" + i + ", " + what + ")", x.shout(i, what), y.shout(i, what));
        is("known(" + p + ")", x.known(p), y.known(p));
        is("least(" + part + ")", x.least(part), y.least(part));
        is("laws(" + p + ")", x.laws(p), y.laws(p));
    }

    private void twoRooms() {
        int other = number(1 << y.count(0)), k = below(2) == 0 ? number(100) : below(10), what = number(2);
        is("two(" + other + ", " + k + ", " + what + ")", x.two(other, k, what), y.two(other, k, what));
        if (below(3) == 0) {
            is("keep()", x.keep(), y.keep());
        }
        if (below(3) == 0) {
            is("back()", x.back(), y.back());
        }
        is("count(5)", x.count(5), y.count(5));
        is("count(4)", x.count(4), y.count(4));
    }

    private void allOfTheLog() {
        for (int i = 0; i <= y.log.size() && calls < MOST_CALLS - 4; i++) {
            for (int what = 0; what < 4; what++) {
                is("shout(" + i + ", " + what + ")", x.shout(i, what), y.shout(i, what));
            }
        }
    }
}
