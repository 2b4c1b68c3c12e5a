import java.util.function.Supplier;

/** What the tests share: answers beside those that are due, and rooms laid from a text. */
final class Due {
    /** Numbers that no call is told. */
    static final int[] FAR = {-1, Integer.MIN_VALUE, Integer.MAX_VALUE};

    interface Call {
        long on(ShoutedPrices x);
    }

    private final String test;
    private int asked = 0;
    private int wrong = 0;

    Due(String test) {
        this.test = test;
    }

    void is(String call, long got, long due) {
        asked++;
        if (got != due) {
            wrong++;
            System.out.println(test + ": " + call + " answered " + got + ", due is " + due);
        }
    }

    void holds(String what, boolean so) {
        is(what, so ? 1 : 0, 1);
    }

    /** A call that changes nothing: its answer, and all else as in a twin that it was not asked of. */
    void changesNothing(String call, Supplier<ShoutedPrices> made, Call asked, long answer) {
        ShoutedPrices x = made.get(), twin = made.get();
        is(call, asked.on(x), answer);
        holds(call + " changes nothing", Whole.of(x).equals(Whole.of(twin)));
    }

    void end() {
        System.out.println(test + ": " + asked + " answers, " + wrong + " not as due");
        if (wrong != 0 || asked == 0) {
            System.exit(1);
        }
    }

    /** Writes a text by as few calls as can be; answers what the last one answered. */
    static int write(ShoutedPrices x, String text) {
        int answer = x.count(3);
        for (int from = 0; from < text.length(); from += 8) {
            String part = text.substring(from, Math.min(from + 8, text.length()));
            answer = x.write(part.length(), packed(part));
        }
        return answer;
    }

    /** Up to eight signs as a number, the first one highest. */
    static long packed(String signs) {
        long v = 0;
        for (int i = 0; i < signs.length(); i++) {
            v = v << 8 | signs.charAt(i);
        }
        return v;
    }

    static int fault(String text) {
        ShoutedPrices x = new ShoutedPrices();
        write(x, text);
        return x.fault();
    }

    static int lay(ShoutedPrices x, String text) {
        x.wipe();
        write(x, text);
        return x.lay();
    }

    static ShoutedPrices laid(String text) {
        ShoutedPrices x = new ShoutedPrices();
        if (lay(x, text) < 2) {
            System.out.println("not laid: " + text);
            System.exit(1);
        }
        return x;
    }
}
