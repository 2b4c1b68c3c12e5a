/** What the tests share: answers beside those that are due, and rooms laid from a text. */
final class Due {
    private final String test;
    private int asked = 0;
    private int wrong = 0;

    Due(String test) {
        this.test = test;
    }

    void is(String call, long got, long due) {
        asked++;
        if (got != due) {
            wrong++;
            System.out.println(test + ": " + call + " answered " + got + ", due is " + due);
        }
    }

    void end() {
        System.out.println(test + ": " + asked + " answers, " + wrong + " not as due");
        if (wrong != 0 || asked == 0) {
            System.exit(1);
        }
    }

    /** Writes a text by as few calls as can be; answers what the last one answered. */
    static int write(ShoutedPrices x, String text) {
        int answer = x.count(3);
        for (int from = 0; from < text.length(); from += 8) {
            int n = Math.min(8, text.length() - from);
            long v = 0;
            for (int i = 0; i < n; i++) {
                v = v << 8 | text.charAt(from + i);
            }
            answer = x.write(n, v);
        }
        return answer;
    }

    static int fault(String text) {
        ShoutedPrices x = new ShoutedPrices();
        write(x, text);
        return x.fault();
    }

    static int lay(ShoutedPrices x, String text) {
        x.wipe();
        write(x, text);
        return x.lay();
    }

    static ShoutedPrices laid(String text) {
        ShoutedPrices x = new ShoutedPrices();
        if (lay(x, text) < 2) {
            System.out.println("not laid: " + text);
            System.exit(1);
        }
        return x;
    }

    static String repeat(String item, int times) {
        StringBuilder all = new StringBuilder();
        for (int i = 0; i < times; i++) {
            all.append(item);
        }
        return all.toString();
    }
}
