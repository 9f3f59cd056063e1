/** Tells answers that are not as due, and counts them. */
final class Due {
    private final String test;
    private int asked;
    private int wrong;

    Due(String test) {
        this.test = test;
    }

    void is(String what, long got, long want) {
        asked++;
        if (got != want) {
            wrong++;
            System.out.println(test + ": " + what + " answered " + got + ", due is " + want);
        }
    }

    void holds(String what, boolean so) {
        is(what, so ? 1 : 0, 1);
    }

    int asked() {
        return asked;
    }

    int wrong() {
        return wrong;
    }

    void end() {
        System.out.println(test + ": " + asked + " asked, " + wrong + " wrong");
        if (wrong != 0) {
            System.exit(1);
        }
    }

    /** Puts a text on THE TAPE: the last answer of feed. */
    static int feed(RailPasses x, String text) {
        int answer = x.many(8);
        for (int at = 0; at < text.length(); at += 8) {
            int n = Math.min(8, text.length() - at);
            long eight = 0;
            for (int i = 0; i < n; i++) {
                eight |= (long) (text.charAt(at + i) & 255) << 8 * i;
            }
            answer = x.feed(eight, n);
        }
        return answer;
    }

    static int read(RailPasses x, int law, String text) {
        feed(x, text);
        return x.read(law);
    }
}
