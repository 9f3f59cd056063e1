import java.util.function.IntUnaryOperator;

/** What the tests of the document's sentences share. Refusals are written out: they are promised too. */
abstract class SentenceTests {
    static final int NUMBER = -1;
    static final int FULL = -2;
    static final int NONE = -3;
    static final int STATE = -4;
    static final int MIN = Integer.MIN_VALUE;
    static final int MAX = Integer.MAX_VALUE;

    private final Sentences sentences;
    private String section = "";

    SentenceTests(Sentences sentences) {
        this.sentences = sentences;
    }

    abstract void all();

    /** The section of the document from which the passages below are. */
    final void section(String name) {
        section = name;
    }

    final void says(String passage) {
        sentences.open(section, passage);
    }

    final void is(String call, long got, long want) {
        sentences.is(call, got, want);
    }

    /** Numbers just outside of a span, and far outside of it, where narrower numbers would wrap around. */
    static int[] outside(int least, int greatest) {
        int[] far = {MIN, MIN + 1, MAX - 1, MAX, least - 65536, least + 65536, least - 256, least + 256, -least, -greatest};
        int[] all = new int[far.length + 2];
        int n = 0;
        for (int v : far) {
            if (v < least || v > greatest) {
                all[n++] = v;
            }
        }
        all[n++] = least - 1;
        all[n++] = greatest + 1;
        return java.util.Arrays.copyOf(all, n);
    }

    /** Every number outside of the span is answered with NUMBER. */
    final void refusesOutside(int least, int greatest, String call, IntUnaryOperator ask) {
        answersOutside(least, greatest, NUMBER, call, ask);
    }

    final void answersOutside(int least, int greatest, int want, String call, IntUnaryOperator ask) {
        for (int v : outside(least, greatest)) {
            is(call.replace("#", Integer.toString(v)), ask.applyAsInt(v), want);
        }
    }

    /** The answers of a call for 0, 1, 2 .. are these. */
    final void row(String call, IntUnaryOperator ask, int... want) {
        for (int v = 0; v < want.length; v++) {
            is(call.replace("#", Integer.toString(v)), ask.applyAsInt(v), want[v]);
        }
    }
}
