/** What the tests share: answers that are compared, texts that are fed. */
final class Checks {
    /** A call with one of its numbers left open. */
    interface Call {
        long with(int v);
    }

    private String sentence = "";
    private int wrong;
    private int asked;

    /** From here on what is asked belongs to this sentence of the document. */
    void of(String said) {
        sentence = said + ": ";
    }

    void due(String call, long got, long want) {
        asked++;
        if (got != want) {
            wrong++;
            System.out.println(sentence + call + " answered " + got + ", due is " + want);
        }
    }

    int asked() {
        return asked;
    }

    void that(String what, boolean holds) {
        due(what, holds ? 1 : 0, 1);
    }

    /** Values beyond both edges: next to them, far off, and such whose lowest bits would be within. */
    void beyond(String call, int least, int most, long want, Call open) {
        above(call, most, want, open);
        below(call, least, want, open);
    }

    void above(String call, int most, long want, Call open) {
        for (int more : new int[] {1, 2, 32, 256, 65536, Integer.MAX_VALUE - most}) {
            due(call + " with " + (most + more), open.with(most + more), want);
        }
    }

    void below(String call, int least, long want, Call open) {
        for (int v : new int[] {least - 1, least - 256, least - 65536, Integer.MIN_VALUE, Integer.MIN_VALUE + least}) {
            due(call + " with " + v, open.with(v), want);
        }
    }

    /** Where a TRAIN is behind minute 0, 1 and so on: a figure for a BLOCK, - for none. */
    void path(OmenLine x, int t, String want) {
        for (int m = 0; m < want.length(); m++) {
            char c = want.charAt(m);
            due("at(" + t + ", " + m + ")", x.at(t, m), c == '-' ? OmenLine.NONE : c - '0');
        }
    }

    /** A text that a new object takes. */
    void taken(String text, int lines) {
        OmenLine x = new OmenLine();
        due("text of <" + text + ">", tell(x, text), lines);
        due("fault of <" + text + ">", x.fault(), 0);
        due("bytes behind <" + text + ">", x.count(2), 0);
    }

    /** A text that a new object refuses: it tells nothing. */
    void refused(String text, int fault, int place) {
        OmenLine x = new OmenLine();
        due("text of <" + text + ">", tell(x, text), -10 - place);
        due("fault of <" + text + ">", x.fault(), fault);
        due("bytes behind <" + text + ">", x.count(2), 0);
        due("blocks behind <" + text + ">", x.rule(0), 4);
        due("told by <" + text + ">", x.rule(1) + x.rule(2) + x.rule(3) + x.rule(4), 0);
    }

    /** Feeds a text behind THE TAPE. */
    static void feed(OmenLine x, String text) {
        for (int i = 0; i < text.length(); i++) {
            x.feed(text.charAt(i));
        }
    }

    static int tell(OmenLine x, String text) {
        feed(x, text);
        return x.text();
    }

    /** A new object that has been told a text, which must be taken. */
    static OmenLine line(String text) {
        OmenLine x = new OmenLine();
        int lines = tell(x, text);
        if (lines < 0) {
            throw new IllegalStateException("not taken: " + text + " by " + lines);
        }
        return x;
    }

    void finish() {
        System.out.println(asked + " answers, " + wrong + " not as due");
        if (wrong != 0) {
            System.exit(1);
        }
    }
}
