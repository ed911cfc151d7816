/** What the tests share: answers that are compared, texts that are fed. */
final class Checks {
    private int wrong;
    private int asked;

    void due(String call, long got, long want) {
        asked++;
        if (got != want) {
            wrong++;
            System.out.println(call + " answered " + got + ", due is " + want);
        }
    }

    void that(String what, boolean holds) {
        due(what, holds ? 1 : 0, 1);
    }

    /** Feeds a text behind THE TAPE. */
    static void feed(OmenLine x, String text) {
        for (int i = 0; i < text.length(); i++) {
            x.feed(text.charAt(i));
        }
    }

    static int tell(OmenLine x, String text) {
        feed(x, text);
        return x.text();
    }

    /** A new object that has been told a text, which must be taken. */
    static OmenLine line(String text) {
        OmenLine x = new OmenLine();
        int lines = tell(x, text);
        if (lines < 0) {
            throw new IllegalStateException("not taken: " + text + " by " + lines);
        }
        return x;
    }

    void finish() {
        System.out.println(asked + " answers, " + wrong + " not as due");
        if (wrong != 0) {
            System.exit(1);
        }
    }
}
