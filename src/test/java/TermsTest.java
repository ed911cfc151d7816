/** "Terms": the answers, that the first one fits which is told first, fractions. */
public final class TermsTest {
    private static final Checks C = new Checks();
    private static final int BAD = OmenLine.BAD, STATE = OmenLine.STATE, FULL = OmenLine.FULL, NONE = OmenLine.NONE;

    public static void main(String[] args) {
        constants();
        badAheadOfState();
        badAheadOfFull();
        badAheadOfNone();
        badAheadOfTheMachine();
        lowestTerms();
        nothingByOne();
        C.finish();
    }

    private static void constants() {
        C.of("Answers: BAD -1, STATE -2, FULL -3, NONE -4");
        C.due("BAD", OmenLine.BAD, -1);
        C.due("STATE", OmenLine.STATE, -2);
        C.due("FULL", OmenLine.FULL, -3);
        C.due("NONE", OmenLine.NONE, -4);
    }

    private static void badAheadOfState() {
        C.of("the first that fits: BAD, then STATE");
        OmenLine x = Checks.line("lock 0 1;cat 0;");
        C.due("hang", x.hang(1, 4), STATE);
        C.beyond("hang", 0, 4, BAD, omen -> x.hang(1, omen));
        C.beyond("hang", 0, 3, BAD, b -> x.hang(b, 4));
        C.due("back", x.back(0), STATE);
        C.beyond("back", 0, 1, BAD, x::back);
    }

    private static void badAheadOfFull() {
        C.of("the first that fits: BAD, then FULL");
        OmenLine x = new OmenLine();
        Checks.feed(x, " ".repeat(160));
        C.due("feed", x.feed(' '), FULL);
        C.beyond("feed", 0, 127, BAD, x::feed);
        OmenLine y = Checks.line("plain up 0 1;");
        for (int i = 1; i <= 6; i++) {
            C.due("see", y.see(0, 0, 0), i);
        }
        C.due("see", y.see(0, 0, 0), FULL);
        C.beyond("see", 0, 0, BAD, t -> y.see(t, 0, 0));
        C.beyond("see", 0, 119, BAD, m -> y.see(0, m, 0));
        C.beyond("see", 0, 3, BAD, b -> y.see(0, 0, b));
    }

    private static void badAheadOfNone() {
        C.of("the first that fits: BAD, then NONE");
        OmenLine x = Checks.line("blocks 4;plain up 0 1;plain down 0 1;");
        C.due("home", x.home(0), NONE);
        C.beyond("home", 0, 1, BAD, x::home);
        C.due("at", x.at(1, 119), 2);
        C.beyond("at", 0, 1, BAD, t -> x.at(t, 119));
        C.due("guards", x.guards(0), NONE);
        C.beyond("guards", 0, 1, BAD, x::guards);
        C.due("starts", x.starts(0), NONE);
        C.beyond("starts", 10, 11, BAD, x::starts);
        C.beyond("starts", 0, 0, BAD, x::starts);
        C.due("convert", x.convert(1), NONE);
        C.beyond("convert", 0, 1, BAD, x::convert);
        C.due("look", x.look(0, 0), NONE);
        C.beyond("look", 0, 1, BAD, t -> x.look(t, 0));
        C.beyond("look", 0, 1, BAD, what -> x.look(0, what));
        C.due("count", x.count(3), NONE);
        C.beyond("count", 0, 5, BAD, x::count);
        OmenLine y = Checks.line("blocks 2;plain up 0 1;");
        C.due("bump", y.bump(2), NONE);
        C.beyond("bump", 0, 2, BAD, y::bump);
        OmenLine z = Checks.line("blocks 2;cat 0;cat 1;plain up 0 1;plain up 0 1;");
        C.due("magpies", z.magpies(1), NONE);
        C.beyond("magpies", 0, 1, BAD, z::magpies);
    }

    private static void badAheadOfTheMachine() {
        C.of("the first that fits: BAD, then what the machine finds");
        OmenLine x = new OmenLine();
        C.due("sheet", x.sheet(0, 0, -1), -14);
        C.beyond("sheet", 0, 3, BAD, k -> x.sheet(k, 0, -1));
        C.beyond("sheet", 0, 2, BAD, lane -> x.sheet(0, lane, -1));
        C.due("lay", x.lay(0, -1, 0), -11);
        C.beyond("lay", 0, 3, BAD, k -> x.lay(k, -1, 0));
        C.due("read", x.read(0, 0, -1, 1), 0);
        C.beyond("read", 0, 3, BAD, k -> x.read(k, 0, -1, 1));
        C.beyond("read", 0, 2, BAD, lane -> x.read(0, lane, -1, 1));
        C.beyond("read", 0, 20, BAD, n -> x.read(0, 0, -1, n));
        C.due("torn", x.torn(), 1);
    }

    private static void fraction(OmenLine x, int v, long above, long below) {
        C.due("mean above, " + v, x.mean(v, 0), above);
        C.due("mean below, " + v, x.mean(v, 1), below);
    }

    private static void lowestTerms() {
        C.of("Fractions are in lowest terms");
        // One BLOCK is free: home in 7, a minute later by v out of ten.
        OmenLine x = Checks.line("blocks 2;hearse 0;plain up 0 1;");
        long[] above = {7, 71, 36, 73, 37, 15, 38, 77, 39, 79, 8};
        long[] below = {1, 10, 5, 10, 5, 2, 5, 10, 5, 10, 1};
        for (int v = 0; v <= 10; v++) {
            fraction(x, v, above[v], below[v]);
        }
    }

    private static void nothingByOne() {
        C.of("0 is 0 by 1");
        OmenLine x = Checks.line("blocks 2;plain up 0 0;");
        OmenLine y = Checks.line("blocks 2;plain up 0 1;plain up 0 1;plain up 0 1;");
        for (int v = 0; v <= 10; v++) {
            fraction(x, v, 0, 1);
            C.due("luck above", y.luck(v, 0), 0);
            C.due("luck below", y.luck(v, 1), 1);
        }
    }
}
