/** The edges of promises 1 to 5 and of section 1: THE TAPE, its TOKENS, the FAULTS of a text. */
public final class TapeEdgesTest {
    private static final Checks C = new Checks();
    private static final int BAD = OmenLine.BAD, STATE = OmenLine.STATE, FULL = OmenLine.FULL, NONE = OmenLine.NONE;
    /** All that may be told at once: of 160 bytes none is left. */
    private static final String LONGEST = "blocks8;cat0;cat2;cat4;cat6;guard0;guard1;guard2;guard3;guard4;guard5;"
            + "guard6;lock0 1;lock2 3;lock4 5;lock6 7;plain up0 0;plain up0 0;plain up0 0;plain up9 9 ;  ";

    public static void main(String[] args) {
        fourBlocksAtFirst();
        nothingElseAtFirst();
        aByte();
        bytesOfTheTape();
        fullTapeStaysAsItIs();
        endOfNothing();
        endKeepsTheFirst();
        endOfTooMany();
        endOfAFullTape();
        linesAreCounted();
        emptyText();
        tapeIsEmptyThen();
        placesFromTheFirstToTheLast();
        toldStaysBehindAFault();
        faultOfTheLatest();
        everyByteAtTheStart();
        everyByteBehindAName();
        everyByteBehindANumber();
        everyByteBehindALine();
        everyByteWithinAName();
        asLongAsMayBe();
        blanksBetween();
        C.finish();
    }

    private static void fourBlocksAtFirst() {
        C.of("1 Four BLOCKS");
        OmenLine x = new OmenLine();
        C.due("rule(0)", x.rule(0), 4);
        C.due("the last", x.block(3, 0), 0);
        C.due("behind the last", x.block(4, 0), BAD);
        C.due("guard", x.guard(3, true), 0);
        C.due("guard", x.guard(4, true), BAD);
        C.due("hang", x.hang(3, 4), 0);
        C.due("hang", x.hang(4, 4), BAD);
    }

    private static void nothingElseAtFirst() {
        C.of("1 no TRAINS; SHEETS have nothing");
        OmenLine x = new OmenLine();
        for (int t = -1; t <= 4; t++) {
            C.due("train", x.train(t, 0), BAD);
            C.due("home", x.home(t), BAD);
            C.due("lock", x.lock(t, 0), BAD);
        }
        C.due("fault", x.fault(), 0);
        C.due("torn", x.torn(), 0);
        C.due("bytes", x.count(2), 0);
        C.due("seen", x.count(0), 0);
        C.due("images", x.count(1), 0);
        for (int k = 0; k < 4; k++) {
            C.due("a sheet is nothing", x.lay(k, 0, 0), -11);
            for (int lane = 0; lane < 3; lane++) {
                C.due("nothing is read", x.read(k, lane, 0, 1), 0);
                C.due("torn", x.torn(), 1);
            }
        }
        C.due("sheet 0", x.count(3), NONE);
    }

    private static void aByte() {
        C.of("2 A byte (0 to 127)");
        OmenLine x = new OmenLine();
        C.beyond("feed", 0, 127, BAD, x::feed);
        C.due("none came", x.count(2), 0);
        for (int c = 0; c <= 127; c++) {
            C.due("feed(" + c + ")", x.feed(c), c + 1);
        }
        C.beyond("feed", 0, 127, BAD, x::feed);
        C.due("none came", x.count(2), 128);
    }

    private static void bytesOfTheTape() {
        C.of("2 FULL: more than 160");
        OmenLine x = new OmenLine();
        for (int i = 1; i <= 160; i++) {
            C.due("feed", x.feed(' '), i);
        }
        C.due("the next", x.feed(' '), FULL);
        C.due("and the next", x.feed(0), FULL);
        C.due("bytes", x.count(2), 160);
        C.due("blanks alone", x.text(), 0);
        C.due("room again", x.feed(' '), 1);
    }

    private static void fullTapeStaysAsItIs() {
        C.of("2 what is refused changes nothing");
        OmenLine x = new OmenLine();
        C.due("length", LONGEST.length(), 160);
        Checks.feed(x, LONGEST);
        C.due("FULL", x.feed('@'), FULL);
        C.due("BAD", x.feed(128), BAD);
        C.due("text", x.text(), 20);
        C.due("the last line", x.train(3, 2), 9);
        OmenLine y = new OmenLine();
        Checks.feed(y, LONGEST.substring(0, LONGEST.lastIndexOf(';')));
        Checks.feed(y, "   ");
        C.due("FULL: this one does not end the line", y.feed(';'), FULL);
        C.due("text", y.text(), -10 - 160);
        C.due("fault", y.fault(), 2);
    }

    private static void endOfNothing() {
        C.of("3 end of an empty TAPE");
        OmenLine x = new OmenLine();
        C.due("end(0)", x.end(0), 0);
        C.beyond("end", 0, 0, BAD, x::end);
        C.due("feed", x.feed('c'), 1);
    }

    private static void endKeepsTheFirst() {
        C.of("3 THE TAPE keeps its first n bytes: how many it had");
        OmenLine x = new OmenLine();
        Checks.feed(x, "guard 3;cat 2;@");
        C.due("all of them", x.end(15), 15);
        C.due("all but one", x.end(14), 15);
        C.due("a line less", x.end(8), 14);
        C.due("bytes", x.count(2), 8);
        Checks.feed(x, "cat 1;");
        C.due("behind the first eight", x.text(), 2);
        C.due("guard", x.rule(3), 8);
        C.due("omens", x.rule(4), 2);
        Checks.feed(x, "@@");
        C.due("none", x.end(0), 2);
        C.due("bytes", x.count(2), 0);
        C.due("text", x.text(), 0);
    }

    private static void endOfTooMany() {
        C.of("3 BAD: it has no n bytes; it stays as it is");
        OmenLine x = new OmenLine();
        Checks.feed(x, "cat 1;");
        C.beyond("end", 0, 6, BAD, x::end);
        C.due("160 is more than it has", x.end(160), BAD);
        C.due("bytes", x.count(2), 6);
        C.due("text", x.text(), 1);
    }

    private static void endOfAFullTape() {
        C.of("3 end of a full TAPE");
        OmenLine x = new OmenLine();
        Checks.feed(x, LONGEST);
        C.due("end(161)", x.end(161), BAD);
        C.due("end(160)", x.end(160), 160);
        C.due("still full", x.feed(' '), FULL);
        C.due("end(159)", x.end(159), 160);
        C.due("feed", x.feed('@'), 160);
        C.due("full", x.feed(' '), FULL);
        C.due("text", x.text(), -10 - 159);
    }

    private static void linesAreCounted() {
        C.of("4 how many lines");
        C.taken("", 0);
        C.taken("cat 0;", 1);
        C.taken("cat 0;cat 1;", 2);
        C.taken(LONGEST, 20);
        for (String line : FaultEdgesTest.LINES) {
            C.taken(line, 1);
        }
        OmenLine x = Checks.line(LONGEST);
        C.due("blocks", x.rule(0), 8);
        C.due("trains", x.rule(1), 4);
        C.due("locks", x.rule(2), 4);
        C.due("guarded", x.rule(3), 127);
        C.due("omens", x.rule(4), 85);
    }

    private static void emptyText() {
        C.of("A text that is taken tells all, in place of what there was; nothing is SEEN; IMAGES are gone");
        OmenLine x = Checks.line(LONGEST);
        x.see(0, 0, 0);
        x.see(3, 119, NONE);
        x.keep(0);
        x.keep(1);
        x.sheet(0, 2, 7);
        C.due("an empty one", x.text(), 0);
        C.due("fault", x.fault(), 0);
        C.due("blocks", x.rule(0), 4);
        for (int what = 1; what <= 4; what++) {
            C.due("rule(" + what + ")", x.rule(what), 0);
        }
        for (int b = 0; b < 4; b++) {
            for (int what = 0; what < 3; what++) {
                C.due("block", x.block(b, what), 0);
            }
        }
        C.due("seen", x.count(0), 0);
        C.due("forget", x.forget(1), BAD);
        C.due("images", x.count(1), 0);
        C.due("back(0)", x.back(0), STATE);
        C.due("back(1)", x.back(1), STATE);
        C.due("a sheet is none of it", x.count(3), 7);
        C.due("trains are told anew", Checks.tell(x, "devout down 8 7;"), 1);
        C.due("trains", x.rule(1), 1);
        C.due("worths", x.count(5), 7);
    }

    private static void tapeIsEmptyThen() {
        C.of("4 THE TAPE (empty then)");
        OmenLine x = new OmenLine();
        C.due("taken", Checks.tell(x, "cat 1;"), 1);
        C.due("bytes", x.count(2), 0);
        C.due("refused", Checks.tell(x, "cat 9;"), -14);
        C.due("bytes", x.count(2), 0);
        C.due("refused behind all", Checks.tell(x, "cat 4;"), -16);
        C.due("bytes", x.count(2), 0);
        C.due("omens stay", x.rule(4), 2);
        C.due("and none of it is read again", x.text(), 0);
        C.due("so there are none", x.rule(4), 0);
    }

    private static void placesFromTheFirstToTheLast() {
        C.of("4 -10 less the place of its FAULT");
        for (int place : new int[] {0, 1, 2, 80, 158, 159}) {
            C.refused(" ".repeat(place) + "@", 1, place);
            C.refused(" ".repeat(place) + ";", 2, place);
        }
        C.refused(" ".repeat(157) + "cat", 2, 160);
        C.refused(" ".repeat(154) + "cat 4;", 6, 160);
        C.refused(" ".repeat(140) + "cat 1;cat  2;lock1 2", 2, 160);
        C.refused(" ".repeat(139) + "cat 1;cat  2;lock1 2;", 7, 160);
    }

    private static void toldStaysBehindAFault() {
        C.of("4 that which was told stays");
        String[] wrong = {"?", "blocks 2;x", "blocks 9;", "blocks 2;blocks 2;",
            "lock 0 1;lock 0 1;lock 0 1;lock 0 1;lock", "blocks 2;guard 2;", "cat 0;cat 1;lock 0 1;"};
        for (int i = 0; i < wrong.length; i++) {
            OmenLine x = Checks.line("blocks 6;hearse 5;guard 4;lock 2 3;sceptic down 6 7;");
            x.see(0, 0, NONE);
            x.keep(1);
            C.that("refused <" + wrong[i] + ">", Checks.tell(x, wrong[i]) <= -10);
            C.due("its fault", x.fault(), i + 1);
            C.due("blocks", x.rule(0), 6);
            C.due("guards", x.rule(3), 16);
            C.due("omens", x.rule(4), 32);
            C.due("omen", x.block(5, 0), 4);
            C.due("locks", x.rule(2), 1);
            C.due("lock", 10 * x.lock(0, 0) + x.lock(0, 1), 23);
            C.due("trains", x.rule(1), 1);
            for (int what = 0; what < 4; what++) {
                C.due("train", x.train(0, what), new int[] {1, 1, 6, 7}[what]);
            }
            C.due("seen", x.count(0), 1);
            C.due("image", x.back(1), 1);
        }
    }

    private static void faultOfTheLatest() {
        C.of("5 The FAULT of the latest text(); 0");
        OmenLine x = new OmenLine();
        C.due("no text was", x.fault(), 0);
        x.feed('@');
        C.due("not read yet", x.fault(), 0);
        x.text();
        C.due("no TOKEN", x.fault(), 1);
        C.due("asked again", x.fault(), 1);
        Checks.feed(x, "blocks 9;");
        C.due("not read yet", x.fault(), 1);
        x.text();
        C.due("the latest", x.fault(), 3);
        x.text();
        C.due("an empty text has none", x.fault(), 0);
    }

    private static boolean isLetter(int c) {
        return c >= 'a' && c <= 'z';
    }

    private static boolean isFigure(int c) {
        return c >= '0' && c <= '9';
    }

    private static void everyByteAtTheStart() {
        C.of("TOKENS: NAMES (a .. z), NUMBERS, one ;, blanks (32) between");
        for (int c = 0; c <= 127; c++) {
            String text = "" + (char) c;
            if (c == ' ') {
                C.taken(text, 0);
            } else {
                C.refused(text, isLetter(c) || isFigure(c) || c == ';' ? 2 : 1, 0);
            }
        }
    }

    private static void everyByteBehindAName() {
        C.of("TOKENS: what ends a NAME");
        for (int c = 0; c <= 127; c++) {
            String text = "cat" + (char) c;
            if (isLetter(c)) {
                C.refused(text, 2, 0);
            } else if (isFigure(c)) {
                C.refused(text, c <= '7' ? 2 : 3, c <= '7' ? 4 : 3);
            } else if (c == ' ') {
                C.refused(text, 2, 4);
            } else {
                C.refused(text, c == ';' ? 2 : 1, 3);
            }
        }
    }

    private static void everyByteBehindANumber() {
        C.of("TOKENS: what ends a NUMBER");
        for (int c = 0; c <= 127; c++) {
            String text = "cat 1" + (char) c;
            if (isFigure(c)) {
                C.refused(text, 3, 4);
            } else if (c == ';') {
                C.taken(text, 1);
            } else if (c == ' ') {
                C.refused(text, 2, 6);
            } else {
                C.refused(text, isLetter(c) ? 2 : 1, 5);
            }
        }
    }

    private static void everyByteBehindALine() {
        C.of("TOKENS: what comes behind a line");
        for (int c = 0; c <= 127; c++) {
            String text = "cat 1;" + (char) c;
            if (c == ' ') {
                C.taken(text, 1);
            } else {
                C.refused(text, isLetter(c) || isFigure(c) || c == ';' ? 2 : 1, 6);
            }
        }
    }

    private static void everyByteWithinAName() {
        C.of("a TOKEN is read when the one before has been taken");
        for (int c = 0; c <= 127; c++) {
            String text = "gu" + (char) c + "rd 1;";
            if (c == 'a') {
                C.taken(text, 1);
            } else {
                C.refused(text, 2, 0);
            }
        }
        C.refused("cat 8@", 3, 4);
        C.refused("cat 1;cat 1@", 4, 10);
        C.refused("blocks 5;blocks@", 4, 9);
        C.refused("lock 1 1@", 3, 7);
        C.refused("lock 8 @", 3, 5);
        C.refused("lock 1 @", 1, 7);
        C.refused("plain dawn @", 2, 6);
        C.refused("plain up 10 @", 3, 9);
        C.refused("plain up 1 10 @", 3, 11);
        C.refused("plain up 1 1 @", 1, 13);
    }

    private static void asLongAsMayBe() {
        C.of("TOKENS, each as long as may be");
        C.refused("catcat 1;", 2, 0);
        C.refused("plainup 0 0;", 2, 0);
        C.refused("plain upup 0 0;", 2, 6);
        C.refused("lock 01;", 2, 7);
        C.taken("lock 0 1;", 1);
        C.refused("plain up 00;", 2, 11);
        C.taken("plain up 0 0;", 1);
        C.refused("cat 1;;", 2, 6);
        C.taken("cat1;cat2;", 2);
        C.refused("ca", 2, 0);
        C.refused("c at 1;", 2, 0);
        C.refused("cat 1 1;", 2, 6);
        C.refused("z", 2, 0);
        C.refused("catz{", 2, 0);
        C.refused("x".repeat(160), 2, 0);
        C.refused("7".repeat(160), 1, 0);
    }

    private static void blanksBetween() {
        C.of("TOKENS, blanks (32) between");
        for (String line : FaultEdgesTest.LINES) {
            C.taken(line.replace(" ", "   "), 1);
            C.taken("   " + line + "   ", 1);
            C.taken(line.replace(" ;", ";"), 1);
        }
        for (char c : new char[] {31, 33, '\t', '\n', 0, 127}) {
            C.refused("cat" + c + "1;", 1, 3);
            C.refused(c + "cat 1;", 1, 0);
            C.refused("cat 1;" + c, 1, 6);
            C.refused("cat 1; " + c, 1, 7);
        }
    }
}
