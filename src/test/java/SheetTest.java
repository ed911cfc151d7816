/** Promises 31 to 37: images, sheets, counts. The answers are worked out by hand. */
public final class SheetTest {
    private static final Checks C = new Checks();
    private static final int BAD = OmenLine.BAD, STATE = OmenLine.STATE, NONE = OmenLine.NONE;

    public static void main(String[] args) {
        images();
        sheet();
        lay();
        lowestBits();
        read();
        machineRefuses();
        hangRefuses();
        torn();
        count();
        C.finish();
    }

    private static void images() {
        OmenLine x = Checks.line("blocks 3;cat 1;guard 2;plain up 0 1;devout down 5 6;");
        C.due("31 BAD", x.keep(2), BAD);
        C.due("31 BAD", x.keep(-1), BAD);
        C.due("32 BAD", x.back(2), BAD);
        C.due("32 BAD", x.back(-1), BAD);
        C.due("32 there is none", x.back(1), STATE);
        C.due("31 there was none", x.keep(1), 0);
        C.due("32 the other one", x.back(0), STATE);
        x.hang(0, 2);
        x.hang(1, 0);
        x.hang(2, 4);
        x.guard(2, false);
        x.guard(0, true);
        x.see(0, 0, 0);
        for (int what = 0; what < 4; what++) {
            x.set(0, what, 1);
            x.set(1, what, 0);
        }
        C.due("31 another one", x.keep(0), 0);
        C.due("37 images", x.count(1), 2);
        C.due("32 omens", x.back(1), 1);
        C.due("32 omens are as they were", x.block(1, 0), 3);
        C.due("32 omens are as they were", x.rule(4), 2);
        C.due("32 guards are as they were", x.rule(3), 4);
        int[] facts = {0, 0, 0, 1, 2, 1, 5, 6};
        for (int i = 0; i < 8; i++) {
            C.due("32 trains are as they were", x.train(i / 4, i % 4), facts[i]);
        }
        C.due("32 what is seen stays", x.count(0), 1);
        x.hang(1, 0);
        C.due("32 an image stays as it is", x.back(1), 1);
        C.due("32 the other one", x.back(0), 2);
        C.due("32 the other one", x.train(1, 3), 0);
        C.due("31 there was one", x.keep(1), 1);
        C.due("32 put in its place", x.back(1), 2);
        C.due("37 images", x.count(1), 2);
        x.text();
        C.due("32 gone", x.back(0), STATE);
        C.due("31 gone", x.keep(0), 0);
        C.due("37 images", x.count(1), 1);
    }

    private static void sheet() {
        OmenLine x = new OmenLine();
        C.due("33 BAD k", x.sheet(4, 0, 1), BAD);
        C.due("33 BAD k", x.sheet(-1, 0, -1), BAD);
        C.due("33 BAD lane", x.sheet(0, 3, 1), BAD);
        C.due("33 BAD lane", x.sheet(0, -1, -1), BAD);
        C.due("33 BAD n", x.sheet(0, 0, 41), BAD);
        C.due("33 SIZE", x.sheet(0, 0, -1), -14);
        C.due("33 SIZE", x.sheet(0, 2, Integer.MIN_VALUE), -14);
        C.due("33 refused: nothing still", x.count(3), NONE);
        C.due("33 forty", x.sheet(0, 1, 40), 1);
        C.due("33 forty", x.count(3), 40);
        C.due("33 none", x.sheet(0, 1, 0), 1);
        C.due("33 none", x.count(3), 0);
        C.due("34 none has no cell", x.lay(0, 0, 0), -12);
        C.due("33 all have their own", x.lay(3, 0, 0), -11);
        C.due("33 the last", x.sheet(3, 2, 1), 1);
        C.due("33 the last", x.lay(3, 0, 0), 1);
    }

    private static void lay() {
        OmenLine x = new OmenLine();
        C.due("34 BAD", x.lay(4, 0, 0), BAD);
        C.due("34 BAD", x.lay(-1, 0, 0), BAD);
        C.due("34 NULL", x.lay(0, 0, 0), -11);
        C.due("34 NULL before INDEX", x.lay(0, -1, 0), -11);
        x.sheet(0, 2, 3);
        C.due("34 the first", x.lay(0, 0, 5), 1);
        C.due("34 the last", x.lay(0, 2, 5), 1);
        C.due("34 INDEX", x.lay(0, 3, 5), -12);
        C.due("34 INDEX", x.lay(0, -1, 5), -12);
        C.due("34 INDEX", x.lay(0, Integer.MIN_VALUE, 5), -12);
        x.sheet(0, 2, 4);
        x.lay(0, 1, 3);
        C.due("33 new cells are 0", x.read(0, 2, 0, 2), 2);
        C.due("33 new cells are 0", x.block(0, 0), 0);
        x.lay(0, 3, 2);
        C.due("35 two", x.read(0, 2, 2, 1), 1);
        C.due("35 block 0, a sweep", x.block(0, 0), 2);
    }

    private static void lowestBits() {
        int[] values = {0x12345601, 0x12340001, 0x00000001};
        for (int lane = 0; lane < 3; lane++) {
            for (int v = 0; v < 3; v++) {
                OmenLine x = new OmenLine();
                x.sheet(2, lane, 2);
                C.due("34 lay", x.lay(2, 1, values[v]), 1);
                boolean fits = lane <= v;
                C.due("34 lowest bits, lane " + lane, x.read(2, lane, 0, 1), fits ? 1 : -20);
                C.due("34 lowest bits, lane " + lane, x.block(0, 0), fits ? 1 : 0);
            }
            OmenLine x = new OmenLine();
            x.sheet(2, lane, 2);
            x.lay(2, 1, lane == 0 ? 0x104 : lane == 1 ? 0x10004 : 4);
            C.due("34 lowest bits", x.read(2, lane, 0, 1), 1);
            C.due("34 lowest bits", x.block(0, 0), 4);
            x.lay(2, 1, -1);
            C.due("34 below 0", x.read(2, lane, 0, 1), -20);
        }
        OmenLine x = new OmenLine();
        x.sheet(2, 0, 2);
        x.lay(2, 1, 0x80);
        C.due("34 the sign is a bit too", x.read(2, 0, 0, 1), -20);
    }

    /** SHEET 1, SHORTS: BLOCK and OMEN in turn. */
    private static OmenLine pairs(String text, int... cells) {
        OmenLine x = Checks.line(text);
        x.sheet(1, 1, cells.length);
        for (int i = 0; i < cells.length; i++) {
            x.lay(1, i, cells[i]);
        }
        return x;
    }

    private static void read() {
        OmenLine x = pairs("lock 0 1;cat 1;", 1, 0, 0, 4, 2, 2, 2, 3);
        C.due("35 one behind another", x.read(1, 1, 0, 4), 4);
        C.due("36 torn", x.torn(), 0);
        C.due("35 as by hang", x.block(0, 0), 4);
        C.due("35 as by hang", x.block(1, 0), 0);
        C.due("35 the later one", x.block(2, 0), 3);
        C.due("35 none", x.read(1, 1, 0, 0), 0);
        C.due("35 from a cell on", x.read(1, 1, 5, 1), 1);
        C.due("35 from a cell on", x.block(2, 0), 2);
        C.due("35 BAD k", x.read(4, 1, 0, 1), BAD);
        C.due("35 BAD k", x.read(-1, 1, 0, 1), BAD);
        C.due("35 BAD lane", x.read(1, 3, 0, 1), BAD);
        C.due("35 BAD lane", x.read(1, -1, 0, 1), BAD);
        C.due("35 BAD n", x.read(1, 1, 0, 21), BAD);
        C.due("35 BAD n", x.read(1, 1, 0, -1), BAD);
        OmenLine y = new OmenLine();
        y.sheet(0, 0, 40);
        C.due("35 twenty", y.read(0, 0, 0, 20), 20);
        C.due("36 torn", y.torn(), 0);
    }

    private static void machineRefuses() {
        OmenLine x = pairs("blocks 4;", 0, 1, 1, 2, 2);
        C.due("35 two were whole", x.read(1, 1, 0, 3), 2);
        C.due("36 INDEX", x.torn(), 2);
        C.due("35 they were hung", x.rule(4), 3);
        C.due("35 behind the last cell", x.read(1, 1, 5, 1), 0);
        C.due("36 INDEX", x.torn(), 2);
        C.due("35 far behind", x.read(1, 1, Integer.MAX_VALUE, 20), 0);
        C.due("36 INDEX", x.torn(), 2);
        C.due("35 no turn about 0", x.read(1, 1, -2, 3), 0);
        C.due("36 INDEX", x.torn(), 2);
        C.due("35 bytes are not shorts", x.read(1, 0, 0, 1), 0);
        C.due("36 CAST", x.torn(), 3);
        C.due("35 ints are not shorts", x.read(1, 2, 99, 1), 0);
        C.due("36 CAST before INDEX", x.torn(), 3);
        C.due("35 nothing", x.read(0, 2, -1, 1), 0);
        C.due("36 NULL", x.torn(), 1);
        C.due("35 none of nothing is read", x.read(0, 2, -1, 0), 0);
        C.due("36 so there is no fault", x.torn(), 0);
        C.due("35 none of another lane", x.read(1, 2, 0, 0), 0);
        C.due("36 so there is no fault", x.torn(), 0);
    }

    private static void hangRefuses() {
        OmenLine x = pairs("blocks 4;lock 0 1;sweep 3;", 3, 0, 0, 1, 1, 1, 4, 0);
        C.due("35 a lock keeps the third", x.read(1, 1, 0, 4), -22);
        C.due("35 then none was hung", x.rule(4), 8);
        C.due("35 no such block", x.read(1, 1, 6, 1), -20);
        C.due("35 met before the machine's", x.read(1, 1, 6, 9), -20);
        C.due("35 then none was hung", x.block(3, 0), 2);
        OmenLine y = pairs("blocks 4;", 0, 1, 0, 5, 0, -1, -1, 0);
        C.due("35 no such omen", y.read(1, 1, 0, 2), -21);
        C.due("35 no such omen", y.read(1, 1, 4, 1), -20);
        C.due("35 no such block", y.read(1, 1, 6, 1), -20);
        C.due("35 none was hung", y.rule(4), 0);
    }

    private static void torn() {
        OmenLine x = pairs("blocks 4;", 0, 1, 9, 1);
        C.due("36 at first", x.torn(), 0);
        x.read(1, 0, 0, 1);
        C.due("36 CAST", x.torn(), 3);
        C.due("35 refused", x.read(1, 1, 0, 2), -21);
        C.due("36 that one did not come to an end", x.torn(), 3);
        C.due("35 BAD", x.read(1, 1, 0, 21), BAD);
        C.due("36 nor did that one", x.torn(), 3);
        x.lay(1, 9, 0);
        x.sheet(1, 1, -1);
        C.due("36 others have no part in it", x.torn(), 3);
        C.due("35 one", x.read(1, 1, 0, 1), 1);
        C.due("36 over", x.torn(), 0);
    }

    private static void count() {
        OmenLine x = Checks.line("blocks 8;cat 0;cat 7;plain up 0 9;plain up 0 8;plain up 0 0;plain up 0 7;");
        C.due("37 omens", x.count(4), 2);
        C.due("37 worths", x.count(5), 24);
        Checks.feed(x, "abc");
        C.due("37 bytes", x.count(2), 3);
        x.see(0, 0, 0);
        C.due("37 seen", x.count(0), 1);
        x.keep(1);
        C.due("37 images", x.count(1), 1);
        x.sheet(1, 0, 4);
        C.due("37 sheet 0 has nothing", x.count(3), NONE);
        x.sheet(0, 0, 4);
        C.due("37 cells", x.count(3), 4);
        C.due("37 BAD", x.count(-1), BAD);
        C.due("37 BAD", x.count(6), BAD);
        C.due("37 BAD", x.count(Integer.MAX_VALUE), BAD);
    }
}
