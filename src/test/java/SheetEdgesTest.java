/** The edges of promises 31 to 37: images, sheets, counts. The answers are worked out by hand. */
public final class SheetEdgesTest {
    private static final Checks C = new Checks();
    private static final int BAD = OmenLine.BAD, STATE = OmenLine.STATE, NONE = OmenLine.NONE;
    private static final int NULL = 1, INDEX = 2, CAST = 3;

    public static void main(String[] args) {
        keepOneAndTwo();
        keepIsOmensGuardsTrains();
        keepBeyond();
        backOfNoneAndAll();
        backLeavesTheRest();
        backWhenThereIsNone();
        backBeyond();
        sheetOfEachSize();
        sheetIsNew();
        sheetBelowNothing();
        sheetBeyond();
        layEachCell();
        layLowestBits();
        layOutside();
        layBeyond();
        readFromNoneToTwenty();
        readOneBehindAnother();
        readFromEachCell();
        readHalfAPair();
        readOfNothing();
        readOfAnotherLane();
        readRefusedByHang();
        readTheFirstMet();
        readBeyond();
        tornOfTheLatest();
        countOfNothing();
        countOfAll();
        countBeyond();
        C.finish();
    }

    private static void keepOneAndTwo() {
        C.of("31 IMAGE k (0, 1): whether there was one (1, 0)");
        for (int k = 0; k < 2; k++) {
            OmenLine x = new OmenLine();
            C.due("first", x.keep(k), 0);
            C.due("images", x.count(1), 1);
            C.due("again", x.keep(k), 1);
            C.due("images", x.count(1), 1);
            C.due("the other one", x.keep(1 - k), 0);
            C.due("images", x.count(1), 2);
            C.due("again", x.keep(k), 1);
            x.text();
            C.due("gone", x.count(1), 0);
            C.due("first again", x.keep(k), 0);
        }
    }

    private static void keepIsOmensGuardsTrains() {
        C.of("31 OMENS, who is GUARDED, TRAINS (all of them)");
        OmenLine x = Checks.line("blocks 8;hearse 0;cat 7;guard 0;guard 7;plain up 0 1;sceptic down 2 3;devout up 4 5;"
                + "heathen down 9 9;");
        x.keep(0);
        for (int b = 0; b < 8; b++) {
            x.hang(b, 2);
            x.guard(b, true);
        }
        for (int t = 0; t < 4; t++) {
            for (int what = 0; what < 4; what++) {
                x.set(t, what, 1);
            }
        }
        x.keep(1);
        C.due("back", x.back(0), 2);
        int[] facts = {0, 0, 0, 1, 1, 1, 2, 3, 2, 0, 4, 5, 3, 1, 9, 9};
        for (int i = 0; i < 16; i++) {
            C.due("trains", x.train(i / 4, i % 4), facts[i]);
        }
        C.due("guarded", x.rule(3), 129);
        C.due("omens", x.rule(4), 129);
        C.due("which", 10 * x.block(0, 0) + x.block(7, 0), 43);
        C.due("the other one", x.back(1), 8);
        for (int i = 0; i < 16; i++) {
            C.due("trains", x.train(i / 4, i % 4), 1);
        }
        C.due("guarded", x.rule(3), 255);
        C.due("which", x.block(5, 0), 2);
    }

    private static void keepBeyond() {
        C.of("31 BAD");
        OmenLine x = new OmenLine();
        C.beyond("keep", 0, 1, BAD, x::keep);
        C.due("none was kept", x.count(1), 0);
    }

    private static void backOfNoneAndAll() {
        C.of("32 how many OMENS there are");
        OmenLine x = Checks.line("blocks 8;");
        x.keep(0);
        for (int b = 0; b < 8; b++) {
            x.keep(1);
            C.due("so many", x.back(1), b);
            x.hang(b, 1 + b % 4);
        }
        x.keep(1);
        C.due("none", x.back(0), 0);
        C.due("none", x.rule(4), 0);
        C.due("all", x.back(1), 8);
        C.due("all", x.rule(4), 255);
        C.due("as often as may be", x.back(1), 8);
    }

    private static void backLeavesTheRest() {
        C.of("32 All is as IMAGE k: what no IMAGE has stays as it is");
        OmenLine x = Checks.line("blocks 3;lock 0 1;cat 0;plain up 0 1;");
        x.keep(0);
        x.see(0, 0, NONE);
        x.sheet(0, 1, 9);
        Checks.feed(x, "abc");
        x.read(3, 0, 0, 1);
        x.hang(0, 0);
        x.hang(1, 2);
        C.due("back", x.back(0), 1);
        C.due("seen", x.count(0), 1);
        C.due("images", x.count(1), 1);
        C.due("bytes", x.count(2), 3);
        C.due("cells", x.count(3), 9);
        C.due("torn", x.torn(), NULL);
        C.due("a LOCK keeps it as then", x.hang(1, 2), STATE);
    }

    private static void backWhenThereIsNone() {
        C.of("32 STATE: there is none");
        OmenLine x = Checks.line("cat 1;");
        for (int k = 0; k < 2; k++) {
            C.due("none", x.back(k), STATE);
            C.due("nothing changed", x.rule(4), 2);
            x.keep(1 - k);
            C.due("the other one", x.back(k), STATE);
            C.due("that one", x.back(1 - k), 1);
            Checks.tell(x, "cat 1;");
        }
        x.keep(0);
        Checks.tell(x, "@");
        C.due("a text that was refused leaves it", x.back(0), 1);
    }

    private static void backBeyond() {
        C.of("32 BAD");
        OmenLine x = new OmenLine();
        x.keep(0);
        x.keep(1);
        C.beyond("back", 0, 1, BAD, x::back);
    }

    private static void sheetOfEachSize() {
        C.of("33 SHEETS 0 to 3, lanes 0 to 2, 0 to 40 CELLS: 1");
        for (int k = 0; k < 4; k++) {
            for (int lane = 0; lane < 3; lane++) {
                OmenLine x = new OmenLine();
                for (int n : new int[] {0, 1, 39, 40}) {
                    C.due("sheet", x.sheet(k, lane, n), 1);
                    C.due("behind the last CELL", x.lay(k, n, 1), -12);
                    if (n > 0) {
                        C.due("the last CELL", x.lay(k, n - 1, 1), 1);
                    }
                    C.due("cells of 0", x.count(3), k == 0 ? n : NONE);
                }
                for (int other = 0; other < 4; other++) {
                    C.due("no other", x.lay(other, 0, 0), other == k ? 1 : -11);
                }
            }
        }
    }

    private static void sheetIsNew() {
        C.of("33 A SHEET is a new row of CELLS 0");
        OmenLine x = Checks.line("hearse 0;");
        x.sheet(2, 0, 40);
        for (int i = 0; i < 40; i++) {
            x.lay(2, i, 3);
        }
        x.sheet(2, 1, 2);
        C.due("read", x.read(2, 1, 0, 1), 1);
        C.due("BLOCK 0, none", x.rule(4), 0);
        x.hang(0, 4);
        C.due("sheet", x.sheet(2, 2, 40), 1);
        C.due("read", x.read(2, 2, 0, 20), 20);
        C.due("twenty times BLOCK 0, none", x.rule(4), 0);
        C.due("torn", x.torn(), 0);
        C.due("of the new lane", x.read(2, 0, 0, 1) + 10 * x.torn(), 10 * CAST);
    }

    private static void sheetBelowNothing() {
        C.of("33 -10 - 4 (SIZE, below 0)");
        OmenLine x = new OmenLine();
        for (int lane = 0; lane < 3; lane++) {
            for (int n : new int[] {-1, -40, -41, -256, -65536, Integer.MIN_VALUE}) {
                C.due("sheet of " + n, x.sheet(0, lane, n), -14);
            }
        }
        C.due("nothing still", x.count(3), NONE);
        x.sheet(0, 1, 3);
        x.lay(0, 1, 2);
        C.due("refused", x.sheet(0, 0, -1), -14);
        C.due("cells", x.count(3), 3);
        C.due("as it was", x.read(0, 1, 0, 1), 1);
        C.due("as it was", x.block(0, 0), 2);
    }

    private static void sheetBeyond() {
        C.of("33 BAD: also n above 40");
        OmenLine x = new OmenLine();
        x.sheet(0, 2, 5);
        C.beyond("sheet", 0, 3, BAD, k -> x.sheet(k, 0, 1));
        C.beyond("sheet", 0, 2, BAD, lane -> x.sheet(0, lane, 1));
        C.above("sheet", 40, BAD, n -> x.sheet(0, 2, n));
        C.above("sheet", 40, BAD, n -> x.sheet(0, 3, n));
        C.due("as it was", x.count(3), 5);
        C.due("as it was", x.read(0, 2, 0, 1), 1);
    }

    private static void layEachCell() {
        C.of("34 CELL i of a SHEET becomes v: 1");
        for (int lane = 0; lane < 3; lane++) {
            OmenLine x = Checks.line("blocks 8;");
            x.sheet(3, lane, 16);
            for (int i = 0; i < 16; i++) {
                C.due("lay", x.lay(3, i, i % 2 == 0 ? i / 2 : 1 + i / 2 % 4), 1);
            }
            C.due("read", x.read(3, lane, 0, 8), 8);
            for (int b = 0; b < 8; b++) {
                C.due("each BLOCK its OMEN", x.block(b, 0), 1 + b % 4);
            }
            x.lay(3, 15, 4);
            x.lay(3, 15, 0);
            C.due("the last of them", x.read(3, lane, 14, 1), 1);
            C.due("what was laid last", x.block(7, 0), 0);
        }
    }

    /** What a CELL of a lane makes of v, as far as hang() tells: an OMEN 0 to 4, or -20. */
    private static void laid(int lane, int v, int omen) {
        OmenLine x = Checks.line("sweep 0;");
        x.sheet(1, lane, 2);
        C.due("lay " + v, x.lay(1, 1, v), 1);
        C.due("lane " + lane + " of " + v, x.read(1, lane, 0, 1), omen < 0 ? -20 : 1);
        C.due("lane " + lane + " of " + v, x.block(0, 0), omen < 0 ? 2 : omen);
        OmenLine y = Checks.line("blocks 8;sweep 7;");
        y.sheet(1, lane, 2);
        y.lay(1, 0, v);
        y.lay(1, 1, 3);
        C.due("as a BLOCK " + v, y.read(1, lane, 0, 1), omen < 0 ? -20 : 1);
        C.due("as a BLOCK " + v, y.rule(4), omen < 0 ? 128 : 128 | 1 << omen);
    }

    private static void layLowestBits() {
        C.of("34 becomes v (its lowest bits)");
        for (int lane = 0; lane < 3; lane++) {
            laid(lane, 4, 4);
            laid(lane, 0, 0);
            laid(lane, -1, -1);
            laid(lane, 127, -1);
            laid(lane, 128, -1);
            laid(lane, 255, -1);
            laid(lane, 256, lane == 0 ? 0 : -1);
            laid(lane, 257, lane == 0 ? 1 : -1);
            laid(lane, -255, lane == 0 ? 1 : -1);
            laid(lane, -256, lane == 0 ? 0 : -1);
            laid(lane, 32767, -1);
            laid(lane, 32768, lane == 0 ? 0 : -1);
            laid(lane, 65535, -1);
            laid(lane, 65536, lane < 2 ? 0 : -1);
            laid(lane, 65539, lane < 2 ? 3 : -1);
            laid(lane, -65535, lane < 2 ? 1 : -1);
            laid(lane, Integer.MAX_VALUE, -1);
            laid(lane, Integer.MIN_VALUE, lane < 2 ? 0 : -1);
            laid(lane, Integer.MIN_VALUE + 2, lane < 2 ? 2 : -1);
        }
    }

    private static void layOutside() {
        C.of("34 -10 less the FAULT: NULL, INDEX");
        OmenLine x = Checks.line("cat 0;");
        for (int k = 0; k < 4; k++) {
            for (int i : new int[] {0, -1, 40, Integer.MIN_VALUE, Integer.MAX_VALUE}) {
                C.due("nothing", x.lay(k, i, 1), -10 - NULL);
            }
        }
        for (int lane = 0; lane < 3; lane++) {
            for (int n : new int[] {0, 1, 2, 40}) {
                x.sheet(1, lane, n);
                C.beyond("lay", 0, n - 1, -10 - INDEX, i -> x.lay(1, i, 1));
                if (n >= 2) {
                    C.due("nothing was laid", x.read(1, lane, 0, n / 2), n / 2);
                    C.due("nothing was laid", x.rule(4), 0);
                }
            }
        }
    }

    private static void layBeyond() {
        C.of("34 BAD: k");
        OmenLine x = new OmenLine();
        for (int k = 0; k < 4; k++) {
            x.sheet(k, 0, 1);
        }
        C.beyond("lay", 0, 3, BAD, k -> x.lay(k, 0, 1));
        C.beyond("lay", 0, 3, BAD, k -> x.lay(k, 9, 1));
    }

    /** SHEET 1 of a lane: BLOCK and OMEN in turn. */
    private static OmenLine pairs(String text, int lane, int... cells) {
        OmenLine x = Checks.line(text);
        x.sheet(1, lane, cells.length);
        for (int i = 0; i < cells.length; i++) {
            x.lay(1, i, cells[i]);
        }
        return x;
    }

    private static void readFromNoneToTwenty() {
        C.of("35 n (0 to 20) times a BLOCK, an OMEN: how many were hung");
        for (int lane = 0; lane < 3; lane++) {
            OmenLine x = Checks.line("blocks 8;");
            x.sheet(1, lane, 40);
            for (int i = 0; i < 40; i++) {
                x.lay(1, i, i % 2 == 0 ? i / 2 % 8 : 1 + i / 16);
            }
            C.due("none", x.read(1, lane, 0, 0), 0);
            C.due("none", x.rule(4), 0);
            C.due("one", x.read(1, lane, 0, 1), 1);
            C.due("one", x.rule(4), 1);
            C.due("nineteen", x.read(1, lane, 0, 19), 19);
            C.due("the third row is not whole", x.block(3, 0), 2);
            C.due("twenty", x.read(1, lane, 0, 20), 20);
            C.due("the last", x.block(3, 0), 3);
            C.due("the second row", x.block(4, 0), 2);
            C.due("torn", x.torn(), 0);
        }
    }

    private static void readOneBehindAnother() {
        C.of("35 one behind another as by hang()");
        OmenLine x = pairs("lock 0 1;hearse 0;", 2, 0, 0, 1, 1, 1, 0, 0, 2);
        C.due("each is hung when those ahead of it are", x.read(1, 2, 0, 4), 4);
        C.due("BLOCK 0", x.block(0, 0), 2);
        C.due("BLOCK 1", x.block(1, 0), 0);
        OmenLine y = pairs("lock 0 1;hearse 0;", 2, 1, 1, 0, 0);
        C.due("not those behind", y.read(1, 2, 0, 2), -20);
        C.due("as it was", y.block(0, 0), 4);
    }

    private static void readFromEachCell() {
        C.of("35 two CELLS each from CELL f on");
        for (int f = 0; f <= 4; f++) {
            OmenLine x = pairs("", 0, 1, 2, 3, 0, 1, 2);
            // 1 2, 2 3, 3 0, 0 1, 1 2: a BLOCK, an OMEN.
            int[] block = {1, 2, 3, 0, 1};
            int[] omen = {2, 3, 0, 1, 2};
            C.due("read", x.read(1, 0, f, 1), 1);
            C.due("from " + f + " on", x.block(block[f], 0), omen[f]);
            C.due("alone", x.rule(4), omen[f] == 0 ? 0 : 1 << block[f]);
        }
    }

    private static void readHalfAPair() {
        C.of("35 What the machine refuses: those that were whole ahead were (2 INDEX)");
        OmenLine x = pairs("", 1, 0, 1, 1, 2, 2);
        C.due("the third is not whole", x.read(1, 1, 0, 3), 2);
        C.due("torn", x.torn(), INDEX);
        C.due("hung", x.rule(4), 3);
        int[] none = {4, 5, 6, 40, Integer.MAX_VALUE, Integer.MAX_VALUE - 1, -1, -2, -40, Integer.MIN_VALUE};
        for (int f : none) {
            OmenLine y = pairs("", 1, 0, 1, 1, 2, 2);
            C.due("from " + f + " on", y.read(1, 1, f, 20), 0);
            C.due("torn", y.torn(), INDEX);
            C.due("none hung", y.rule(4), 0);
            C.due("none are read", y.read(1, 1, f, 0), 0);
            C.due("torn", y.torn(), 0);
        }
        OmenLine z = Checks.line("hearse 0;");
        z.sheet(0, 2, 39);
        C.due("of 39 CELLS", z.read(0, 2, 0, 20), 19);
        C.due("torn", z.torn(), INDEX);
        z.sheet(0, 2, 40);
        C.due("from 1 on", z.read(0, 2, 1, 20), 19);
        C.due("torn", z.torn(), INDEX);
        C.due("from 1 on, one less", z.read(0, 2, 1, 19), 19);
        C.due("torn", z.torn(), 0);
        z.sheet(0, 2, 0);
        C.due("of none", z.read(0, 2, 0, 1), 0);
        C.due("torn", z.torn(), INDEX);
    }

    private static void readOfNothing() {
        C.of("35 What the machine refuses (1 NULL)");
        OmenLine x = Checks.line("cat 1;");
        for (int k = 0; k < 4; k++) {
            for (int lane = 0; lane < 3; lane++) {
                for (int f : new int[] {0, -1, Integer.MAX_VALUE}) {
                    C.due("read", x.read(k, lane, f, 20), 0);
                    C.due("torn", x.torn(), NULL);
                }
            }
        }
        C.due("nothing changed", x.rule(4), 2);
    }

    private static void readOfAnotherLane() {
        C.of("35 What the machine refuses (3 CAST)");
        for (int lane = 0; lane < 3; lane++) {
            OmenLine x = pairs("", lane, 0, 1);
            for (int as = 0; as < 3; as++) {
                x.hang(0, 0);
                C.due("lane " + lane + " as " + as, x.read(1, as, 0, 1), as == lane ? 1 : 0);
                C.due("torn", x.torn(), as == lane ? 0 : CAST);
                C.due("hung", x.block(0, 0), as == lane ? 1 : 0);
                C.due("outside as well", x.read(1, as, 2, 1), 0);
                C.due("torn", x.torn(), as == lane ? INDEX : CAST);
            }
            x.sheet(1, lane, 0);
            C.due("without CELLS", x.read(1, (lane + 1) % 3, 0, 1), 0);
            C.due("torn", x.torn(), CAST);
        }
    }

    private static void readRefusedByHang() {
        C.of("35 -20 less i: the i-th, whole, is refused by hang() (in whichever way): then none was");
        int[][] wrong = {{4, 1}, {-1, 1}, {0, 5}, {0, -1}, {1, 1}};
        for (int[] pair : wrong) {
            for (int i = 0; i < 20; i++) {
                OmenLine x = Checks.line("lock 0 1;hearse 0;");
                x.sheet(0, 2, 40);
                for (int c = 0; c < 20; c++) {
                    x.lay(0, 2 * c, c == i ? pair[0] : 2 + c % 2);
                    x.lay(0, 2 * c + 1, c == i ? pair[1] : 3);
                }
                C.due("the " + i + "-th", x.read(0, 2, 0, 20), -20 - i);
                C.due("then none was", x.rule(4), 1);
                C.due("ahead of it", x.read(0, 2, 0, i), i);
            }
        }
        OmenLine y = pairs("blocks 2;", 0, 1, 4, 2, 0);
        C.due("no such BLOCK now", y.read(1, 0, 0, 2), -21);
        Checks.tell(y, "blocks 3;");
        C.due("there is one", y.read(1, 0, 0, 2), 2);
    }

    private static void readTheFirstMet() {
        C.of("35 the first met");
        OmenLine x = pairs("cat 3;", 0, 0, 1, 9, 9, 1);
        C.due("refused ahead of INDEX", x.read(1, 0, 0, 3), -21);
        C.due("then none was", x.rule(4), 8);
        C.due("half of it is not refused", x.read(1, 0, 3, 1), -20);
        C.due("INDEX ahead of what would be refused", x.read(1, 0, 4, 1), 0);
        C.due("torn", x.torn(), INDEX);
        OmenLine y = pairs("cat 3;", 0, 0, 1, 9);
        C.due("not whole: not refused", y.read(1, 0, 0, 2), 1);
        C.due("torn", y.torn(), INDEX);
        C.due("hung", y.rule(4), 9);
        OmenLine z = pairs("", 0, 9, 9);
        C.due("CAST ahead of hang()", z.read(1, 1, 0, 1), 0);
        C.due("torn", z.torn(), CAST);
        C.due("two are refused", z.read(1, 0, 0, 2), -20);
    }

    private static void readBeyond() {
        C.of("35 BAD: k, lane, n");
        OmenLine x = pairs("", 0, 0, 1);
        C.beyond("read", 0, 3, BAD, k -> x.read(k, 0, 0, 1));
        C.beyond("read", 0, 3, BAD, k -> x.read(k, 0, 0, 0));
        C.beyond("read", 0, 2, BAD, lane -> x.read(1, lane, 0, 1));
        C.beyond("read", 0, 20, BAD, n -> x.read(1, 0, 0, n));
        C.due("none was hung", x.rule(4), 0);
        C.due("torn", x.torn(), 0);
    }

    private static void tornOfTheLatest() {
        C.of("36 The FAULT of the latest read() that came to an end; 0");
        OmenLine x = pairs("", 0, 0, 1, 9, 1);
        C.due("none was", x.torn(), 0);
        C.due("lay has no part in it", x.lay(0, 0, 0), -10 - NULL);
        C.due("none was", x.torn(), 0);
        x.read(0, 0, 0, 1);
        C.due("NULL", x.torn(), NULL);
        x.read(1, 0, 2, 1);
        C.due("that one was refused", x.torn(), NULL);
        x.read(1, 0, 0, 21);
        C.due("that one was BAD", x.torn(), NULL);
        x.read(1, 0, 4, 1);
        C.due("INDEX", x.torn(), INDEX);
        C.due("asked again", x.torn(), INDEX);
        x.read(1, 2, 0, 1);
        C.due("CAST", x.torn(), CAST);
        x.sheet(0, 0, -1);
        C.due("sheet has no part in it", x.torn(), CAST);
        x.text();
        C.due("nor has text", x.torn(), CAST);
        x.read(1, 0, 0, 1);
        C.due("over", x.torn(), 0);
    }

    private static void countOfNothing() {
        C.of("37 How many: SEEN, IMAGES, bytes on THE TAPE, CELLS of SHEET 0 (NONE: nothing), OMENS, all WORTHS");
        OmenLine x = new OmenLine();
        int[] counts = {0, 0, 0, NONE, 0, 0};
        for (int what = 0; what < 6; what++) {
            C.due("count(" + what + ")", x.count(what), counts[what]);
        }
        for (int k = 1; k < 4; k++) {
            x.sheet(k, 0, 7);
        }
        C.due("of SHEET 0 alone", x.count(3), NONE);
        x.sheet(0, 0, 0);
        C.due("a SHEET without CELLS", x.count(3), 0);
    }

    private static void countOfAll() {
        C.of("37 How many at most");
        OmenLine x = Checks.line("blocks 8;plain up 0 9;plain up 0 9;plain up 0 9;plain up 0 9;");
        for (int b = 0; b < 8; b++) {
            C.due("OMENS", x.count(4), b);
            x.hang(b, 1 + b % 4);
        }
        for (int i = 0; i < 6; i++) {
            x.see(0, 0, 0);
        }
        x.keep(0);
        x.keep(1);
        x.sheet(0, 0, 40);
        Checks.feed(x, "@".repeat(160));
        int[] counts = {6, 2, 160, 40, 8, 36};
        for (int what = 0; what < 6; what++) {
            C.due("count(" + what + ")", x.count(what), counts[what]);
        }
        for (int t = 0; t < 4; t++) {
            x.set(t, 3, t);
            C.due("WORTHS", x.count(5), 36 - 9 * (t + 1) + t * (t + 1) / 2);
        }
        Checks.tell(x, "");
        C.due("that text was refused", x.count(4), 8);
        x.text();
        C.due("none now", x.count(4) + x.count(5), 0);
    }

    private static void countBeyond() {
        C.of("37 BAD");
        OmenLine x = new OmenLine();
        C.beyond("count", 0, 5, BAD, x::count);
    }
}
