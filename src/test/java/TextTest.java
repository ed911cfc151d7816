/** Promises 1 to 10: a new object, THE TAPE, the text, what there is. */
public final class TextTest {
    private static final Checks C = new Checks();

    public static void main(String[] args) {
        newObject();
        feeding();
        ending();
        taken();
        replaced();
        tokens();
        misplaced();
        bounds();
        twice();
        tooMany();
        behindAll();
        orderOfFaults();
        refusedChangesNothing();
        facts();
        waits();
        C.finish();
    }

    private static void newObject() {
        OmenLine x = new OmenLine();
        C.due("1 rule(0)", x.rule(0), 4);
        for (int what = 1; what <= 4; what++) {
            C.due("1 rule " + what, x.rule(what), 0);
        }
        for (int b = 0; b < 4; b++) {
            for (int what = 0; what <= 2; what++) {
                C.due("1 block", x.block(b, what), 0);
            }
        }
        C.due("1 no train", x.train(0, 0), OmenLine.BAD);
        C.due("1 no lock", x.lock(0, 0), OmenLine.BAD);
        C.due("1 fault", x.fault(), 0);
        C.due("1 torn", x.torn(), 0);
        int[] counts = {0, 0, 0, OmenLine.NONE, 0, 0};
        for (int what = 0; what < 6; what++) {
            C.due("1 count " + what, x.count(what), counts[what]);
        }
        for (int k = 0; k < 4; k++) {
            C.due("1 sheets have nothing", x.lay(k, 0, 0), -11);
        }
        C.due("1 no image", x.back(0), OmenLine.STATE);
        C.due("1 no image", x.back(1), OmenLine.STATE);
    }

    private static void feeding() {
        OmenLine x = new OmenLine();
        C.due("2 feed(-1)", x.feed(-1), OmenLine.BAD);
        C.due("2 feed(128)", x.feed(128), OmenLine.BAD);
        C.due("2 feed(min)", x.feed(Integer.MIN_VALUE), OmenLine.BAD);
        C.due("2 feed(0)", x.feed(0), 1);
        C.due("2 feed(127)", x.feed(127), 2);
        for (int i = 3; i <= 160; i++) {
            C.due("2 feed", x.feed(32), i);
        }
        C.due("2 feed full", x.feed(32), OmenLine.FULL);
        C.due("2 BAD before FULL", x.feed(128), OmenLine.BAD);
        C.due("2 count(2)", x.count(2), 160);
        C.due("2 text", x.text(), -10);
        C.due("2 feed again", x.feed(32), 1);
    }

    private static void ending() {
        OmenLine x = new OmenLine();
        C.due("3 end(0)", x.end(0), 0);
        C.due("3 end(1)", x.end(1), OmenLine.BAD);
        Checks.feed(x, "blocks 3;x");
        C.due("3 end(-1)", x.end(-1), OmenLine.BAD);
        C.due("3 end(11)", x.end(11), OmenLine.BAD);
        C.due("3 end(10)", x.end(10), 10);
        C.due("3 end(9)", x.end(9), 10);
        C.due("3 count(2)", x.count(2), 9);
        C.due("3 text", x.text(), 1);
        C.due("3 rule(0)", x.rule(0), 3);
        Checks.feed(x, "@@@");
        C.due("3 end(0)", x.end(0), 3);
        C.due("3 feed", x.feed(' '), 1);
        C.due("3 text", x.text(), 0);
    }

    private static void taken() {
        OmenLine x = new OmenLine();
        String text = "blocks 8;hearse 7;sweep 0;cat 3;magpie 5;guard 1;guard 7;lock 7 1;lock 2 3;"
                + "heathen down 9 0;sceptic up 0 9;";
        C.due("4 text", Checks.tell(x, text), 11);
        C.due("5 fault", x.fault(), 0);
        C.due("4 tape is empty", x.count(2), 0);
        C.due("6 blocks", x.rule(0), 8);
        C.due("6 trains", x.rule(1), 2);
        C.due("6 locks", x.rule(2), 2);
        C.due("6 guarded", x.rule(3), 2 + 128);
        C.due("6 omens", x.rule(4), 1 + 8 + 32 + 128);
        C.due("6 BAD", x.rule(5), OmenLine.BAD);
        C.due("6 BAD", x.rule(-1), OmenLine.BAD);
        int[] omens = {2, 0, 0, 3, 0, 1, 0, 4};
        for (int b = 0; b < 8; b++) {
            C.due("7 omen of " + b, x.block(b, 0), omens[b]);
            C.due("7 guarded " + b, x.block(b, 1), b == 1 || b == 7 ? 1 : 0);
        }
        C.due("8 as told", x.lock(0, 0), 7);
        C.due("8 as told", x.lock(0, 1), 1);
        C.due("8 as told", x.lock(1, 0), 2);
        C.due("8 as told", x.lock(1, 1), 3);
        int[] facts = {3, 1, 9, 0, 1, 0, 0, 9};
        for (int i = 0; i < 8; i++) {
            C.due("9 train " + i, x.train(i / 4, i % 4), facts[i]);
        }
    }

    private static void replaced() {
        OmenLine x = Checks.line("blocks 8;cat 7;guard 6;lock 1 2;plain up 0 1;");
        x.keep(0);
        x.see(0, 0, 0);
        x.sheet(0, 0, 3);
        C.due("4 empty text", x.text(), 0);
        C.due("4 blocks are four again", x.rule(0), 4);
        for (int what = 1; what <= 4; what++) {
            C.due("4 nothing else, rule " + what, x.rule(what), 0);
        }
        C.due("4 nothing seen", x.count(0), 0);
        C.due("4 images gone", x.count(1), 0);
        C.due("4 image gone", x.back(0), OmenLine.STATE);
        C.due("4 sheets stay", x.count(3), 3);
        C.due("4 omen beyond the four", Checks.tell(x, "cat 7;"), -16);
        C.due("4 its fault", x.fault(), 6);
        C.due("4 default blocks", Checks.tell(x, "cat 3;plain down 1 2;"), 2);
        C.due("4 omens replaced", x.rule(4), 8);
    }

    private static void tokens() {
        C.taken("", 0);
        C.taken("   ", 0);
        C.taken("  blocks   5  ;  ", 1);
        C.taken("blocks5;magpie1;lock2 3;plain up0 1;", 4);
        C.taken("blocks 05;magpie 00;plain up 09 01;", 3);
        C.refused("@", 1, 0);
        C.refused("  A", 1, 2);
        C.refused("blocks\t5;", 1, 6);
        C.refused("blocks 5;\n", 1, 9);
        C.refused("blocks -1;", 1, 7);
        C.refused("blocks 005;", 1, 7);
        C.refused("blocks 0000000000000000000000000000005;", 1, 7);
        C.refused("lock 0 123;", 1, 7);
        C.refused("lock 01234;", 1, 5);
        C.refused("123", 1, 0);
        C.refused("blocks 5:", 1, 8);
        C.refused("blocks 5;cat 1;cat `", 1, 19);
        C.refused("{", 1, 0);
        C.refused("/", 1, 0);
    }

    private static void misplaced() {
        C.refused(";", 2, 0);
        C.refused(" 12", 2, 1);
        C.refused("block 5;", 2, 0);
        C.refused("blockss 5;", 2, 0);
        C.refused("up 1;", 2, 0);
        C.refused("down", 2, 0);
        C.refused("a", 2, 0);
        C.refused("z;", 2, 0);
        C.refused("catz 1;", 2, 0);
        C.refused("blocks;", 2, 6);
        C.refused("blocks five;", 2, 7);
        C.refused("blocks", 2, 6);
        C.refused("blocks  ", 2, 8);
        C.refused("blocks 5", 2, 8);
        C.refused("blocks 5 ", 2, 9);
        C.refused("blocks 5 5;", 2, 9);
        C.refused("blocks 5 cat", 2, 9);
        C.refused("magpie;", 2, 6);
        C.refused("guard ;", 2, 6);
        C.refused("lock 1;", 2, 6);
        C.refused("lock 1 2 3;", 2, 9);
        C.refused("plain 0 0;", 2, 6);
        C.refused("plain;", 2, 5);
        C.refused("plain upp 0 0;", 2, 6);
        C.refused("plain cat 0 0;", 2, 6);
        C.refused("plain up;", 2, 8);
        C.refused("plain up 0;", 2, 10);
        C.refused("plain up 0 0 0;", 2, 13);
        C.refused("plain", 2, 5);
        C.refused("plain up 1 1", 2, 12);
        C.refused("magpie 1;;", 2, 9);
    }

    private static void bounds() {
        C.refused("blocks 1;", 3, 7);
        C.refused("blocks 9;", 3, 7);
        C.refused("blocks 00;", 3, 7);
        C.taken("blocks 2;", 1);
        C.taken("blocks 8;", 1);
        for (String omen : new String[] {"magpie", "sweep", "cat", "hearse", "guard"}) {
            C.refused(omen + " 8;", 3, omen.length() + 1);
            C.taken("blocks 8;" + omen + " 7;" + omen + " 0;", 3);
        }
        C.refused("lock 8 0;", 3, 5);
        C.refused("lock 0 8;", 3, 7);
        C.refused("lock 3 3;", 3, 7);
        C.refused("lock 3 03;", 3, 7);
        for (String faith : new String[] {"plain", "sceptic", "devout", "heathen"}) {
            C.refused(faith + " up 10 0;", 3, faith.length() + 4);
            C.refused(faith + " up 0 10;", 3, faith.length() + 6);
            C.taken(faith + " down 9 9;" + faith + " up 0 0;", 2);
        }
    }

    private static void twice() {
        C.refused("blocks 4;blocks 4;", 4, 9);
        C.refused("blocks 4; blocks @", 4, 10);
        C.refused("blocks 4;magpie 1;blocks 99;", 4, 18);
        C.refused("magpie 1;magpie 1;", 4, 16);
        C.refused("magpie 1;hearse  1;", 4, 17);
        C.refused("guard 2;guard 2;", 4, 14);
        C.taken("guard 2;magpie 2;", 2);
    }

    private static void tooMany() {
        C.refused("lock 0 1;lock 0 1;lock 1 0;lock 2 3;lock 0 1;", 5, 36);
        C.refused("lock 0 1;lock 0 1;lock 1 0;lock 2 3;lock @", 5, 36);
        C.taken("lock 0 1;lock 0 1;lock 1 0;lock 2 3;", 4);
        String four = "plain up 0 0;devout up 0 0;heathen up 0 0;sceptic up 0 0;";
        C.taken(four, 4);
        C.refused(four + "plain @", 5, four.length());
        C.refused(four + " heathen", 5, four.length() + 1);
    }

    private static void behindAll() {
        C.refused("magpie 4;", 6, 9);
        C.refused("guard 4; ", 6, 9);
        C.refused("lock 0 4;", 6, 9);
        C.refused("lock 4 0;", 6, 9);
        C.refused("magpie 2;blocks 2;", 6, 18);
        C.taken("magpie 7;blocks 8;", 2);
        C.taken("magpie 4;blocks 5;", 2);
        C.refused("magpie 1;lock 1 2;sweep 2;", 7, 26);
        C.refused("magpie 1;sweep 2;lock 2 1; ", 7, 27);
        C.refused("magpie 1;sweep 2;lock 2 1;guard 4;", 6, 34);
        C.refused("blocks 3;magpie 1;sweep 3;lock 3 1;", 6, 35);
        C.taken("magpie 1;lock 1 2;sweep 3;", 3);
        C.refused("lock 0 1;lock 0 2;lock 0 3;lock 1 2;cat 1;cat 2;", 7, 48);
    }

    private static void orderOfFaults() {
        C.refused("blocks 9 @", 3, 7);
        C.refused("magpie 7;cat 7 @", 4, 13);
        C.refused("lock 0 0 @", 3, 7);
        C.refused("lock 9 @", 3, 5);
        C.refused("foo @", 2, 0);
        C.refused("plain foo @", 2, 6);
        C.refused("magpie 7;foo", 2, 9);
        C.refused("blocks 5 @", 1, 9);
    }

    private static void refusedChangesNothing() {
        OmenLine x = Checks.line("blocks 6;cat 5;guard 2;lock 0 1;plain up 3 4;");
        x.keep(1);
        x.see(0, 0, -4);
        C.due("4 refused", Checks.tell(x, "blocks 3;magpie 0;guard 0;devout down 1 1;?"), -10 - 42);
        C.due("5 fault", x.fault(), 1);
        C.due("4 blocks stay", x.rule(0), 6);
        C.due("4 trains stay", x.train(0, 2), 3);
        C.due("4 omens stay", x.rule(4), 32);
        C.due("4 guards stay", x.rule(3), 4);
        C.due("4 locks stay", x.rule(2), 1);
        C.due("4 seen stays", x.count(0), 1);
        C.due("4 image stays", x.back(1), 1);
        C.due("5 fault stays", x.fault(), 1);
        C.due("4 taken", Checks.tell(x, "blocks 3;"), 1);
        C.due("5 fault is over", x.fault(), 0);
    }

    private static void facts() {
        OmenLine x = Checks.line("blocks 3;lock 0 1;lock 2 1;lock 1 2;plain up 0 1;");
        C.due("7 locked with 0", x.block(0, 2), 2);
        C.due("7 locked with 1", x.block(1, 2), 5);
        C.due("7 locked with 2", x.block(2, 2), 2);
        C.due("7 BAD", x.block(3, 0), OmenLine.BAD);
        C.due("7 BAD", x.block(-1, 0), OmenLine.BAD);
        C.due("7 BAD", x.block(0, 3), OmenLine.BAD);
        C.due("7 BAD", x.block(0, -1), OmenLine.BAD);
        C.due("8 BAD", x.lock(3, 0), OmenLine.BAD);
        C.due("8 BAD", x.lock(-1, 0), OmenLine.BAD);
        C.due("8 BAD", x.lock(0, 2), OmenLine.BAD);
        C.due("8 BAD", x.lock(0, -1), OmenLine.BAD);
        C.due("8 lock", x.lock(2, 1), 2);
        C.due("9 BAD", x.train(1, 0), OmenLine.BAD);
        C.due("9 BAD", x.train(-1, 0), OmenLine.BAD);
        C.due("9 BAD", x.train(0, 4), OmenLine.BAD);
        C.due("9 BAD", x.train(0, -1), OmenLine.BAD);
    }

    private static void waits() {
        OmenLine x = new OmenLine();
        int[][] due = {{0, 1, 0, 3, 5}, {0, 0, 0, 1, 2}, {0, 2, 1, 4, 6}, {0, 0, 2, 3, 5}};
        for (int faith = -1; faith <= 4; faith++) {
            for (int omen = -1; omen <= 5; omen++) {
                boolean is = faith >= 0 && faith < 4 && omen >= 0 && omen < 5;
                C.due("10 waits(" + faith + ", " + omen + ")", x.waits(faith, omen),
                        is ? due[faith][omen] : OmenLine.BAD);
            }
        }
        C.due("10 waits", x.waits(Integer.MAX_VALUE, Integer.MAX_VALUE), OmenLine.BAD);
    }
}
