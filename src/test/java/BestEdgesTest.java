/** The edges of promises 18 to 25: what is best, magpies by odds. The answers are worked out by hand. */
public final class BestEdgesTest {
    private static final Checks C = new Checks();
    private static final int BAD = OmenLine.BAD, NONE = OmenLine.NONE;
    /** Two magpies in 1, 2, 3 hold the plain one until the sceptic has left 3, in 9. */
    private static final String TWO_MAGPIES = "blocks 5;magpie 0;hearse 4;sceptic up 3 1;plain up 3 1;";

    public static void main(String[] args) {
        fewestNone();
        fewestAll();
        fewestThoseAlone();
        fewestOfALongLine();
        fewestBeyond();
        guardsOfNoTrains();
        guardsThoseAlone();
        guardsByNone();
        guardsBeyond();
        magpiesNone();
        magpiesWithoutAnOmen();
        magpiesAsLocksAllow();
        magpiesInOneLock();
        magpiesFewestThenLeast();
        magpiesByNone();
        magpiesBeyond();
        startsOfNoTrains();
        startsFromNoneToThree();
        startsOfSeveralTheFirst();
        startsByNone();
        startsBeyond();
        allowedWithoutLocks();
        allowedByLocks();
        allowedBeyond();
        convertToTheFirst();
        convertTheLast();
        convertOfSeveralTheLeast();
        convertLessThanNow();
        convertBeyond();
        meanOfNoneAndAll();
        meanOfOmensInAll();
        oddsLocksAside();
        oddsOfAllBlocks();
        meanBeyond();
        luckOfNoneAndAll();
        luckWithGuards();
        luckBeyond();
        C.finish();
    }

    private static void both(String what, Checks.Call call, long zero, long one) {
        C.due(what + " 0", call.with(0), zero);
        C.due(what + " 1", call.with(1), one);
    }

    private static void fewestNone() {
        C.of("18 The fewest BLOCKS to be GUARDED so that there is no BUMP: none");
        both("no trains", new OmenLine()::fewest, 0, 0);
        both("one train", Checks.line("blocks 2;plain up 0 1;")::fewest, 0, 0);
        both("apart", Checks.line("blocks 8;plain up 0 1;plain up 1 1;plain up 2 1;plain up 3 1;")::fewest, 0, 0);
    }

    private static void fewestAll() {
        C.of("18 The fewest BLOCKS to be GUARDED so that there is no BUMP: all");
        both("face to face", Checks.line("blocks 2;plain up 0 1;plain down 0 1;")::fewest, 2, 3);
        // Behind minute 2 they are in 2, 1, 0 and 3; ahead of that the second and the third one are kept out of 0.
        OmenLine x = Checks.line("blocks 4;plain up 0 1;plain up 0 1;plain up 0 1;plain down 2 1;");
        both("and two behind", x::fewest, 4, 15);
    }

    private static void fewestThoseAlone() {
        C.of("18 (those alone): who is GUARDED now has no part in it");
        OmenLine x = Checks.line("blocks 3;plain up 0 1;plain up 0 1;");
        for (int set = 0; set < 8; set++) {
            for (int b = 0; b < 3; b++) {
                x.guard(b, (set >> b & 1) != 0);
            }
            both("now " + set, x::fewest, 1, 1);
            C.due("and stays so", x.rule(3), set);
        }
    }

    private static void fewestOfALongLine() {
        C.of("18 the least set of so many (bits)");
        both("in the middle", Checks.line("blocks 8;plain up 0 1;plain down 0 1;")::fewest, 2, 8 + 16);
        both("in the last", Checks.line("blocks 8;plain down 0 1;plain down 0 1;")::fewest, 1, 128);
        OmenLine x = Checks.line("blocks 8;hearse 4;plain up 0 1;plain up 0 1;devout down 0 1;devout down 0 1;");
        // They wait for the hearse in 3 and in 5, the others right behind; the first one is in 4 in 9.
        both("in both ends and in the middle", x::fewest, 5, 1 + 8 + 16 + 32 + 128);
    }

    private static void fewestBeyond() {
        C.of("18 BAD");
        C.beyond("fewest", 0, 1, BAD, new OmenLine()::fewest);
        C.beyond("fewest", 0, 1, BAD, Checks.line("blocks 2;plain up 0 1;plain down 0 1;")::fewest);
    }

    private static void guardsOfNoTrains() {
        C.of("19 all go HOME: there is none that does not");
        both("no trains", new OmenLine()::guards, 0, 0);
        both("guarded now", Checks.line("blocks 8;guard 0;guard 7;")::guards, 0, 0);
    }

    private static void guardsThoseAlone() {
        C.of("19 The set of BLOCKS to be GUARDED (those alone), of several the least by bits");
        OmenLine x = Checks.line("blocks 3;guard 1;guard 2;plain up 0 4;plain up 0 5;");
        both("one", x::guards, 3 * 4 + 4 * 5, 1);
        C.due("who is GUARDED stays", x.rule(3), 6);
        x.set(1, 2, 1);
        both("none", x::guards, 32, 0);
        OmenLine y = Checks.line("blocks 8;plain down 0 9;plain down 0 0;");
        both("the last", y::guards, 8 * 9, 128);
        OmenLine z = Checks.line("blocks 3;cat 1;hearse 2;plain up 0 1;plain up 4 1;");
        both("in the middle", z::guards, 11 + 17, 2);
        OmenLine w = Checks.line("blocks 2;plain up 0 1;plain up 0 1;plain up 0 1;plain up 0 1;");
        both("four", w::guards, 2 + 3 + 4 + 5, 1);
    }

    private static void guardsByNone() {
        C.of("19 NONE: by none do all");
        both("face to face", Checks.line("blocks 2;plain up 0 1;plain down 0 1;")::guards, NONE, NONE);
        both("WORTH 0", Checks.line("blocks 2;plain up 0 0;plain down 0 0;")::guards, NONE, NONE);
        both("one goes HOME", Checks.line("blocks 4;plain up 0 1;plain up 4 1;plain down 4 1;")::guards, NONE, NONE);
    }

    private static void guardsBeyond() {
        C.of("19 BAD");
        C.beyond("guards", 0, 1, BAD, new OmenLine()::guards);
        C.beyond("guards", 0, 1, BAD, Checks.line("blocks 2;plain up 0 1;plain down 0 1;")::guards);
    }

    private static void magpiesNone() {
        C.of("20 The fewest BLOCKS in which to hang a magpie so that there is no BUMP: none");
        both("no trains", new OmenLine()::magpies, 0, 0);
        both("no trains, no room", Checks.line("blocks 2;cat 0;cat 1;")::magpies, 0, 0);
        both("GUARDED", Checks.line("blocks 2;guard 0;plain up 0 1;plain up 0 1;")::magpies, 0, 0);
    }

    private static void magpiesWithoutAnOmen() {
        C.of("20 BLOCKS without an OMEN");
        OmenLine x = Checks.line("blocks 2;devout up 0 1;sceptic up 0 1;");
        both("in 0", x::magpies, 1, 1);
        x.hang(0, 2);
        both("a sweep holds the devout one too short", x::magpies, NONE, NONE);
        x.hang(0, 3);
        both("a cat does not", x::magpies, 0, 0);
        OmenLine y = Checks.line("blocks 2;sceptic up 0 1;plain up 0 1;");
        both("in 0", y::magpies, 1, 1);
        y.hang(0, 2);
        both("a sweep is there", y::magpies, NONE, NONE);
        y.hang(0, 1);
        both("a magpie is there", y::magpies, 0, 0);
        C.due("none was hung", y.rule(4), 1);
    }

    private static void magpiesAsLocksAllow() {
        C.of("20 (LOCKS allow it): with the OMENS that there are");
        both("two", Checks.line(TWO_MAGPIES)::magpies, 2, 6);
        both("not in 1", Checks.line(TWO_MAGPIES + "lock 0 1;")::magpies, 2, 12);
        both("not in 1", Checks.line(TWO_MAGPIES + "lock 1 0;")::magpies, 2, 12);
        both("not in 2", Checks.line(TWO_MAGPIES + "lock 4 2;")::magpies, 2, 10);
        both("not in 3", Checks.line(TWO_MAGPIES + "lock 3 4;")::magpies, 2, 6);
        both("not in 1, not in 2", Checks.line(TWO_MAGPIES + "lock 0 1;lock 2 4;")::magpies, NONE, NONE);
    }

    private static void magpiesInOneLock() {
        C.of("20 (LOCKS allow it): with one another");
        both("1 or 2", Checks.line(TWO_MAGPIES + "lock 1 2;")::magpies, 2, 10);
        both("1 or 2, 1 or 3", Checks.line(TWO_MAGPIES + "lock 2 1;lock 3 1;")::magpies, 2, 12);
        both("2 or 3", Checks.line(TWO_MAGPIES + "lock 2 3;")::magpies, 2, 6);
        both("one of three", Checks.line(TWO_MAGPIES + "lock 1 2;lock 1 3;lock 3 2;")::magpies, NONE, NONE);
    }

    private static void magpiesFewestThenLeast() {
        C.of("20 how many, the least set of so many: fewer ones in a greater set");
        // With one in 3, or with 0 and 1 together, the second and the third one meet where both are kept out for ever;
        // with one in 0, in 1 or in 2 the third one comes down on the second one in 2.
        OmenLine x = Checks.line("blocks 5;guard 1;guard 3;guard 4;plain up 3 1;devout up 7 1;devout down 8 1;");
        both("3, not 0 and 1", x::magpies, 1, 8);
        x.hang(0, 1);
        both("0 is there: 1 is less than 3", x::magpies, 1, 2);
    }

    private static void magpiesByNone() {
        C.of("20 NONE: by none");
        both("alike", Checks.line("blocks 8;plain up 0 1;plain up 0 1;")::magpies, NONE, NONE);
        both("no room", Checks.line("blocks 2;sweep 0;sweep 1;plain up 0 1;sceptic up 0 1;")::magpies, NONE, NONE);
        both("heathen and sceptic", Checks.line("blocks 8;heathen up 0 1;sceptic up 0 1;")::magpies, NONE, NONE);
    }

    private static void magpiesBeyond() {
        C.of("20 BAD");
        C.beyond("magpies", 0, 1, BAD, new OmenLine()::magpies);
        C.beyond("magpies", 0, 1, BAD, Checks.line("blocks 8;plain up 0 1;plain up 0 1;")::magpies);
    }

    private static void starts(OmenLine x, int cost, int... each) {
        C.due("cost", x.starts(0), cost);
        for (int t = 0; t < each.length; t++) {
            C.due("START of " + t, x.starts(10 + t), each[t]);
        }
        C.due("behind the last", x.starts(10 + each.length), BAD);
    }

    private static void startsOfNoTrains() {
        C.of("21 STARTS of no TRAINS");
        starts(new OmenLine(), 0);
    }

    private static void startsFromNoneToThree() {
        C.of("21 STARTS (0 to 3 each) so that all go HOME and COST is least");
        for (int start = 0; start <= 9; start++) {
            starts(Checks.line("blocks 8;plain up " + start + " 9;"), 72, 0);
        }
        OmenLine x = Checks.line("blocks 3;plain up 9 2;plain down 9 2;");
        starts(x, 3 * 2 + 6 * 2, 0, 3);
        C.due("STARTS stay", x.train(0, 2) + x.train(1, 2), 18);
        OmenLine y = Checks.line("blocks 2;plain up 0 1;plain up 0 1;plain up 0 1;plain up 0 1;");
        starts(y, 2 + 3 + 4 + 5, 0, 1, 2, 3);
        OmenLine z = Checks.line("blocks 2;plain up 0 1;plain up 0 9;");
        // The second one first: it leaves 0 in 1, when the first one has stepped already.
        starts(z, 4 + 2 * 9, 2, 0);
        OmenLine w = Checks.line("blocks 2;plain up 0 0;plain up 0 9;plain up 0 9;");
        starts(w, 2 * 9 + 3 * 9, 3, 0, 1);
        OmenLine v = Checks.line("blocks 2;guard 0;plain up 0 0;plain up 0 9;plain up 0 9;plain up 0 9;");
        // A minute late, the first one is kept out until the others are in.
        starts(v, 2 * 9 + 3 * 9 + 4 * 9, 1, 0, 0, 0);
    }

    private static void startsOfSeveralTheFirst() {
        C.of("21 of several the first by TRAINS, STARTS by numbers");
        starts(Checks.line("blocks 2;plain up 3 0;"), 0, 0);
        starts(Checks.line("blocks 2;plain up 9 0;plain up 9 0;plain up 9 0;"), 0, 0, 1, 2);
        starts(Checks.line("blocks 2;plain up 0 0;plain down 0 1;"), 2, 3, 0);
    }

    private static void startsByNone() {
        C.of("21 NONE: by none do all");
        OmenLine x = Checks.line("blocks 4;plain down 0 1;plain up 4 1;");
        C.due("they do now", x.sum(1), 2);
        starts(x, NONE, NONE, NONE);
        starts(Checks.line("blocks 4;plain up 0 0;plain down 0 0;"), NONE, NONE, NONE);
        starts(Checks.line("blocks 2;cat 1;plain up 0 1;plain up 0 1;plain up 0 1;plain up 0 1;"),
                NONE, NONE, NONE, NONE, NONE);
    }

    private static void startsBeyond() {
        C.of("21 BAD");
        StringBuilder text = new StringBuilder("blocks 2;");
        for (int trains = 0; trains <= 4; trains++) {
            OmenLine x = Checks.line(text.toString());
            C.above("starts of " + trains, 9 + trains, BAD, x::starts);
            C.below("starts", 0, BAD, x::starts);
            for (int what = 1; what <= 9; what++) {
                C.due("starts(" + what + ")", x.starts(what), BAD);
            }
            text.append("plain up 0 1;");
        }
    }

    private static void allowedWithoutLocks() {
        C.of("22 Sets of BLOCKS that could have OMENS: without LOCKS all");
        for (int n = 2; n <= 8; n++) {
            OmenLine x = Checks.line("blocks " + n + ";");
            both("of " + n, x::allowed, 1 << n, n);
            x.hang(0, 4);
            x.guard(1, true);
            both("OMENS and guards of now have no part in it", x::allowed, 1 << n, n);
        }
    }

    private static void allowedByLocks() {
        C.of("22 by LOCKS: how many, the greatest of them");
        both("two", Checks.line("blocks 2;lock 0 1;")::allowed, 3, 1);
        both("one with four", Checks.line("blocks 8;lock 0 1;lock 2 0;lock 0 3;lock 4 0;")::allowed, 128 + 8, 7);
        both("four pairs", Checks.line("blocks 8;lock 0 1;lock 2 3;lock 4 5;lock 6 7;")::allowed, 81, 4);
        both("a pair four times", Checks.line("blocks 8;lock 6 7;lock 7 6;lock 6 7;lock 6 7;")::allowed, 192, 7);
        both("a ring", Checks.line("lock 0 1;lock 1 2;lock 2 3;lock 3 0;")::allowed, 7, 2);
        OmenLine x = Checks.line("blocks 2;lock 0 1;hearse 0;");
        both("what hangs has no part in it", x::allowed, 3, 1);
    }

    private static void allowedBeyond() {
        C.of("22 BAD");
        C.beyond("allowed", 0, 1, BAD, new OmenLine()::allowed);
    }

    private static void convertToTheFirst() {
        C.of("23 10 times the TRAIN and the FAITH: 0");
        OmenLine x = Checks.line("blocks 2;sweep 1;devout up 0 5;");
        both("plain", x::convert, 0, 10);
        C.due("FAITH stays", x.train(0, 0), 2);
    }

    private static void convertTheLast() {
        C.of("23 The TRAIN whose driver is to be of another FAITH: the last one");
        OmenLine x = Checks.line("blocks 2;hearse 1;sceptic up 0 1;sceptic up 3 1;sceptic up 6 1;plain up 9 2;");
        both("a sceptic", x::convert, 31, 4 + 7 + 10 + 2 * 13);
        x.set(3, 0, 2);
        both("a sceptic", x::convert, 31, 4 + 7 + 10 + 2 * 13);
    }

    private static void convertOfSeveralTheLeast() {
        C.of("23 so that COST is least, of several the least");
        OmenLine x = Checks.line("blocks 2;magpie 1;plain up 0 1;plain up 4 1;plain up 8 1;");
        both("sceptic or heathen, of three", x::convert, 1, 2 + 7 + 11);
        x.set(1, 3, 2);
        both("the dearest", x::convert, 11, 3 + 2 * 6 + 11);
        x.set(1, 0, 3);
        both("he does not wait", x::convert, 1, 2 + 2 * 6 + 11);
    }

    private static void convertLessThanNow() {
        C.of("23 less than now; NONE: by none");
        both("no trains", new OmenLine()::convert, NONE, NONE);
        both("no OMENS", Checks.line("blocks 8;plain up 0 9;")::convert, NONE, NONE);
        both("WORTH 0", Checks.line("blocks 2;hearse 0;devout up 0 0;")::convert, NONE, NONE);
        both("sceptic", Checks.line("blocks 4;magpie 0;sweep 1;cat 2;hearse 3;sceptic up 0 9;")::convert, NONE, NONE);
        both("a bump by all", Checks.line("blocks 2;plain up 0 9;plain up 0 9;")::convert, NONE, NONE);
        OmenLine x = Checks.line("blocks 2;magpie 0;plain up 0 1;plain up 0 0;");
        both("out of a bump", x::convert, 1, 2);
    }

    private static void convertBeyond() {
        C.of("23 BAD");
        C.beyond("convert", 0, 1, BAD, new OmenLine()::convert);
        C.beyond("convert", 0, 1, BAD, Checks.line("blocks 2;cat 0;plain up 0 1;")::convert);
    }

    private static void mean(OmenLine x, int v, long above, long below) {
        both("mean of " + v, what -> x.mean(v, what), above, below);
    }

    private static void luck(OmenLine x, int v, long above, long below) {
        both("luck of " + v, what -> x.luck(v, what), above, below);
    }

    private static void meanOfNoneAndAll() {
        C.of("24 by v out of ten (0 to 10)");
        OmenLine x = Checks.line("blocks 8;plain up 0 9;");
        mean(x, 0, 72, 1);
        mean(x, 1, 396, 5);
        mean(x, 9, 684, 5);
        mean(x, 10, 144, 1);
        C.due("none was hung", x.rule(4), 0);
        x.hang(7, 3);
        mean(x, 0, 99, 1);
        mean(x, 10, 99 + 63, 1);
    }

    private static void meanOfOmensInAll() {
        C.of("24 In each BLOCK without an OMEN: there may be none");
        OmenLine x = Checks.line("blocks 2;cat 0;sweep 1;plain up 0 3;");
        for (int v = 0; v <= 10; v++) {
            mean(x, v, 15, 1);
            luck(x, v, 1, 1);
        }
    }

    private static void oddsLocksAside() {
        C.of("24, 25 LOCKS aside");
        OmenLine x = Checks.line("blocks 2;lock 0 1;plain up 0 1;");
        mean(x, 10, 4, 1);
        mean(x, 5, 3, 1);
        OmenLine y = Checks.line("blocks 2;lock 0 1;sweep 1;devout up 0 1;sceptic up 0 1;");
        C.due("a LOCK keeps the magpie", y.magpies(0), NONE);
        luck(y, 0, 0, 1);
        luck(y, 3, 3, 10);
        luck(y, 10, 1, 1);
    }

    private static void oddsOfAllBlocks() {
        C.of("24, 25 by itself in each of eight BLOCKS");
        // The sceptic is right behind: any magpie holds the devout one, and they bump.
        OmenLine x = Checks.line("blocks 8;devout up 0 9;sceptic up 1 9;");
        luck(x, 3, 5764801, 100000000);
        luck(x, 7, 6561, 100000000);
        luck(x, 9, 1, 100000000);
        luck(x, 1, 43046721, 100000000);
        luck(x, 0, 1, 1);
        luck(x, 10, 0, 1);
        luck(x, 5, 1, 256);
        mean(x, 3, 204430044393L, 100000000);
        mean(x, 0, 153, 1);
        mean(x, 10, 2160, 1);
        x.set(0, 3, 1);
        x.set(1, 3, 0);
        mean(x, 3, 709646393, 6250000);
    }

    private static void meanBeyond() {
        C.of("24 BAD");
        OmenLine x = Checks.line("blocks 2;plain up 0 1;");
        for (int what = 0; what < 2; what++) {
            int asked = what;
            C.beyond("mean", 0, 10, BAD, v -> x.mean(v, asked));
        }
        for (int v = 0; v <= 10; v++) {
            int asked = v;
            C.beyond("mean", 0, 1, BAD, what -> x.mean(asked, what));
        }
    }

    private static void luckOfNoneAndAll() {
        C.of("25 Likewise, that there is no BUMP");
        OmenLine x = Checks.line("blocks 2;devout up 0 1;sceptic up 0 1;");
        luck(x, 0, 0, 1);
        luck(x, 1, 1, 10);
        luck(x, 5, 1, 2);
        luck(x, 9, 9, 10);
        luck(x, 10, 1, 1);
        luck(new OmenLine(), 5, 1, 1);
        luck(Checks.line("blocks 8;plain up 0 1;"), 5, 1, 1);
    }

    private static void luckWithGuards() {
        C.of("25 that there is no BUMP: who is GUARDED now is");
        OmenLine x = Checks.line("blocks 2;guard 0;plain up 0 1;sceptic up 0 1;");
        // The sceptic is kept out until the plain one leaves 0 in 1; in 1 he is then too late to meet him.
        luck(x, 0, 1, 1);
        OmenLine y = Checks.line("blocks 2;guard 0;guard 1;plain up 0 1;plain down 0 1;");
        luck(y, 5, 1, 1);
        y.guard(1, false);
        luck(y, 0, 0, 1);
    }

    private static void luckBeyond() {
        C.of("25 BAD");
        OmenLine x = Checks.line("blocks 2;plain up 0 1;");
        for (int what = 0; what < 2; what++) {
            int asked = what;
            C.beyond("luck", 0, 10, BAD, v -> x.luck(v, asked));
        }
        for (int v = 0; v <= 10; v++) {
            int asked = v;
            C.beyond("luck", 0, 1, BAD, what -> x.luck(asked, what));
        }
    }
}
