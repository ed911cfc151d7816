/** The edges of promises 26 to 30: of which FAITH, by a seed. The answers are worked out by hand. */
public final class SeenEdgesTest {
    private static final Checks C = new Checks();
    private static final int BAD = OmenLine.BAD, FULL = OmenLine.FULL, NONE = OmenLine.NONE;
    private static final int[] SEEDS = {0, 1, -1, Integer.MAX_VALUE, Integer.MIN_VALUE, 12345, -987654321};

    public static void main(String[] args) {
        seeFromNoneToSix();
        seeInEachBlock();
        seeBeyond();
        forgetFromNoneToAll();
        forgetKeepsTheFirst();
        forgetBeyond();
        fitsWhenNothingIsSeen();
        fitsBehindTheFirstMinute();
        fitsBehindTheLastMinute();
        fitsBehindABump();
        fitsAllThatIsSeenOfIt();
        fitsWhateverHisFaithIs();
        fitsByWhatThereIsNow();
        fitsBeyond();
        lookBehindTheFirstMinute();
        lookUntilOneIsLeft();
        lookForFewerThanNow();
        lookBehindNone();
        lookBeyond();
        driftOnce();
        driftTwentyTimes();
        driftKeptByALock();
        driftBumps();
        driftByItself();
        driftBeyond();
        C.finish();
    }

    private static void seeFromNoneToSix() {
        C.of("26 SEEN (6): how many are; FULL");
        OmenLine x = Checks.line("blocks 2;magpie 0;plain up 0 1;");
        for (int i = 1; i <= 6; i++) {
            C.due("count", x.count(0), i - 1);
            C.due("see", x.see(0, 119, NONE), i);
        }
        C.due("the seventh", x.see(0, 0, 0), FULL);
        C.due("count", x.count(0), 6);
        C.due("it was not SEEN", x.fits(0), 15);
        C.due("one less", x.forget(5), 6);
        C.due("room again", x.see(0, 0, 0), 6);
        C.due("it was SEEN", x.fits(0), 10);
        C.due("FULL again", x.see(0, 0, 0), FULL);
    }

    private static void seeInEachBlock() {
        C.of("26 a TRAIN was in a BLOCK (NONE: in none) behind minute m (0 to 119)");
        OmenLine x = Checks.line("blocks 8;plain up 9 1;plain up 9 1;plain up 9 1;plain down 0 1;");
        C.due("where it can't be: the first BLOCK, minute, TRAIN", x.see(0, 0, 0), 1);
        C.due("the last BLOCK, the last TRAIN", x.see(3, 0, 7), 2);
        C.due("none, the last minute", x.see(3, 119, NONE), 3);
        C.due("outside still", x.see(2, 119, NONE), 4);
        C.due("fits", x.fits(0), 0);
        C.due("fits", x.fits(1), 15);
        C.due("fits", x.fits(2), 15);
        C.due("fits", x.fits(3), 15);
    }

    private static void seeBeyond() {
        C.of("26 BAD");
        for (int n = 2; n <= 8; n++) {
            OmenLine x = Checks.line("blocks " + n + ";plain up 0 1;plain up 9 1;");
            C.beyond("see", 0, n - 1, BAD, b -> x.see(0, 0, b));
            C.due("-2 is no BLOCK", x.see(0, 0, -2), BAD);
            C.due("-3 is no BLOCK", x.see(0, 0, -3), BAD);
            C.due("-5 is no BLOCK", x.see(0, 0, -5), BAD);
            C.beyond("see", 0, 1, BAD, t -> x.see(t, 0, 0));
            C.beyond("see", 0, 119, BAD, m -> x.see(1, m, NONE));
            C.due("none was SEEN", x.count(0), 0);
        }
        C.due("no TRAIN at all", new OmenLine().see(0, 0, NONE), BAD);
    }

    private static OmenLine seen(int many) {
        OmenLine x = Checks.line("blocks 2;plain up 0 1;");
        for (int i = 0; i < many; i++) {
            x.see(0, 0, 0);
        }
        return x;
    }

    private static void forgetFromNoneToAll() {
        C.of("27 SEEN are the first n alone: how many there were");
        for (int had = 0; had <= 6; had++) {
            for (int n = 0; n <= had; n++) {
                OmenLine x = seen(had);
                C.due("forget(" + n + ")", x.forget(n), had);
                C.due("count", x.count(0), n);
                C.due("forget once more", x.forget(n), n);
            }
        }
    }

    private static void forgetKeepsTheFirst() {
        C.of("27 the first n alone");
        // Behind minute 0 a sceptic or a heathen is in 0; behind 1 the plain one is there.
        OmenLine x = Checks.line("blocks 8;magpie 0;plain up 0 1;");
        x.see(0, 0, NONE);
        x.see(0, 1, 0);
        x.see(0, 1, NONE);
        C.due("none", x.fits(0), 0);
        C.due("the first two", x.forget(2), 3);
        C.due("plain", x.fits(0), 1);
        C.due("the first", x.forget(1), 2);
        C.due("plain or devout", x.fits(0), 5);
        x.see(0, 1, NONE);
        C.due("what is SEEN now is the second one", x.fits(0), 4);
        C.due("none", x.forget(0), 2);
        C.due("all", x.fits(0), 15);
    }

    private static void forgetBeyond() {
        C.of("27 BAD");
        for (int had = 0; had <= 6; had++) {
            OmenLine x = seen(had);
            C.beyond("forget", 0, had, BAD, x::forget);
            C.due("as many as before", x.count(0), had);
        }
    }

    private static void fitsWhenNothingIsSeen() {
        C.of("28 FAITHS that FIT a TRAIN (bits): nothing is SEEN");
        OmenLine x = Checks.line("blocks 2;hearse 0;plain up 0 1;plain up 0 1;plain up 0 1;plain up 0 1;");
        for (int t = 0; t < 4; t++) {
            C.due("all", x.fits(t), 15);
        }
    }

    private static void fitsBehindTheFirstMinute() {
        C.of("28 SEEN behind minute 0");
        OmenLine x = Checks.line("blocks 2;magpie 0;plain up 0 1;");
        x.see(0, 0, 0);
        C.due("sceptic, heathen", x.fits(0), 2 + 8);
        x.forget(0);
        x.see(0, 0, NONE);
        C.due("plain, devout", x.fits(0), 1 + 4);
        x.forget(0);
        x.see(0, 0, 1);
        C.due("no FAITH", x.fits(0), 0);
    }

    private static void fitsBehindTheLastMinute() {
        C.of("28 SEEN behind minute 119");
        OmenLine x = Checks.line("blocks 2;hearse 0;plain up 9 1;");
        x.see(0, 119, NONE);
        C.due("all are HOME: in none", x.fits(0), 15);
        x.see(0, 118, 1);
        C.due("none is there", x.fits(0), 0);
    }

    private static void fitsBehindABump() {
        C.of("28 behind a BUMP as it was then");
        // A devout one enters 0 in 2, where the other one, behind him in order, then bumps.
        OmenLine x = Checks.line("blocks 2;magpie 0;plain up 0 1;plain up 1 1;");
        x.see(0, 119, 0);
        C.due("devout", x.fits(0), 4);
        x.see(0, 2, 0);
        x.see(0, 60, 0);
        C.due("devout", x.fits(0), 4);
        x.see(0, 1, 0);
        C.due("none", x.fits(0), 0);
    }

    private static void fitsAllThatIsSeenOfIt() {
        C.of("all that is SEEN of it would be so");
        OmenLine x = Checks.line("blocks 8;sweep 0;magpie 1;plain up 0 1;plain up 9 1;");
        x.see(1, 0, 0);
        C.due("not of this one", x.fits(0), 15);
        C.due("of that one", x.fits(1), 0);
        x.see(0, 0, 0);
        C.due("plain, sceptic", x.fits(0), 3);
        x.see(0, 2, 1);
        C.due("plain", x.fits(0), 1);
        x.see(0, 3, 3);
        C.due("a sceptic: not he", x.fits(0), 0);
        C.due("still of that one", x.fits(1), 0);
    }

    private static void fitsWhateverHisFaithIs() {
        C.of("were its driver of that FAITH");
        OmenLine x = Checks.line("blocks 2;magpie 0;plain up 0 1;");
        x.see(0, 0, 0);
        for (int faith = 0; faith < 4; faith++) {
            x.set(0, 0, faith);
            C.due("fits", x.fits(0), 10);
            C.due("his FAITH stays", x.train(0, 0), faith);
        }
    }

    private static void fitsByWhatThereIsNow() {
        C.of("28 by what there is now: the other TRAINS, OMENS, guards");
        OmenLine x = Checks.line("blocks 2;magpie 0;plain up 0 1;plain up 1 1;");
        x.see(0, 119, 0);
        C.due("devout: the other one bumps", x.fits(0), 4);
        x.guard(0, true);
        C.due("kept out", x.fits(0), 0);
        x.guard(0, false);
        x.set(1, 2, 9);
        C.due("too late", x.fits(0), 0);
        x.set(1, 2, 1);
        x.hang(0, 0);
        C.due("none waits", x.fits(0), 0);
        x.hang(0, 1);
        C.due("as it was", x.fits(0), 4);
    }

    private static void fitsBeyond() {
        C.of("28 BAD");
        StringBuilder text = new StringBuilder("blocks 2;");
        for (int trains = 0; trains <= 4; trains++) {
            C.beyond("fits", 0, trains - 1, BAD, Checks.line(text.toString())::fits);
            text.append("plain up 0 1;");
        }
    }

    private static void look(String what, OmenLine x, int t, int minute, int left) {
        C.due(what + ": when", x.look(t, 0), minute);
        C.due(what + ": how many", x.look(t, 1), left);
    }

    private static void lookBehindTheFirstMinute() {
        C.of("29 Behind which minute (0 to 119) to look for a TRAIN next: the first");
        OmenLine x = Checks.line("blocks 2;magpie 0;plain up 0 1;");
        look("two are in, two are not", x, 0, 0, 2);
        x.set(0, 2, 9);
        look("from START on", x, 0, 9, 2);
    }

    private static void lookUntilOneIsLeft() {
        C.of("29 of FAITHS that FIT fewest are left at the worst");
        // Behind 3 the plain one is in 2, the sceptic in 3, the devout one in 0, the heathen in 1.
        OmenLine x = Checks.line("blocks 8;sweep 0;magpie 1;plain up 0 1;");
        look("all four are apart", x, 0, 3, 1);
        x.see(0, 0, 0);
        look("plain or sceptic", x, 0, 1, 1);
        x.forget(0);
        x.see(0, 0, NONE);
        look("devout or heathen", x, 0, 1, 1);
        x.forget(0);
        x.see(0, 1, 0);
        look("plain or devout", x, 0, 0, 1);
    }

    private static void lookForFewerThanNow() {
        C.of("29 fewer than now");
        // For a cat: 3, 1, 4, 3 minutes: the sceptic is apart behind 1, the devout one behind 3.
        OmenLine x = Checks.line("blocks 2;cat 0;plain up 0 1;");
        look("four, then two", x, 0, 3, 2);
        x.see(0, 1, NONE);
        look("three, then two", x, 0, 3, 2);
        x.see(0, 3, 0);
        C.due("plain or heathen", x.fits(0), 9);
        look("two, for ever", x, 0, NONE, NONE);
    }

    private static void lookBehindNone() {
        C.of("29 NONE: behind none");
        OmenLine x = Checks.line("blocks 8;plain up 0 1;");
        look("all are alike", x, 0, NONE, NONE);
        OmenLine y = Checks.line("blocks 2;cat 0;plain up 0 1;");
        y.see(0, 1, 0);
        C.due("the sceptic", y.fits(0), 2);
        look("one alone", y, 0, NONE, NONE);
        y.see(0, 0, 0);
        C.due("no FAITH", y.fits(0), 0);
        look("no FAITH", y, 0, NONE, NONE);
        OmenLine z = Checks.line("blocks 8;sweep 0;magpie 1;plain up 0 1;");
        int[] behindThree = {2, 3, 0, 1};
        for (int faith = 0; faith < 4; faith++) {
            z.forget(0);
            z.see(0, 3, behindThree[faith]);
            C.due("one alone", z.fits(0), 1 << faith);
            look("one alone", z, 0, NONE, NONE);
        }
    }

    private static void lookBeyond() {
        C.of("29 BAD");
        OmenLine x = Checks.line("blocks 2;cat 0;plain up 0 1;plain up 9 1;");
        C.beyond("look", 0, 1, BAD, t -> x.look(t, 0));
        C.beyond("look", 0, 1, BAD, t -> x.look(t, 1));
        C.beyond("look", 0, 1, BAD, what -> x.look(0, what));
        C.due("no TRAIN at all", new OmenLine().look(0, 0), BAD);
    }

    /** By a devout one, who waits for each OMEN otherwise; reckoned apart, with numbers of any length. */
    private static void drifts(int n, int[][] costs) {
        for (int blocks = 2; blocks <= 8; blocks++) {
            OmenLine x = Checks.line("blocks " + blocks + ";devout up 0 1;");
            for (int i = 0; i < SEEDS.length; i++) {
                C.due("costs, " + blocks + " blocks, seed " + SEEDS[i], x.drift(SEEDS[i], n, 1), costs[blocks - 2][i]);
                C.due("bumps", x.drift(SEEDS[i], n, 0), 0);
            }
        }
    }

    private static void driftOnce() {
        C.of("30 n times (1 to 20) by a seed: once");
        drifts(1, new int[][] {{6, 6, 8, 8, 6, 6, 3}, {7, 7, 9, 9, 7, 7, 4}, {8, 8, 10, 10, 8, 8, 5},
            {9, 9, 11, 11, 9, 9, 6}, {10, 10, 12, 12, 10, 10, 7}, {11, 11, 13, 13, 11, 11, 8},
            {12, 12, 14, 14, 12, 12, 9}});
    }

    private static void driftTwentyTimes() {
        C.of("30 n times (1 to 20) by a seed: twenty times, all COSTS, summed");
        drifts(20, new int[][] {{113, 119, 170, 170, 113, 134, 143}, {180, 172, 200, 200, 180, 203, 195},
            {180, 220, 322, 322, 180, 285, 269}, {312, 265, 331, 331, 312, 334, 351},
            {292, 277, 429, 429, 292, 354, 422}, {314, 432, 474, 474, 314, 431, 497},
            {380, 395, 512, 512, 380, 452, 454}});
    }

    private static void driftKeptByALock() {
        C.of("30 that OMEN is hung in that BLOCK (if a LOCK does not keep it): the RUN is one of them all the same");
        OmenLine x = Checks.line("blocks 2;lock 0 1;hearse 0;devout up 0 1;");
        int[] costs = {83, 94, 110, 110, 83, 99, 104};
        for (int i = 0; i < SEEDS.length; i++) {
            C.due("seed " + SEEDS[i], x.drift(SEEDS[i], 20, 1), costs[i]);
        }
        // By seed 0 a cat is to be hung in 0, by seed -1 a hearse in 1.
        OmenLine y = Checks.line("blocks 2;lock 0 1;magpie 1;devout up 0 1;");
        C.due("kept out of 0", y.drift(0, 1, 1), 4);
        C.due("in place of the magpie", y.drift(-1, 1, 1), 8);
        y.hang(1, 0);
        y.hang(0, 1);
        C.due("in place of the magpie", y.drift(0, 1, 1), 6);
        C.due("kept out of 1", y.drift(-1, 1, 1), 4);
    }

    private static void driftBumps() {
        C.of("30 of the RUNS behind each: how many had a BUMP");
        OmenLine x = Checks.line("blocks 5;plain up 0 3;sceptic up 2 5;heathen up 4 1;");
        int[] once = {1, 1, 1, 1, 1, 1, 0};
        int[] onceCosts = {1080, 1080, 1080, 1080, 1080, 1080, 61};
        int[] twenty = {17, 18, 20, 20, 17, 20, 19};
        int[] twentyCosts = {18554, 19560, 21600, 21600, 18554, 21600, 20581};
        for (int i = 0; i < SEEDS.length; i++) {
            C.due("once", x.drift(SEEDS[i], 1, 0), once[i]);
            C.due("its cost", x.drift(SEEDS[i], 1, 1), onceCosts[i]);
            C.due("twenty times", x.drift(SEEDS[i], 20, 0), twenty[i]);
            C.due("their costs", x.drift(SEEDS[i], 20, 1), twentyCosts[i]);
        }
        OmenLine y = Checks.line("blocks 2;plain up 0 9;plain up 0 9;plain up 0 9;plain up 0 9;");
        C.due("all", y.drift(7, 20, 0), 20);
        C.due("the most that they cost", y.drift(7, 20, 1), 20 * 4320);
        OmenLine z = new OmenLine();
        C.due("no TRAINS", z.drift(7, 20, 0), 0);
        C.due("no TRAINS", z.drift(7, 20, 1), 0);
    }

    private static void driftByItself() {
        C.of("30 By itself");
        OmenLine x = Checks.line("blocks 8;cat 3;guard 2;lock 0 1;devout up 0 1;");
        for (int i = 0; i < 3; i++) {
            C.due("the same again", x.drift(1, 20, 1), x.drift(1, 20, 1));
            C.due("OMENS", x.rule(4), 8);
            C.due("OMEN", x.block(3, 0), 3);
            C.due("home", x.home(0), 12);
        }
        OmenLine y = Checks.line("blocks 2;devout up 0 1;");
        int sum = 0;
        for (int n = 1; n <= 20; n++) {
            int more = y.drift(5, n, 1) - sum;
            sum += more;
            C.that("each n adds one RUN", more >= 2 && more <= 14);
        }
    }

    private static void driftBeyond() {
        C.of("30 BAD");
        OmenLine x = Checks.line("blocks 2;devout up 0 1;");
        for (int seed : SEEDS) {
            C.beyond("drift", 1, 20, BAD, n -> x.drift(seed, n, 0));
            C.beyond("drift", 1, 20, BAD, n -> x.drift(seed, n, 1));
            C.beyond("drift", 0, 1, BAD, what -> x.drift(seed, 1, what));
        }
    }
}
