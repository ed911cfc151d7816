/** Promises 26 to 30: of which faith, by a seed. The answers are worked out by hand. */
public final class FaithTest {
    private static final Checks C = new Checks();
    private static final int BAD = OmenLine.BAD, FULL = OmenLine.FULL, NONE = OmenLine.NONE;

    public static void main(String[] args) {
        see();
        forget();
        fits();
        look();
        drift();
        C.finish();
    }

    private static void see() {
        OmenLine x = Checks.line("blocks 3;plain up 0 1;devout up 5 1;");
        C.due("26 BAD train", x.see(2, 0, 0), BAD);
        C.due("26 BAD train", x.see(-1, 0, 0), BAD);
        C.due("26 BAD minute", x.see(0, -1, 0), BAD);
        C.due("26 BAD minute", x.see(0, 120, 0), BAD);
        for (int b : new int[] {3, -1, -2, -3, -5}) {
            C.due("26 BAD block", x.see(0, 0, b), BAD);
        }
        C.due("26 one", x.see(0, 0, 0), 1);
        C.due("26 two, of any train", x.see(1, 119, NONE), 2);
        C.due("26 three", x.see(1, 0, 2), 3);
        C.due("26 the same again", x.see(1, 0, 2), 4);
        C.due("26 five", x.see(0, 3, NONE), 5);
        C.due("26 six", x.see(0, 3, NONE), 6);
        C.due("26 FULL", x.see(0, 3, NONE), FULL);
        C.due("26 BAD before FULL", x.see(0, 120, NONE), BAD);
        C.due("26 count", x.count(0), 6);
    }

    private static void forget() {
        OmenLine x = Checks.line("blocks 3;plain up 0 1;");
        C.due("27 none", x.forget(0), 0);
        C.due("27 BAD", x.forget(1), BAD);
        x.see(0, 0, 0);
        x.see(0, 1, 0);
        x.see(0, 2, 0);
        C.due("27 BAD", x.forget(-1), BAD);
        C.due("27 BAD", x.forget(4), BAD);
        C.due("27 all stay", x.forget(3), 3);
        C.due("28 none fits", x.fits(0), 0);
        C.due("27 the first alone", x.forget(1), 3);
        C.due("28 all fit", x.fits(0), 15);
        C.due("27 count", x.count(0), 1);
        C.due("26 again", x.see(0, 1, 1), 2);
        C.due("28 all fit", x.fits(0), 15);
        C.due("27 none is left", x.forget(0), 2);
        C.due("27 none is left", x.count(0), 0);
    }

    /** In 1 behind 1 + WAITS for a cat (plain 4, sceptic 2, devout 5, heathen 4), home 2 later. */
    private static OmenLine behindACat() {
        return Checks.line("blocks 3;cat 1;plain up 0 1;plain up 9 1;");
    }

    private static void fits() {
        OmenLine x = behindACat();
        C.due("28 BAD", x.fits(2), BAD);
        C.due("28 BAD", x.fits(-1), BAD);
        C.due("28 all", x.fits(0), 15);
        x.see(0, 3, 0);
        C.due("28 not the sceptic", x.fits(0), 13);
        C.due("28 of the other one all", x.fits(1), 15);
        x.see(0, 4, 1);
        C.due("28 plain or heathen", x.fits(0), 9);
        x.see(1, 11, 1);
        C.due("28 the other one is a sceptic", x.fits(1), 2);
        C.due("28 the first one still", x.fits(0), 9);
        C.due("28 he stays of his faith", x.train(1, 0), 0);
        x.see(0, 4, NONE);
        C.due("28 none", x.fits(0), 0);
        x.forget(2);
        x.hang(1, 2);
        C.due("28 a sweep: none would be in 0 behind 3 and in 1 behind 4", x.fits(0), 0);
    }

    private static void look() {
        OmenLine x = behindACat();
        // Behind 2 and 3 the sceptic alone is elsewhere; behind 4 he is home, the devout one in 0, the others in 1.
        C.due("29 when", x.look(0, 0), 4);
        C.due("29 how many at the worst", x.look(0, 1), 2);
        C.due("29 of the other one", x.look(1, 0), 13);
        x.see(0, 1, 0);
        C.due("29 tells nothing", x.look(0, 0), 4);
        x.see(0, 2, 0);
        C.due("29 three fit, two at the worst", x.look(0, 1), 2);
        C.due("29 the devout one is elsewhere", x.look(0, 0), 4);
        x.see(0, 4, 1);
        C.due("28 plain or heathen", x.fits(0), 9);
        C.due("29 they are alike", x.look(0, 0), NONE);
        C.due("29 they are alike", x.look(0, 1), NONE);
        x.forget(2);
        x.see(0, 4, 0);
        C.due("28 devout", x.fits(0), 4);
        C.due("29 one alone", x.look(0, 0), NONE);
        x.see(0, 4, 1);
        C.due("28 none", x.fits(0), 0);
        C.due("29 none", x.look(0, 1), NONE);
        C.due("29 BAD", x.look(2, 0), BAD);
        C.due("29 BAD", x.look(-1, 0), BAD);
        C.due("29 BAD", x.look(0, 2), BAD);
        C.due("29 BAD", x.look(0, -1), BAD);
        OmenLine y = Checks.line("blocks 2;hearse 0;sweep 1;plain up 0 1;");
        // In 0 behind 5, 2, 6, 5, in 1 behind 6, 3, 8, 8, home in 7, 4, 9, 9.
        // Behind 2 and 3 three are outside; behind 5 two are in 0 and two in none.
        C.due("29 the first of the best", y.look(0, 0), 5);
        C.due("29 the best", y.look(0, 1), 2);
    }

    private static void drift() {
        OmenLine x = Checks.line("blocks 2;plain up 0 1;");
        // Seed 0 becomes 12345, whose bits 16 to 30 are 0, then what second is.
        int first = 12345;
        int second = first * 1103515245 + 12345;
        int b = (first >>> 16 & 32767) % 2;
        int omen = (second >>> 16 & 32767) % 5;
        int[] waits = {0, 1, 0, 3, 5};
        C.due("30 block of seed 0", b, 0);
        C.due("30 one cost", x.drift(0, 1, 1), 2 + waits[omen]);
        C.due("30 no bump", x.drift(0, 20, 0), 0);
        C.due("30 by itself", x.rule(4), 0);
        C.due("30 the same again", x.drift(0, 1, 1), 2 + waits[omen]);
        C.due("30 BAD", x.drift(0, 0, 0), BAD);
        C.due("30 BAD", x.drift(0, 21, 0), BAD);
        C.due("30 BAD", x.drift(0, -1, 0), BAD);
        C.due("30 BAD", x.drift(0, 1, 2), BAD);
        C.due("30 BAD", x.drift(0, 1, -1), BAD);
        int costs = 0;
        int[] omens = new int[2];
        int seed = Integer.MIN_VALUE + 77;
        for (int i = 0; i < 20; i++) {
            seed = seed * 1103515245 + 12345;
            int where = (seed >>> 16 & 32767) % 2;
            seed = seed * 1103515245 + 12345;
            omens[where] = (seed >>> 16 & 32767) % 5;
            costs += 2 + waits[omens[0]] + waits[omens[1]];
        }
        C.due("30 all costs", x.drift(Integer.MIN_VALUE + 77, 20, 1), costs);
        OmenLine y = Checks.line("blocks 2;lock 0 1;hearse 0;plain up 0 1;");
        // A LOCK keeps all but none out of 1 as long as the hearse (or what comes for it) hangs in 0.
        int kept = 0;
        omens = new int[] {4, 0};
        seed = 5;
        for (int i = 0; i < 20; i++) {
            seed = seed * 1103515245 + 12345;
            int where = (seed >>> 16 & 32767) % 2;
            seed = seed * 1103515245 + 12345;
            int what = (seed >>> 16 & 32767) % 5;
            if (what == 0 || omens[1 - where] == 0) {
                omens[where] = what;
            }
            kept += 2 + waits[omens[0]] + waits[omens[1]];
        }
        C.due("30 as a lock lets it", y.drift(5, 20, 1), kept);
        C.due("30 by itself", y.block(0, 0), 4);
        OmenLine z = Checks.line("blocks 2;plain up 0 1;plain up 0 1;");
        C.due("30 every run has a bump", z.drift(9, 7, 0), 7);
        C.due("30 and costs all", z.drift(9, 7, 1), 7 * 240);
    }
}
