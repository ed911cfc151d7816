/** Promises 18 to 25: what is best, magpies by odds. The answers are worked out by hand. */
public final class BestTest {
    private static final Checks C = new Checks();
    private static final int BAD = OmenLine.BAD, NONE = OmenLine.NONE;

    public static void main(String[] args) {
        noTrains();
        fewest();
        guards();
        magpies();
        starts();
        allowed();
        convert();
        mean();
        luck();
        nothingChanges();
        wrongNumbers();
        C.finish();
    }

    private static void noTrains() {
        OmenLine x = new OmenLine();
        C.due("18", x.fewest(0) + x.fewest(1), 0);
        C.due("19", x.guards(0) + x.guards(1), 0);
        C.due("20", x.magpies(0) + x.magpies(1), 0);
        C.due("21", x.starts(0), 0);
        C.due("21 no such train", x.starts(10), BAD);
        C.due("23", x.convert(0), NONE);
        C.due("23", x.convert(1), NONE);
        C.due("24 0 is 0 by 1", x.mean(3, 0), 0);
        C.due("24 0 is 0 by 1", x.mean(3, 1), 1);
        C.due("25", x.luck(3, 0), 1);
        C.due("25", x.luck(3, 1), 1);
    }

    /** Two trains on one way: the second one is to enter BLOCK 0 when the first one is there. */
    private static OmenLine twoAtOnce() {
        return Checks.line("blocks 3;plain up 0 2;plain up 0 5;");
    }

    private static void fewest() {
        OmenLine x = twoAtOnce();
        C.due("18 how many", x.fewest(0), 1);
        C.due("18 which", x.fewest(1), 1);
        x.guard(1, true);
        C.due("18 those alone", x.fewest(1), 1);
        OmenLine y = Checks.line("blocks 3;plain up 0 2;plain down 0 2;");
        // 0: they are in 0 and 2. 1: the first one enters 1; the second one bumps, unless 1 is guarded.
        // 2: the first one bumps in 2, unless it is guarded; the second one in 1.
        C.due("18 head on", y.fewest(0), 2);
        C.due("18 head on", y.fewest(1), 6);
        OmenLine z = Checks.line("plain up 0 1;plain up 4 1;");
        C.due("18 none needed", z.fewest(0), 0);
        C.due("18 none needed", z.fewest(1), 0);
        z.set(1, 2, 0);
        C.due("18 by what there is now", z.fewest(1), 1);
    }

    private static void guards() {
        OmenLine x = twoAtOnce();
        C.due("19 cost", x.guards(0), 3 * 2 + 4 * 5);
        C.due("19 the least set", x.guards(1), 1);
        OmenLine y = Checks.line("blocks 3;plain up 0 2;plain down 0 2;");
        C.due("19 by none", y.guards(0), NONE);
        C.due("19 by none", y.guards(1), NONE);
        OmenLine z = Checks.line("blocks 3;guard 2;plain up 0 1;plain up 4 1;");
        C.due("19 no guard at all", z.guards(1), 0);
        C.due("19 cost", z.guards(0), 3 + 7);
        z.set(1, 2, 0);
        z.set(1, 3, 2);
        C.due("19 by what there is now", z.guards(1), 1);
        C.due("19 by what there is now", z.guards(0), 3 + 8);
    }

    private static void magpies() {
        // They are to enter 0 at once; the sceptic waits for no magpie, the devout one for two minutes.
        OmenLine x = Checks.line("blocks 3;devout up 0 2;sceptic up 0 5;");
        C.due("20 a magpie in 0 holds the devout one", x.magpies(0), 1);
        C.due("20 which", x.magpies(1), 1);
        OmenLine y = Checks.line("blocks 3;lock 0 1;cat 1;devout up 0 2;sceptic up 0 5;");
        C.due("20 a lock keeps it", y.magpies(0), NONE);
        C.due("20 a lock keeps it", y.magpies(1), NONE);
        OmenLine z = Checks.line("blocks 3;plain up 0 2;plain up 3 5;");
        C.due("20 none needed", z.magpies(0), 0);
        C.due("20 none needed", z.magpies(1), 0);
        OmenLine w = Checks.line("blocks 3;sweep 0;plain up 0 2;sceptic up 0 5;");
        C.due("20 a block with an omen has no room", w.magpies(0), NONE);
        // The devout one waits 2 minutes at each magpie, the sceptic none: he must be gone by then.
        OmenLine v = Checks.line("blocks 4;cat 2;cat 3;devout up 1 1;sceptic up 0 1;");
        // Without: the sceptic is in 0 behind minute 0, the devout one is to enter it in minute 1.
        C.due("20 one is enough", v.magpies(0), 1);
        C.due("20 the least", v.magpies(1), 1);
        // The heathen one is in 1 for the sweep from 2 to 4; a magpie in 1 or in 2 holds the devout one long enough.
        OmenLine u = Checks.line("blocks 3;sweep 0;heathen down 1 1;devout down 3 1;");
        C.due("20 one of two", u.magpies(0), 1);
        C.due("20 the least of two", u.magpies(1), 2);
        // The sceptic leaves 3 in 9, where the plain one would be in 7: two magpies of 1, 2, 3.
        OmenLine s = Checks.line("blocks 5;magpie 0;hearse 4;sceptic up 3 1;plain up 3 1;");
        C.due("20 two", s.magpies(0), 2);
        C.due("20 the least two", s.magpies(1), 6);
        s.set(1, 2, 5);
        C.due("20 by what there is now", s.magpies(0), 0);
        s.set(1, 2, 4);
        C.due("20 by what there is now", s.magpies(1), 2);
    }

    private static void starts() {
        OmenLine x = twoAtOnce();
        C.due("21 cost", x.starts(0), 4 * 2 + 3 * 5 + 2 * 1);
        C.due("21 the first one waits: it steps ahead of the second", x.starts(10), 2);
        C.due("21 of the other one", x.starts(11), 0);
        C.due("21 BAD", x.starts(12), BAD);
        C.due("21 BAD", x.starts(9), BAD);
        C.due("21 BAD", x.starts(1), BAD);
        C.due("21 BAD", x.starts(-1), BAD);
        C.due("21 BAD", x.starts(Integer.MIN_VALUE), BAD);
        OmenLine u = Checks.line("blocks 3;plain up 0 2;plain down 0 2;");
        // The first one goes home in 3, and steps first: then the second one may enter.
        C.due("21 head on", u.starts(0), 3 * 2 + 6 * 2);
        C.due("21 head on", u.starts(10), 0);
        C.due("21 head on", u.starts(11), 3);
        OmenLine y = Checks.line("blocks 4;plain up 0 2;plain down 0 2;");
        C.due("21 by none", y.starts(0), NONE);
        C.due("21 by none", y.starts(11), NONE);
        OmenLine z = Checks.line("blocks 2;plain up 9 0;plain up 9 0;");
        C.due("21 of several the first", z.starts(10), 0);
        C.due("21 of several the first", z.starts(11), 1);
        C.due("21 cost", z.starts(0), 0);
        OmenLine w = Checks.line("blocks 2;plain up 9 1;");
        C.due("21 earlier than now", w.starts(0), 2);
        w.hang(1, 3);
        w.set(0, 3, 2);
        C.due("21 by what there is now", w.starts(0), 10);
        C.due("21 four trains", Checks.line("blocks 2;plain up 0 1;plain up 0 1;plain up 0 1;plain up 0 1;").starts(13), 3);
    }

    private static void allowed() {
        OmenLine x = Checks.line("blocks 3;lock 0 1;lock 1 0;");
        C.due("22 sets", x.allowed(0), 6);
        C.due("22 greatest", x.allowed(1), 2);
        OmenLine y = Checks.line("blocks 8;lock 0 1;lock 2 3;lock 4 5;lock 6 7;cat 0;");
        C.due("22 sets", y.allowed(0), 81);
        C.due("22 greatest", y.allowed(1), 4);
        OmenLine z = Checks.line("blocks 2;");
        C.due("22 sets", z.allowed(0), 4);
        C.due("22 greatest", z.allowed(1), 2);
    }

    private static void convert() {
        OmenLine x = Checks.line("blocks 2;hearse 1;devout up 0 3;");
        // Home in minute 8; plain and heathen 7, sceptic 4.
        C.due("23 whom", x.convert(0), 1);
        C.due("23 cost", x.convert(1), 12);
        x.set(0, 0, 1);
        C.due("23 none is better", x.convert(0), NONE);
        C.due("23 none is better", x.convert(1), NONE);
        OmenLine y = Checks.line("blocks 2;magpie 1;plain up 0 3;plain up 5 3;");
        // A magpie keeps neither a sceptic nor a heathen: four ways to save three, the least is told.
        C.due("23 the least", y.convert(0), 1);
        C.due("23 cost", y.convert(1), 2 * 3 + 8 * 3);
        OmenLine z = Checks.line("blocks 2;magpie 1;plain up 0 0;plain up 5 3;");
        C.due("23 the second one", z.convert(0), 11);
        C.due("23 its cost", z.convert(1), 21);
        OmenLine w = Checks.line("blocks 3;magpie 0;heathen up 0 1;sceptic up 0 1;");
        // A bump now; with a plain one behind they go home in 3 and 4, with a devout one ahead in 5 and 3.
        C.due("23 out of a bump", w.convert(0), 10);
        C.due("23 cost", w.convert(1), 7);
    }

    private static void mean() {
        OmenLine x = Checks.line("blocks 2;plain up 0 3;");
        C.due("24 no magpie", x.mean(0, 0), 6);
        C.due("24 no magpie", x.mean(0, 1), 1);
        C.due("24 both", x.mean(10, 0), 12);
        C.due("24 both", x.mean(10, 1), 1);
        C.due("24 half", x.mean(5, 0), 9);
        C.due("24 half", x.mean(5, 1), 1);
        C.due("24 three of ten", x.mean(3, 0), 39);
        C.due("24 three of ten", x.mean(3, 1), 5);
        x.hang(0, 4);
        C.due("24 an omen stays", x.mean(3, 0), 219);
        C.due("24 an omen stays", x.mean(3, 1), 10);
        OmenLine y = Checks.line("blocks 2;lock 0 1;plain up 0 1;");
        C.due("24 locks aside", y.mean(10, 0), 4);
        OmenLine z = Checks.line("blocks 8;devout up 9 9;devout up 9 9;devout up 9 9;devout up 9 9;");
        C.due("24 a bump costs all", z.mean(1, 0), 4320);
        OmenLine w = Checks.line("blocks 8;devout up 0 1;");
        C.due("24 eight blocks", w.mean(1, 0), 48);
        C.due("24 eight blocks", w.mean(1, 1), 5);
    }

    private static void luck() {
        OmenLine x = Checks.line("blocks 3;devout up 0 2;sceptic up 0 5;");
        // Without a magpie in 0 they bump there at once; with it the sceptic is ahead for ever.
        C.due("25 by 3 of ten", x.luck(3, 0), 3);
        C.due("25 by 3 of ten", x.luck(3, 1), 10);
        C.due("25 never", x.luck(0, 0), 0);
        C.due("25 never", x.luck(0, 1), 1);
        C.due("25 always", x.luck(10, 0), 1);
        C.due("25 always", x.luck(10, 1), 1);
        C.due("25 lowest terms", x.luck(4, 0), 2);
        C.due("25 lowest terms", x.luck(4, 1), 5);
        OmenLine y = Checks.line("blocks 3;devout up 0 1;sceptic up 3 1;");
        // The sceptic enters 0, 1, 2 in 3, 4, 5; the devout one 0, 1, 2, home in 0 to 3, later by 2 for each magpie.
        // With one he is out of 0 in 3, if it is before 0 or 1, and always ahead; with more they meet.
        C.due("25 fewer than two of three", y.luck(5, 0), 1);
        C.due("25 fewer than two of three", y.luck(5, 1), 2);
        C.due("25 by one of ten", y.luck(1, 0), 243);
        C.due("25 by one of ten", y.luck(1, 1), 250);
    }

    private static void nothingChanges() {
        OmenLine x = Checks.line("blocks 3;guard 2;cat 1;plain up 1 2;devout down 2 5;");
        x.fewest(0);
        x.guards(1);
        x.magpies(0);
        x.starts(0);
        x.allowed(0);
        x.convert(0);
        x.mean(5, 0);
        x.luck(5, 0);
        C.due("guards stay", x.rule(3), 4);
        C.due("omens stay", x.rule(4), 2);
        int[] facts = {0, 0, 1, 2, 2, 1, 2, 5};
        for (int i = 0; i < 8; i++) {
            C.due("trains stay", x.train(i / 4, i % 4), facts[i]);
        }
    }

    private static void wrongNumbers() {
        OmenLine x = twoAtOnce();
        for (int what : new int[] {-1, 2, Integer.MAX_VALUE, Integer.MIN_VALUE}) {
            C.due("18 BAD", x.fewest(what), BAD);
            C.due("19 BAD", x.guards(what), BAD);
            C.due("20 BAD", x.magpies(what), BAD);
            C.due("21 BAD", x.starts(what), BAD);
            C.due("22 BAD", x.allowed(what), BAD);
            C.due("23 BAD", x.convert(what), BAD);
            C.due("24 BAD", x.mean(5, what), BAD);
            C.due("25 BAD", x.luck(5, what), BAD);
        }
        C.due("24 BAD", x.mean(-1, 0), BAD);
        C.due("24 BAD", x.mean(11, 0), BAD);
        C.due("25 BAD", x.luck(-1, 0), BAD);
        C.due("25 BAD", x.luck(11, 0), BAD);
    }
}
