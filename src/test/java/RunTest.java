/** Promises 11 to 17: what is changed, a run. The answers are worked out by hand. */
public final class RunTest {
    private static final Checks C = new Checks();
    private static final int BAD = OmenLine.BAD, STATE = OmenLine.STATE, NONE = OmenLine.NONE;

    public static void main(String[] args) {
        hang();
        guard();
        set();
        oneTrain();
        waitsOnce();
        orderOfTrains();
        bump();
        standstill();
        wrongNumbers();
        C.finish();
    }

    private static void hang() {
        OmenLine x = Checks.line("blocks 3;lock 0 2;cat 1;");
        C.due("11 was none", x.hang(0, 4), 0);
        C.due("11 was hearse", x.hang(0, 2), 4);
        C.due("11 kept by a lock", x.hang(2, 1), STATE);
        C.due("11 none is never kept", x.hang(2, 0), 0);
        C.due("11 not locked", x.hang(1, 0), 3);
        C.due("11 omens", x.rule(4), 1);
        C.due("11 taken down", x.hang(0, 0), 2);
        C.due("11 free now", x.hang(2, 1), 0);
        C.due("11 the other way", x.hang(0, 1), STATE);
        C.due("11 BAD block", x.hang(3, 1), BAD);
        C.due("11 BAD block", x.hang(-1, 1), BAD);
        C.due("11 BAD omen", x.hang(0, 5), BAD);
        C.due("11 BAD omen", x.hang(0, -1), BAD);
        C.due("11 refused changes nothing", x.rule(4), 4);
    }

    private static void guard() {
        OmenLine x = Checks.line("blocks 3;guard 1;");
        C.due("12 was", x.guard(1, true), 1);
        C.due("12 was", x.guard(1, false), 1);
        C.due("12 was not", x.guard(1, false), 0);
        C.due("12 was not", x.guard(2, true), 0);
        C.due("12 guarded", x.rule(3), 4);
        C.due("12 BAD", x.guard(3, true), BAD);
        C.due("12 BAD", x.guard(-1, false), BAD);
        C.due("12 BAD", x.guard(32, true), BAD);
        C.due("12 guarded", x.rule(3), 4);
    }

    private static void set() {
        OmenLine x = Checks.line("plain up 0 0;heathen down 9 9;");
        int[] most = {3, 1, 9, 9};
        int[] was = {3, 1, 9, 9};
        for (int what = 0; what < 4; what++) {
            C.due("13 BAD", x.set(1, what, most[what] + 1), BAD);
            C.due("13 BAD", x.set(1, what, -1), BAD);
            C.due("13 was", x.set(1, what, 0), was[what]);
            C.due("13 was", x.set(1, what, most[what]), 0);
            C.due("13 is", x.train(1, what), most[what]);
            C.due("13 the other one stays", x.train(0, what), 0);
        }
        C.due("13 BAD", x.set(2, 0, 0), BAD);
        C.due("13 BAD", x.set(-1, 0, 0), BAD);
        C.due("13 BAD", x.set(0, 4, 0), BAD);
        C.due("13 BAD", x.set(0, -1, 0), BAD);
    }

    private static void oneTrain() {
        OmenLine x = Checks.line("blocks 2;plain up 0 7;");
        C.due("14 home", x.home(0), 2);
        C.due("15 at 0", x.at(0, 0), 0);
        C.due("15 at 1", x.at(0, 1), 1);
        C.due("15 at 2", x.at(0, 2), NONE);
        C.due("15 at 119", x.at(0, 119), NONE);
        C.due("17 cost", x.sum(0), 14);
        C.due("17 home", x.sum(1), 1);
        C.due("17 blocks", x.sum(4), 3);
        x.hang(1, 3);
        C.due("14 home behind a cat", x.home(0), 5);
        C.due("15 at 3", x.at(0, 3), 0);
        C.due("15 at 4", x.at(0, 4), 1);
        C.due("17 waited", x.sum(2), 3);
        x.set(0, 1, 1);
        C.due("14 home down", x.home(0), 5);
        C.due("15 outside while it waits", x.at(0, 2), NONE);
        C.due("15 down", x.at(0, 3), 1);
        C.due("15 down", x.at(0, 4), 0);
        x.set(0, 0, 2);
        x.set(0, 2, 9);
        C.due("14 devout from 9 on", x.home(0), 9 + 4 + 2);
        C.due("15 outside", x.at(0, 12), NONE);
        C.due("15 in", x.at(0, 13), 1);
        C.due("16 no bump", x.bump(0), NONE);
    }

    private static void waitsOnce() {
        OmenLine x = Checks.line("blocks 3;magpie 1;hearse 2;guard 1;plain up 0 2;plain up 3 3;");
        C.due("14 home", x.home(0), 9);
        C.due("14 home", x.home(1), 15);
        C.due("15 kept out", x.at(1, 7), 0);
        C.due("15 in, when the other one has left", x.at(1, 8), 1);
        C.due("17 cost", x.sum(0), 9 * 2 + 15 * 3);
        C.due("17 home", x.sum(1), 2);
        C.due("17 waited", x.sum(2), 12);
        C.due("17 kept out", x.sum(3), 3);
        C.due("17 blocks", x.sum(4), 7);
        C.due("16 none", x.bump(2), NONE);
        x.guard(1, false);
        C.due("16 bump", x.bump(0), 5);
        C.due("16 bump", x.bump(1), 1);
        C.due("16 bump", x.bump(2), 10);
    }

    private static void orderOfTrains() {
        OmenLine x = Checks.line("blocks 3;plain up 1 1;plain up 0 1;");
        C.due("16 the first one steps first", x.bump(0), 1);
        C.due("16 block", x.bump(1), 0);
        C.due("16 trains", x.bump(2), 1);
        C.due("17 blocks", x.sum(4), 1);
        OmenLine z = Checks.line("blocks 3;plain up 0 1;plain up 1 1;");
        C.due("16 the other way there is none", z.bump(0), NONE);
        C.due("14 home", z.home(1), 4);
    }

    private static void bump() {
        OmenLine x = Checks.line("blocks 4;hearse 3;plain up 0 1;sceptic down 0 2;devout up 5 3;heathen up 2 4;");
        // 0: t0 in 0; t1 waits. 1: t0 in 1; t1 waits. 2: t0 in 2, t1 in 3, t3 in 0.
        // 3: t0 waits for the hearse; t1 is to enter 2, where t0 is.
        C.due("16 minute", x.bump(0), 3);
        C.due("16 block", x.bump(1), 2);
        C.due("16 trains", x.bump(2), 10);
        C.due("15 the one that is there", x.at(0, 3), 2);
        C.due("15 stays where it is", x.at(1, 119), 3);
        C.due("15 never started", x.at(2, 100), NONE);
        C.due("15 no step behind the bump", x.at(3, 3), 0);
        C.due("14 none home", x.home(0), NONE);
        C.due("17 cost", x.sum(0), 1200);
        C.due("17 waited", x.sum(2), 3);
        C.due("17 blocks", x.sum(4), 15);
    }

    private static void standstill() {
        OmenLine x = Checks.line("blocks 2;guard 0;guard 1;plain up 0 1;plain down 0 2;sceptic up 9 5;");
        C.due("17 kept out by guards to the end", x.sum(3), 119 * 2 + 111);
        C.due("17 cost", x.sum(0), 960);
        C.due("17 none home", x.sum(1), 0);
        C.due("16 no bump", x.bump(1), NONE);
        C.due("15 stands", x.at(0, 119), 0);
        C.due("15 stands", x.at(1, 60), 1);
        C.due("15 outside", x.at(2, 119), NONE);
        C.due("14 never", x.home(1), NONE);
    }

    private static void wrongNumbers() {
        OmenLine x = Checks.line("plain up 0 1;");
        C.due("14 BAD", x.home(1), BAD);
        C.due("14 BAD", x.home(-1), BAD);
        C.due("15 BAD", x.at(1, 0), BAD);
        C.due("15 BAD", x.at(0, -1), BAD);
        C.due("15 BAD", x.at(0, 120), BAD);
        C.due("16 BAD", x.bump(-1), BAD);
        C.due("16 BAD before NONE", x.bump(3), BAD);
        C.due("17 BAD", x.sum(-1), BAD);
        C.due("17 BAD", x.sum(5), BAD);
    }
}
