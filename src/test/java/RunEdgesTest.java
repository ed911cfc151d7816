/** The edges of promises 14 to 17 and of section 2: a RUN. The answers are worked out by hand. */
public final class RunEdgesTest {
    private static final Checks C = new Checks();
    private static final int BAD = OmenLine.BAD, NONE = OmenLine.NONE;
    private static final String[] FAITHS = {"plain", "sceptic", "devout", "heathen"};
    private static final int[][] WAITS = {{0, 1, 0, 3, 5}, {0, 0, 0, 1, 2}, {0, 2, 1, 4, 6}, {0, 0, 2, 3, 5}};

    public static void main(String[] args) {
        fromStartOn();
        eachWayAndLength();
        waitsOfEachFaith();
        waitsInEachBlock();
        seesEachAnew();
        freeWhenTheOtherStepsFirst();
        takenWhenTheOtherStepsLater();
        homeIsInNone();
        waitsThoughItIsTaken();
        doesNotWaitAnew();
        staysOutsideToo();
        overInThatMinute();
        bumpInTheFirstMinute();
        whoBumpsInWhom();
        faceToFace();
        guardsElsewhere();
        toTheLastMinute();
        longestRun();
        costOfThoseWhoDoNot();
        homeOfNone();
        homeBeyond();
        atEachMinute();
        atBeyond();
        bumpOfNone();
        bumpBeyond();
        sumsOfNothing();
        sumsOfARun();
        sumBeyond();
        nothingIsChangedByARun();
        C.finish();
    }

    private static void fromStartOn() {
        C.of("A RUN, minute by minute from 0, from START on");
        for (int start = 0; start <= 9; start++) {
            OmenLine x = Checks.line("blocks 2;plain up " + start + " 1;");
            C.path(x, 0, "-".repeat(start) + "01--");
            C.due("home", x.home(0), start + 2);
            C.due("cost", x.sum(0), start + 2);
        }
    }

    private static void eachWayAndLength() {
        C.of("One that is in the last BLOCK of its WAY goes HOME; else it is to enter the next BLOCK of its WAY");
        for (int n = 2; n <= 8; n++) {
            OmenLine x = Checks.line("blocks " + n + ";plain up 0 1;");
            C.path(x, 0, "01234567".substring(0, n) + "--");
            C.due("up", x.home(0), n);
            x.set(0, 1, 1);
            C.path(x, 0, "76543210".substring(8 - n) + "--");
            C.due("down", x.home(0), n);
            C.due("blocks", x.sum(4), (1 << n) - 1);
        }
    }

    private static void waitsOfEachFaith() {
        C.of("it waits as many minutes as its FAITH WAITS for it (this is the first of these)");
        for (int faith = 0; faith < 4; faith++) {
            for (int omen = 0; omen < 5; omen++) {
                OmenLine x = Checks.line("blocks 2;" + FAITHS[faith] + " up 0 1;");
                int minutes = WAITS[faith][omen];
                x.hang(0, omen);
                C.path(x, 0, "-".repeat(minutes) + "01-");
                C.due("home", x.home(0), minutes + 2);
                C.due("waited", x.sum(2), minutes);
                x.set(0, 1, 1);
                C.path(x, 0, "1" + "1".repeat(minutes) + "0-");
                x.set(0, 2, 9);
                C.due("from 9 on", x.home(0), 9 + minutes + 2);
            }
        }
    }

    private static void waitsInEachBlock() {
        C.of("it first sees the OMEN there: of the BLOCK that it is to enter");
        for (int b = 0; b < 8; b++) {
            OmenLine x = Checks.line("blocks 8;cat " + b + ";plain up 0 1;");
            String all = "-01234567-";
            C.path(x, 0, all.substring(1, b + 1) + ("" + all.charAt(b)).repeat(3) + all.substring(b + 1));
            C.due("home", x.home(0), 11);
            x.set(0, 1, 1);
            C.due("home down", x.home(0), 11);
            C.due("waited", x.sum(2), 3);
        }
    }

    private static void seesEachAnew() {
        C.of("when it has entered none since, it first sees the OMEN there");
        OmenLine x = Checks.line("blocks 3;magpie 0;magpie 1;cat 2;plain up 0 1;");
        C.path(x, 0, "-0011112-");
        C.due("waited", x.sum(2), 5);
        x.hang(1, 0);
        C.path(x, 0, "-011112-");
        x.set(0, 1, 1);
        C.path(x, 0, "---2110-");
    }

    private static void freeWhenTheOtherStepsFirst() {
        C.of("TRAINS by order in each minute: one that steps earlier has left the BLOCK");
        OmenLine x = Checks.line("blocks 3;plain up 0 1;plain up 1 1;plain up 2 1;plain up 3 1;");
        C.due("no bump", x.bump(0), NONE);
        C.path(x, 0, "012---");
        C.path(x, 1, "-012--");
        C.path(x, 3, "---012-");
        OmenLine y = Checks.line("blocks 2;plain up 0 1;plain down 2 1;");
        C.due("it went HOME", y.bump(0), NONE);
        C.path(y, 1, "--10-");
    }

    private static void takenWhenTheOtherStepsLater() {
        C.of("Is another TRAIN in that BLOCK: one that steps later is there still");
        OmenLine x = Checks.line("blocks 3;plain up 1 1;plain up 0 1;");
        C.due("minute", x.bump(0), 1);
        C.due("block", x.bump(1), 0);
        C.due("trains", x.bump(2), 1);
        OmenLine y = Checks.line("blocks 2;plain down 2 1;plain up 0 1;");
        C.due("it would go HOME", y.bump(0), 2);
        C.due("block", y.bump(1), 1);
        C.due("trains", y.bump(2), 1);
        y.guard(1, true);
        C.due("guarded", y.bump(0), NONE);
        C.path(y, 0, "---10-");
        C.due("kept out", y.sum(3), 1);
        y.set(0, 2, 3);
        C.due("a minute later it is free", y.sum(3), 0);
    }

    private static void homeIsInNone() {
        C.of("one that is HOME or outside still is in no BLOCK");
        OmenLine x = Checks.line("blocks 2;plain up 0 1;plain up 3 1;plain down 5 1;plain up 8 1;");
        C.due("no bump", x.bump(0), NONE);
        C.due("all are home", x.sum(1), 4);
        C.path(x, 3, "--------01-");
        OmenLine y = Checks.line("blocks 2;hearse 0;plain up 0 1;plain up 0 1;");
        C.path(y, 1, "------");
        C.due("both wait outside, then they bump", y.bump(0), 5);
    }

    /** The second one is to enter 1 in 8, where the first one waits for the hearse in 2 up to 9. */
    private static OmenLine catThenHearse() {
        return Checks.line("blocks 3;cat 1;hearse 2;guard 1;plain up 0 1;plain up 4 1;");
    }

    private static void waitsThoughItIsTaken() {
        C.of("it waits; then it enters: as long as it waits there is no BUMP");
        OmenLine x = catThenHearse();
        x.guard(1, false);
        C.due("minute", x.bump(0), 8);
        C.due("block", x.bump(1), 1);
        C.due("trains", x.bump(2), 10);
        C.path(x, 0, "0000111111111");
        C.path(x, 1, "----000000000");
        C.due("waited", x.sum(2), 10);
        C.due("blocks", x.sum(4), 3);
    }

    private static void doesNotWaitAnew() {
        C.of("it stays where it is, if the BLOCK is GUARDED (it does not wait anew in the next minute)");
        OmenLine x = catThenHearse();
        C.path(x, 0, "0000111111" + "2--------");
        C.path(x, 1, "----000000" + "1111112--");
        C.due("home", x.home(0), 11);
        C.due("home", x.home(1), 17);
        C.due("waited", x.sum(2), 16);
        C.due("kept out", x.sum(3), 2);
        C.due("no bump", x.bump(0), NONE);
    }

    private static void staysOutsideToo() {
        C.of("it stays where it is: outside, if it is to enter the first one");
        OmenLine x = Checks.line("blocks 2;guard 0;hearse 1;plain up 0 1;sceptic up 0 1;");
        C.path(x, 0, "0000001-");
        C.path(x, 1, "------0" + "001-");
        C.due("kept out", x.sum(3), 6);
        C.due("waited", x.sum(2), 7);
        C.due("home", x.home(1), 10);
    }

    private static void overInThatMinute() {
        C.of("else it is a BUMP: THE RUN is over in that minute");
        OmenLine x = Checks.line("blocks 4;plain up 1 1;plain up 0 1;plain down 1 1;");
        C.due("minute", x.bump(0), 1);
        C.path(x, 0, "----");
        C.path(x, 1, "0000");
        C.path(x, 2, "----");
        C.due("the one there stays for ever", x.at(1, 119), 0);
        C.due("no later one steps", x.at(2, 119), NONE);
        OmenLine y = Checks.line("blocks 4;plain down 1 1;plain up 1 1;plain up 0 1;");
        C.due("trains", y.bump(2), 12);
        C.path(y, 0, "-333");
        C.due("an earlier one did", y.at(0, 119), 3);
        OmenLine z = Checks.line("blocks 2;plain up 0 5;plain up 9 1;plain up 8 2;");
        C.due("minute", z.bump(0), 9);
        C.due("one was HOME", z.home(0), 2);
        C.due("no more go", z.home(2), NONE);
        C.due("home", z.sum(1), 1);
        C.due("cost", z.sum(0), 2 * 5 + 120 + 240);
    }

    private static void bumpInTheFirstMinute() {
        C.of("16 The BUMP: its minute: 0");
        OmenLine x = Checks.line("blocks 2;plain up 0 1;plain up 0 1;");
        C.due("minute", x.bump(0), 0);
        C.due("block", x.bump(1), 0);
        C.due("trains", x.bump(2), 10);
        C.due("the first is in", x.at(0, 0), 0);
        C.due("the other is not", x.at(1, 0), NONE);
        OmenLine y = Checks.line("blocks 8;plain down 0 1;plain down 0 1;");
        C.due("minute", y.bump(0), 0);
        C.due("block", y.bump(1), 7);
    }

    private static void whoBumpsInWhom() {
        C.of("16 10 times the TRAIN that enters and the one that is there");
        for (int enters = 0; enters < 4; enters++) {
            for (int there = 0; there < 4; there++) {
                if (enters != there) {
                    OmenLine x = Checks.line("blocks 3;plain up 9 1;plain up 9 1;plain up 9 1;plain up 9 1;cat 1;");
                    x.set(enters, 2, 2);
                    x.set(there, 2, 1);
                    C.due("trains", x.bump(2), 10 * enters + there);
                    C.due("minute", x.bump(0), 2);
                }
            }
        }
    }

    private static void faceToFace() {
        C.of("two that are to enter one another's BLOCK");
        OmenLine x = Checks.line("blocks 2;plain up 0 1;plain down 0 1;");
        C.due("minute", x.bump(0), 1);
        C.due("block", x.bump(1), 1);
        C.due("trains", x.bump(2), 1);
        x.guard(1, true);
        C.due("the second one then", x.bump(0), 1);
        C.due("block", x.bump(1), 0);
        C.due("trains", x.bump(2), 10);
        x.guard(0, true);
        C.due("none", x.bump(0), NONE);
    }

    private static void guardsElsewhere() {
        C.of("if the BLOCK is GUARDED: that one, no other");
        OmenLine x = Checks.line("blocks 3;guard 1;guard 2;plain up 0 1;plain up 0 1;");
        C.due("block", x.bump(1), 0);
        x.guard(0, true);
        C.due("none", x.bump(1), NONE);
        C.path(x, 1, "-012-");
    }

    private static void toTheLastMinute() {
        C.of("minute by minute from 0 to 119");
        OmenLine x = Checks.line("blocks 2;guard 0;guard 1;plain up 0 1;plain down 0 2;");
        C.due("kept out from 1 to 119", x.sum(3), 2 * 119);
        C.due("at 119", x.at(0, 119), 0);
        C.due("at 119", x.at(1, 119), 1);
        C.due("cost", x.sum(0), 360);
        for (int start = 0; start <= 9; start++) {
            OmenLine y = Checks.line("blocks 2;guard 0;guard 1;plain up 0 1;plain down 0 2;plain up " + start + " 0;");
            C.due("kept out outside, from START to 119", y.sum(3), 2 * 119 + 120 - start);
            C.due("outside", y.at(2, 119), NONE);
        }
        OmenLine z = Checks.line("blocks 2;guard 0;guard 1;hearse 0;plain up 0 1;plain down 0 2;devout down 9 0;");
        // The second one is in 1 behind 0, sees the hearse with 5 minutes to wait; both are to enter 0 in 6.
        C.due("waited", z.sum(2), 5 + 5);
        C.due("kept out", z.sum(3), 114 + 114 + 111);
    }

    private static void longestRun() {
        C.of("14 In which minute a TRAIN goes HOME: the longest way");
        OmenLine x = Checks.line("blocks 8;devout up 9 9;");
        for (int b = 0; b < 8; b++) {
            x.hang(b, 4);
        }
        C.due("home", x.home(0), 9 + 8 * 7);
        C.due("waited", x.sum(2), 48);
        C.due("cost", x.sum(0), 65 * 9);
        C.due("in the last", x.at(0, 64), 7);
        C.due("home", x.at(0, 65), NONE);
        C.due("behind 119", x.at(0, 119), NONE);
        OmenLine y = Checks.line("blocks 8;guard 0;devout up 9 9;devout up 9 9;devout up 9 9;devout up 9 9;");
        for (int b = 0; b < 8; b++) {
            y.hang(b, 4);
        }
        // Each is kept out of 0 for 7 minutes more than the one ahead of it, and never again.
        for (int t = 0; t < 4; t++) {
            C.due("home", y.home(t), 65 + 7 * t);
        }
        C.due("the latest of all", y.at(3, 85), 7);
        C.due("the latest of all", y.at(3, 86), NONE);
        C.due("kept out", y.sum(3), 7 + 14 + 21);
        C.due("waited", y.sum(2), 4 * 48);
        C.due("cost", y.sum(0), 9 * (65 + 72 + 79 + 86));
    }

    private static void costOfThoseWhoDoNot() {
        C.of("COST: of each TRAIN the minute in which it goes HOME (120, if it does not) times WORTH, summed");
        OmenLine x = Checks.line("blocks 2;plain up 0 9;plain up 0 9;plain up 0 9;plain up 0 9;");
        C.due("most", x.sum(0), 4320);
        for (int t = 0; t < 4; t++) {
            x.set(t, 3, 0);
            C.due("WORTH 0 costs nothing", x.sum(0), 120 * 9 * (3 - t));
        }
        OmenLine y = Checks.line("blocks 2;plain up 0 9;plain up 2 0;plain up 4 5;");
        C.due("cost", y.sum(0), 2 * 9 + 4 * 0 + 6 * 5);
    }

    private static void homeOfNone() {
        C.of("14 NONE: it does not");
        OmenLine x = Checks.line("blocks 2;plain up 0 1;plain up 0 1;plain up 9 1;");
        for (int t = 0; t < 3; t++) {
            C.due("home", x.home(t), NONE);
        }
        C.due("home", x.sum(1), 0);
    }

    private static void homeBeyond() {
        C.of("14 BAD");
        StringBuilder text = new StringBuilder("blocks 2;");
        for (int trains = 0; trains <= 4; trains++) {
            OmenLine x = Checks.line(text.toString());
            C.beyond("home of " + trains, 0, trains - 1, BAD, x::home);
            if (trains > 0) {
                C.due("the last", x.home(trains - 1), 2 * trains);
            }
            text.append("plain up ").append(2 * trains).append(" 1;");
        }
    }

    private static void atEachMinute() {
        C.of("15 In which BLOCK a TRAIN is behind minute m (0 to 119); NONE: in none");
        OmenLine x = Checks.line("blocks 3;plain up 1 1;");
        for (int m = 0; m < 120; m++) {
            C.due("at(0, " + m + ")", x.at(0, m), m >= 1 && m <= 3 ? m - 1 : NONE);
        }
    }

    private static void atBeyond() {
        C.of("15 BAD");
        OmenLine x = Checks.line("blocks 2;plain up 0 1;plain up 0 1;");
        C.beyond("at", 0, 119, BAD, m -> x.at(0, m));
        C.beyond("at", 0, 119, BAD, m -> x.at(1, m));
        C.beyond("at", 0, 1, BAD, t -> x.at(t, 0));
        C.beyond("at", 0, 1, BAD, t -> x.at(t, 119));
        C.due("no train", new OmenLine().at(0, 0), BAD);
    }

    private static void bumpOfNone() {
        C.of("16 NONE: there is none");
        OmenLine x = new OmenLine();
        OmenLine y = Checks.line("blocks 2;plain up 0 1;");
        for (int what = 0; what < 3; what++) {
            C.due("no TRAINS", x.bump(what), NONE);
            C.due("one TRAIN", y.bump(what), NONE);
        }
    }

    private static void bumpBeyond() {
        C.of("16 BAD");
        OmenLine x = Checks.line("blocks 2;plain up 0 1;plain up 0 1;");
        C.beyond("bump", 0, 2, BAD, x::bump);
    }

    private static void sumsOfNothing() {
        C.of("17 of THE RUN of no TRAINS");
        OmenLine x = Checks.line("blocks 8;hearse 0;guard 0;");
        for (int what = 0; what < 5; what++) {
            C.due("sum(" + what + ")", x.sum(what), 0);
        }
    }

    private static void sumsOfARun() {
        C.of("17 COST, TRAINS that are HOME, minutes that all waited, were kept out, BLOCKS in which there was one");
        OmenLine x = Checks.line("blocks 3;cat 0;guard 0;plain up 0 1;devout up 0 2;sceptic down 9 3;");
        // 0 to 2 wait, 3: in 0; 0 to 3 wait, 4: in 0, just left; 9 on: 2, 1, 9 + 2: one minute for the cat.
        C.path(x, 0, "---012-");
        C.path(x, 1, "----012-");
        C.path(x, 2, "---------2110-");
        int[] sums = {6 + 2 * 7 + 3 * 13, 3, 3 + 4 + 1, 0, 7};
        for (int what = 0; what < 5; what++) {
            C.due("sum(" + what + ")", x.sum(what), sums[what]);
        }
        OmenLine y = Checks.line("blocks 8;plain up 0 1;plain up 0 1;");
        C.due("in one alone", y.sum(4), 1);
        y.set(0, 1, 1);
        y.set(1, 1, 1);
        C.due("in the last alone", y.sum(4), 128);
        OmenLine z = Checks.line("blocks 8;hearse 0;plain up 0 1;plain down 0 1;plain down 0 1;");
        C.due("one waits outside at the bump", z.sum(4), 128);
        C.due("it waited", z.sum(2), 1);
    }

    private static void sumBeyond() {
        C.of("17 BAD");
        OmenLine x = Checks.line("blocks 2;plain up 0 1;plain up 0 1;");
        C.beyond("sum", 0, 4, BAD, x::sum);
    }

    private static void nothingIsChangedByARun() {
        C.of("a RUN is asked as often as may be, and is of what there is now");
        OmenLine x = catThenHearse();
        OmenLine y = Checks.line("blocks 2;plain up 0 1;plain up 0 1;");
        for (int i = 0; i < 3; i++) {
            C.due("home", x.home(1), 17);
            C.due("bump", y.bump(2), 10);
            C.due("no bump", x.bump(2), NONE);
            C.due("none home", y.home(1), NONE);
            C.due("blocks", x.sum(4), 7);
            C.due("one block", y.sum(4), 1);
        }
        y.set(1, 2, 1);
        C.due("no bump now", y.bump(0), NONE);
        y.hang(1, 3);
        C.due("a bump now", y.bump(0), 1);
        y.guard(0, true);
        C.due("no bump now", y.bump(1), NONE);
        C.due("both are home", y.sum(1), 2);
        y.fewest(0);
        y.guard(0, false);
        C.due("what was tried is forgotten", y.bump(0), 1);
    }
}
