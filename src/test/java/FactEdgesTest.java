/** The edges of promises 6 to 13: what there is, what is changed. */
public final class FactEdgesTest {
    private static final Checks C = new Checks();
    private static final int BAD = OmenLine.BAD, STATE = OmenLine.STATE;
    private static final String FOUR_TRAINS = "plain up 0 1;sceptic down 2 3;devout up 4 5;heathen down 9 9;";
    private static final int[] MOST = {3, 1, 9, 9};

    public static void main(String[] args) {
        ruleOfNothingAndAll();
        ruleBeyond();
        blockOfEachLength();
        blockLockedWith();
        blockBeyond();
        lockEnds();
        lockBeyond();
        trainFacts();
        trainBeyond();
        waitsOfAll();
        waitsBeyond();
        hangEachOmen();
        hangKeptByALock();
        hangNothingIsNeverKept();
        hangInPlaceOfAnother();
        hangBeyond();
        guardTurns();
        guardBeyond();
        setEachValue();
        setBeyond();
        C.finish();
    }

    private static void ruleOfNothingAndAll() {
        C.of("6 BLOCKS, TRAINS, LOCKS, BLOCKS that are GUARDED (bits), with an OMEN (bits)");
        OmenLine x = Checks.line("blocks 2;");
        int[] least = {2, 0, 0, 0, 0};
        for (int what = 0; what < 5; what++) {
            C.due("rule(" + what + ")", x.rule(what), least[what]);
        }
        OmenLine y = Checks.line("blocks 8;" + FOUR_TRAINS + "lock 0 1;lock 0 1;lock 0 1;lock 0 1;");
        for (int b = 0; b < 8; b++) {
            C.due("guarded", y.rule(3), (1 << b) - 1);
            y.guard(b, true);
        }
        for (int b = 1; b < 8; b++) {
            C.due("omens", y.rule(4), (1 << b) - 2);
            y.hang(b, 1 + b % 4);
        }
        int[] most = {8, 4, 4, 255, 254};
        for (int what = 0; what < 5; what++) {
            C.due("rule(" + what + ")", y.rule(what), most[what]);
        }
        OmenLine z = Checks.line("blocks 8;");
        for (int b = 0; b < 8; b++) {
            z.hang(b, 4);
        }
        C.due("omens in all", z.rule(4), 255);
    }

    private static void ruleBeyond() {
        C.of("6 BAD");
        OmenLine x = Checks.line("blocks 8;" + FOUR_TRAINS);
        C.beyond("rule", 0, 4, BAD, x::rule);
    }

    private static void blockOfEachLength() {
        C.of("7 Of a BLOCK: OMEN, whether it is GUARDED (1, 0)");
        for (int n = 2; n <= 8; n++) {
            OmenLine x = Checks.line("blocks " + n + ";hearse " + (n - 1) + ";guard " + (n - 1) + ";");
            for (int b = 0; b < n; b++) {
                C.due("omen", x.block(b, 0), b == n - 1 ? 4 : 0);
                C.due("guarded", x.block(b, 1), b == n - 1 ? 1 : 0);
                C.due("locked with", x.block(b, 2), 0);
            }
            for (int what = 0; what < 3; what++) {
                int asked = what;
                C.beyond("block of " + n, 0, n - 1, BAD, b -> x.block(b, asked));
            }
        }
    }

    private static void blockLockedWith() {
        C.of("7 BLOCKS that are locked with it (bits)");
        OmenLine x = Checks.line("blocks 8;lock 0 1;lock 2 0;lock 0 7;lock 6 0;");
        int[] star = {2 + 4 + 128 + 64, 1, 1, 0, 0, 0, 1, 1};
        for (int b = 0; b < 8; b++) {
            C.due("with all", x.block(b, 2), star[b]);
        }
        OmenLine y = Checks.line("blocks 8;lock 0 1;lock 2 3;lock 4 5;lock 6 7;");
        for (int b = 0; b < 8; b++) {
            C.due("with its own", y.block(b, 2), 1 << (b ^ 1));
        }
        OmenLine z = Checks.line("blocks 3;lock 0 1;lock 1 0;lock 0 1;lock 1 2;");
        C.due("the same once more", z.block(0, 2), 2);
        C.due("the same once more", z.block(1, 2), 5);
        C.due("the last", z.block(2, 2), 2);
    }

    private static void blockBeyond() {
        C.of("7 BAD");
        OmenLine x = Checks.line("blocks 8;cat 7;");
        C.beyond("block", 0, 2, BAD, what -> x.block(7, what));
        C.due("both", x.block(8, 3), BAD);
        Checks.tell(x, "blocks 2;");
        C.due("the last now", x.block(1, 0), 0);
        C.due("there was one", x.block(2, 0), BAD);
        C.due("there was one", x.block(7, 0), BAD);
    }

    private static void lockEnds() {
        C.of("8 Of a LOCK: its BLOCKS");
        OmenLine x = Checks.line("blocks 8;lock 0 7;lock 7 0;lock 3 4;lock 6 5;");
        int[] ends = {0, 7, 7, 0, 3, 4, 6, 5};
        for (int i = 0; i < 8; i++) {
            C.due("lock " + i, x.lock(i / 2, i % 2), ends[i]);
        }
    }

    private static void lockBeyond() {
        C.of("8 BAD");
        StringBuilder text = new StringBuilder("blocks 8;");
        for (int locks = 0; locks <= 4; locks++) {
            OmenLine x = Checks.line(text.toString());
            C.beyond("lock of " + locks, 0, locks - 1, BAD, l -> x.lock(l, 0));
            C.beyond("lock of " + locks, 0, locks - 1, BAD, l -> x.lock(l, 1));
            C.beyond("lock", 0, 1, BAD, what -> x.lock(0, what));
            text.append("lock 6 7;");
        }
        OmenLine y = Checks.line("lock 0 1;lock 2 3;");
        Checks.tell(y, "lock 1 2;");
        C.due("there was one", y.lock(1, 0), BAD);
    }

    private static void trainFacts() {
        C.of("9 Of a TRAIN: FAITH, WAY, START, WORTH");
        OmenLine x = Checks.line(FOUR_TRAINS);
        int[] facts = {0, 0, 0, 1, 1, 1, 2, 3, 2, 0, 4, 5, 3, 1, 9, 9};
        for (int i = 0; i < 16; i++) {
            C.due("train " + i, x.train(i / 4, i % 4), facts[i]);
        }
    }

    private static void trainBeyond() {
        C.of("9 BAD");
        StringBuilder text = new StringBuilder();
        for (int trains = 0; trains <= 4; trains++) {
            OmenLine x = Checks.line(text.toString());
            for (int what = 0; what < 4; what++) {
                int asked = what;
                C.beyond("train of " + trains, 0, trains - 1, BAD, t -> x.train(t, asked));
            }
            C.beyond("train", 0, 3, BAD, what -> x.train(0, what));
            text.append("plain up 9 9;");
        }
        OmenLine y = Checks.line(FOUR_TRAINS);
        Checks.tell(y, "plain up 0 0;");
        C.due("there was one", y.train(1, 0), BAD);
    }

    private static void waitsOfAll() {
        C.of("10 How long a FAITH WAITS for an OMEN");
        int[] plain = {0, 1, 0, 3, 5};
        OmenLine x = new OmenLine();
        for (int omen = 0; omen < 5; omen++) {
            C.due("plain", x.waits(0, omen), plain[omen]);
            C.due("sceptic: half as long as plain (down)", x.waits(1, omen), plain[omen] / 2);
            C.due("devout: 1 longer than plain, 0 for none", x.waits(2, omen), omen == 0 ? 0 : plain[omen] + 1);
        }
        C.due("heathen: 0 for a magpie", x.waits(3, 1), 0);
        C.due("heathen: 2 for a sweep", x.waits(3, 2), 2);
        for (int omen : new int[] {0, 3, 4}) {
            C.due("heathen: else as plain", x.waits(3, omen), plain[omen]);
        }
    }

    private static void waitsBeyond() {
        C.of("10 BAD");
        OmenLine x = new OmenLine();
        for (int omen = 0; omen < 5; omen++) {
            int asked = omen;
            C.beyond("waits", 0, 3, BAD, faith -> x.waits(faith, asked));
        }
        for (int faith = 0; faith < 4; faith++) {
            int asked = faith;
            C.beyond("waits", 0, 4, BAD, omen -> x.waits(asked, omen));
        }
    }

    private static void hangEachOmen() {
        C.of("11 The OMEN of a BLOCK becomes so: what it was");
        OmenLine x = Checks.line("blocks 8;");
        for (int b = 0; b < 8; b += 7) {
            int was = 0;
            for (int omen : new int[] {4, 3, 2, 1, 0, 1, 4, 4, 2, 0, 0}) {
                C.due("hang(" + b + ", " + omen + ")", x.hang(b, omen), was);
                C.due("it is", x.block(b, 0), omen);
                C.due("it alone", x.rule(4), omen == 0 ? 0 : 1 << b);
                was = omen;
            }
        }
    }

    private static void hangKeptByALock() {
        C.of("11 STATE: a LOCK keeps it");
        for (int omen = 1; omen <= 4; omen++) {
            OmenLine x = Checks.line("blocks 8;lock 0 1;lock 2 0;lock 3 4;lock 7 3;");
            C.due("the first", x.hang(0, omen), 0);
            for (int other = 1; other <= 4; other++) {
                C.due("kept", x.hang(1, other), STATE);
                C.due("kept", x.hang(2, other), STATE);
            }
            C.due("none there", x.block(1, 0) + x.block(2, 0), 0);
            C.due("of another LOCK", x.hang(7, omen), 0);
            C.due("kept", x.hang(3, omen), STATE);
            C.due("not with that one", x.hang(4, omen), 0);
            C.due("kept by two", x.hang(3, omen), STATE);
            C.due("still by one", x.hang(7, 0), omen);
            C.due("kept", x.hang(3, omen), STATE);
            C.due("free", x.hang(4, 0), omen);
            C.due("hung", x.hang(3, omen), 0);
            C.due("locked with nothing", x.hang(5, omen), 0);
            C.due("omens", x.rule(4), 1 + 8 + 32);
        }
    }

    private static void hangNothingIsNeverKept() {
        C.of("11 two BLOCKS of which one at least has no OMEN: none may be hung at any time");
        OmenLine x = Checks.line("blocks 2;lock 0 1;cat 1;");
        C.due("none by none", x.hang(0, 0), 0);
        C.due("an OMEN is taken away", x.hang(1, 0), 3);
        C.due("then the other may have one", x.hang(0, 2), 0);
        C.due("and this one not", x.hang(1, 2), STATE);
    }

    private static void hangInPlaceOfAnother() {
        C.of("11 one OMEN in place of another, in a BLOCK of a LOCK");
        OmenLine x = Checks.line("blocks 2;lock 0 1;cat 1;");
        for (int omen = 1; omen <= 4; omen++) {
            C.that("hung", x.hang(1, omen) > 0);
            C.due("it is", x.block(1, 0), omen);
        }
    }

    private static void hangBeyond() {
        C.of("11 BAD");
        for (int n = 2; n <= 8; n++) {
            OmenLine x = Checks.line("blocks " + n + ";sweep " + (n - 1) + ";");
            for (int omen : new int[] {0, 1, 4}) {
                C.beyond("hang", 0, n - 1, BAD, b -> x.hang(b, omen));
            }
            int last = n - 1;
            C.beyond("hang", 0, 4, BAD, omen -> x.hang(last, omen));
            C.due("nothing changed", x.block(last, 0), 2);
            C.due("nothing changed", x.rule(4), 1 << last);
        }
    }

    private static void guardTurns() {
        C.of("12 A BLOCK is GUARDED, or not: whether it was");
        OmenLine x = Checks.line("blocks 8;guard 3;");
        for (int b = 0; b < 8; b++) {
            int rest = b == 3 ? 0 : 8;
            C.due("was", x.guard(b, true), b == 3 ? 1 : 0);
            C.due("bits", x.rule(3), rest | 1 << b);
            C.due("was", x.guard(b, true), 1);
            C.due("is", x.block(b, 1), 1);
            C.due("was", x.guard(b, false), 1);
            C.due("was", x.guard(b, false), 0);
            C.due("bits", x.rule(3), rest);
            x.guard(3, true);
        }
    }

    private static void guardBeyond() {
        C.of("12 BAD");
        for (int n = 2; n <= 8; n++) {
            OmenLine x = Checks.line("blocks " + n + ";guard 0;");
            C.beyond("guard", 0, n - 1, BAD, b -> x.guard(b, true));
            C.beyond("guard", 0, n - 1, BAD, b -> x.guard(b, false));
            C.due("nothing changed", x.rule(3), 1);
            C.due("the last", x.guard(n - 1, true), 0);
        }
    }

    private static void setEachValue() {
        C.of("13 FAITH, WAY, START, WORTH of a TRAIN becomes v: what it was");
        for (int t = 0; t < 4; t++) {
            for (int what = 0; what < 4; what++) {
                OmenLine x = Checks.line(FOUR_TRAINS);
                int was = x.train(t, what);
                for (int v = 0; v <= MOST[what]; v++) {
                    C.due("set", x.set(t, what, v), was);
                    C.due("it is", x.train(t, what), v);
                    was = v;
                }
                C.due("as it is", x.set(t, what, was), was);
                OmenLine y = Checks.line(FOUR_TRAINS);
                for (int i = 0; i < 16; i++) {
                    if (i != 4 * t + what) {
                        C.due("no other", x.train(i / 4, i % 4), y.train(i / 4, i % 4));
                    }
                }
            }
        }
    }

    private static void setBeyond() {
        C.of("13 BAD");
        OmenLine x = Checks.line("heathen down 9 9;devout up 8 7;");
        int[] facts = {3, 1, 9, 9, 2, 0, 8, 7};
        for (int what = 0; what < 4; what++) {
            int asked = what;
            C.beyond("set", 0, MOST[what], BAD, v -> x.set(1, asked, v));
            C.beyond("set", 0, 1, BAD, t -> x.set(t, asked, 0));
        }
        C.beyond("set", 0, 3, BAD, what -> x.set(1, what, 0));
        for (int i = 0; i < 8; i++) {
            C.due("nothing changed", x.train(i / 4, i % 4), facts[i]);
        }
        C.due("no train at all", new OmenLine().set(0, 0, 0), BAD);
    }
}
