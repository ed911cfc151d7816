/** The edges of section 1: each FAULT of a text, the first value that has it and the last that has not. */
public final class FaultEdgesTest {
    private static final Checks C = new Checks();
    private static final String[] OMENS = {"magpie", "sweep", "cat", "hearse"};
    private static final String[] FAITHS = {"plain", "sceptic", "devout", "heathen"};
    /** One line of each kind, a blank between its TOKENS. */
    static final String[] LINES = {"blocks 5 ;", "magpie 1 ;", "sweep 0 ;", "cat 3 ;", "hearse 2 ;", "guard 1 ;",
        "lock 0 1 ;", "plain up 0 1 ;", "sceptic down 9 9 ;", "devout up 1 0 ;", "heathen down 0 0 ;"};
    private static final String FOUR_LOCKS = "lock 0 1;lock 1 0;lock 2 3;lock 3 1;";
    private static final String FOUR_TRAINS = "plain up 0 0;sceptic down 0 0;devout up 0 0;heathen down 0 0;";

    public static void main(String[] args) {
        noToken();
        tooLongANumber();
        namesThatBeginNoLine();
        tokensThatCanNotStandThere();
        theEnd();
        numbersOfBlocks();
        numbersOfABlock();
        numbersOfALock();
        numbersOfATrain();
        lockAlike();
        blocksTwice();
        omenTwice();
        guardTwice();
        fifthLock();
        fifthTrain();
        blockThatThereIsNot();
        bothBlocksOfALock();
        theFirstMet();
        C.finish();
    }

    /** Where the p-th TOKEN of a line with single blanks begins. */
    private static int placeOf(String line, int p) {
        int place = 0;
        for (int i = 0; i < p; i++) {
            place = line.indexOf(' ', place) + 1;
        }
        return place;
    }

    private static void noToken() {
        C.of("FAULT 1 no TOKEN");
        for (String line : LINES) {
            for (int p = 0; p < line.split(" ").length; p++) {
                int place = placeOf(line, p);
                for (String sign : new String[] {"@", "A", "Z", "-", ".", ",", "_", "\t"}) {
                    C.refused(line.substring(0, place) + sign, 1, place);
                    C.refused(line.substring(0, place) + sign + line.substring(place), 1, place);
                }
            }
        }
    }

    private static void tooLongANumber() {
        C.of("FAULT 1 a NUMBER that is too long (its first byte)");
        for (String line : LINES) {
            for (int p = 0; p < line.split(" ").length; p++) {
                int place = placeOf(line, p);
                for (String number : new String[] {"000", "001", "100", "999", "0000000001"}) {
                    C.refused(line.substring(0, place) + number, 1, place);
                    C.refused(line.substring(0, place) + number + " " + line.substring(place), 1, place);
                }
            }
        }
        C.taken("blocks 08;", 1);
        C.refused("blocks 008;", 1, 7);
    }

    private static void namesThatBeginNoLine() {
        C.of("FAULT 2 a NAME that begins no line");
        for (String line : LINES) {
            String name = line.substring(0, line.indexOf(' '));
            String rest = line.substring(name.length());
            C.refused(name.substring(1) + rest, 2, 0);
            C.refused(name.substring(0, name.length() - 1) + rest, 2, 0);
            C.refused(name + "s" + rest, 2, 0);
            C.refused("a" + name + rest, 2, 0);
            C.refused("cat 1;" + name + "s" + rest, 2, 6);
            for (int i = 0; i < name.length(); i++) {
                C.refused(name.substring(0, i) + "x" + name.substring(i + 1) + rest, 2, 0);
            }
        }
        C.refused("up 0 0;", 2, 0);
        C.refused("down 0 0;", 2, 0);
        C.refused("omen 0;", 2, 0);
        C.refused("none 0;", 2, 0);
    }

    private static void tokensThatCanNotStandThere() {
        C.of("FAULT 2 a TOKEN that can not stand there");
        String[] others = {"x", "cat", "blocks", "plain", "upp", "dow", "own", "3", "12", ";"};
        for (String line : LINES) {
            String[] tokens = line.split(" ");
            for (int p = 0; p < tokens.length; p++) {
                int place = placeOf(line, p);
                for (String other : others) {
                    if (!isAlike(tokens[p], other)) {
                        C.refused(line.substring(0, place) + other + " " + line.substring(place), 2, place);
                    }
                }
            }
        }
    }

    /** Whether one could stand in place of the other: both NUMBERS, both ; or both begin a line. */
    private static boolean isAlike(String one, String other) {
        if (Character.isDigit(one.charAt(0))) {
            return Character.isDigit(other.charAt(0));
        }
        if (one.equals(";") || one.equals("up") || one.equals("down")) {
            return other.equals(one);
        }
        return other.equals("cat") || other.equals("blocks") || other.equals("plain");
    }

    private static void theEnd() {
        C.of("FAULT 2 or the end: the length");
        for (String line : LINES) {
            for (int p = 1; p < line.split(" ").length; p++) {
                String cut = line.substring(0, placeOf(line, p));
                C.refused(cut, 2, cut.length());
                C.refused(cut.trim(), 2, cut.length() - 1);
                C.refused("guard 0;" + cut + "  ", 2, cut.length() + 10);
            }
        }
    }

    /** All NUMBERS from 0 to 99 in one place of a line, also with a 0 ahead. */
    private static void numbers(String ahead, int least, int most, String behind) {
        for (int v = 0; v <= 99; v++) {
            for (String number : new String[] {"" + v, v < 10 ? "0" + v : "" + v}) {
                String text = ahead + number + behind;
                if (v >= least && v <= most) {
                    C.taken(text, text.split(";").length);
                } else {
                    C.refused(text, 3, ahead.length());
                }
            }
        }
    }

    private static void numbersOfBlocks() {
        C.of("FAULT 3 BLOCKS (2 to 8)");
        numbers("blocks ", 2, 8, ";");
        for (int n = 2; n <= 8; n++) {
            OmenLine x = Checks.line("blocks " + n + ";");
            C.due("blocks", x.rule(0), n);
            C.due("the last", x.block(n - 1, 0), 0);
            C.due("behind the last", x.block(n, 0), OmenLine.BAD);
        }
    }

    private static void numbersOfABlock() {
        C.of("FAULT 3 a BLOCK (0 to 7)");
        for (String omen : OMENS) {
            numbers("blocks 8;" + omen + " ", 0, 7, ";");
        }
        numbers("blocks 8;guard ", 0, 7, ";");
        for (int b = 0; b < 8; b++) {
            for (int o = 0; o < 4; o++) {
                C.due("omen", Checks.line("blocks 8;" + OMENS[o] + " " + b + ";").block(b, 0), o + 1);
            }
            C.due("guard", Checks.line("blocks 8;guard " + b + ";").rule(3), 1 << b);
        }
    }

    private static void numbersOfALock() {
        C.of("FAULT 3 lock: two BLOCKS (0 to 7)");
        for (int v = 0; v <= 99; v++) {
            String text = "blocks 8;lock " + v + " " + (v + 1) % 8 + ";";
            if (v <= 7) {
                C.taken(text, 2);
            } else {
                C.refused(text, 3, 14);
            }
        }
        numbers("blocks 8;lock 0 ", 1, 7, ";");
        numbers("blocks 8;lock 7 ", 0, 6, ";");
    }

    private static void numbersOfATrain() {
        C.of("FAULT 3 START (0 to 9), WORTH (0 to 9)");
        for (String faith : FAITHS) {
            numbers(faith + " up ", 0, 9, " 0;");
            numbers(faith + " down 9 ", 0, 9, ";");
        }
        for (int v = 0; v <= 9; v++) {
            OmenLine x = Checks.line("plain up " + v + " 0;plain up 0 " + v + ";");
            C.due("START", x.train(0, 2), v);
            C.due("WORTH", x.train(0, 3), 0);
            C.due("START", x.train(1, 2), 0);
            C.due("WORTH", x.train(1, 3), v);
        }
    }

    private static void lockAlike() {
        C.of("FAULT 3 (lock: alike with the first one)");
        for (int b = 0; b < 8; b++) {
            C.refused("blocks 8;lock " + b + " " + b + ";", 3, 16);
            C.refused("blocks 8;lock " + b + " 0" + b + ";", 3, 16);
            C.taken("blocks 8;lock " + b + " " + (b + 1) % 8 + ";", 2);
        }
        C.refused("lock 9 9;", 3, 5);
    }

    private static void blocksTwice() {
        C.of("FAULT 4 blocks for the second time (its NAME)");
        C.refused("blocks 5;blocks 5;", 4, 9);
        C.refused("blocks 5;blocks 6;", 4, 9);
        C.refused("blocks 5;  blocks", 4, 11);
        C.refused("blocks 5;blocks 999;", 4, 9);
        C.refused("blocks 5;cat 1;guard 1;blocks", 4, 23);
        C.refused("blocks 4;blocks 4;", 4, 9);
        C.taken("cat 1;blocks 5;guard 1;", 3);
    }

    private static void omenTwice() {
        C.of("FAULT 4 a BLOCK whose OMEN is told already (it)");
        for (String one : OMENS) {
            for (String other : OMENS) {
                String ahead = one + " 7;" + other + " ";
                C.refused(ahead + "7;", 4, ahead.length());
                C.refused(ahead + " 07", 4, ahead.length() + 1);
                C.taken(ahead + "6;blocks 8;", 3);
            }
        }
        C.taken("cat 1;guard 1;", 2);
        C.taken("guard 1;cat 1;", 2);
        C.refused("cat 0;guard 0;sweep 0;", 4, 20);
    }

    private static void guardTwice() {
        C.of("FAULT 4 a BLOCK that is told GUARDED already (it)");
        for (int b = 0; b < 8; b++) {
            C.refused("guard " + b + ";guard " + b + ";", 4, 14);
            C.refused("guard " + b + ";cat 1;guard 0" + b, 4, 20);
        }
        C.taken("guard 0;guard 1;guard 2;guard 3;", 4);
    }

    private static void fifthLock() {
        C.of("FAULT 5 the 5th lock (its NAME)");
        C.taken(FOUR_LOCKS, 4);
        C.taken(FOUR_LOCKS + "cat 0;", 5);
        for (String behind : new String[] {"lock", "lock 0 1;", "lock @", "lock 9", "lock lock"}) {
            C.refused(FOUR_LOCKS + behind, 5, 36);
            C.refused(FOUR_LOCKS + "cat 0; " + behind, 5, 43);
        }
        C.refused("lock 0 1;lock 0 1;lock 0 1;lock 0 1;lock 0 1;", 5, 36);
        C.refused(FOUR_LOCKS + "locks", 2, 36);
    }

    private static void fifthTrain() {
        C.of("FAULT 5 the 5th TRAIN (its NAME)");
        C.taken(FOUR_TRAINS, 4);
        C.taken(FOUR_TRAINS + FOUR_LOCKS, 8);
        for (String faith : FAITHS) {
            for (String behind : new String[] {"", " up 0 0;", " @", " cat"}) {
                C.refused(FOUR_TRAINS + faith + behind, 5, FOUR_TRAINS.length());
            }
            C.refused(FOUR_TRAINS + "cat 0; " + faith, 5, FOUR_TRAINS.length() + 7);
        }
        C.refused(FOUR_TRAINS + "up", 2, FOUR_TRAINS.length());
    }

    private static void blockThatThereIsNot() {
        C.of("FAULT 6 a BLOCK that there is not: behind all (the length)");
        for (int n = 2; n <= 8; n++) {
            for (String line : new String[] {"cat N;", "guard N;", "lock N 0;", "lock 0 N;"}) {
                String last = line.replace("N", "" + (n - 1));
                C.taken("blocks " + n + ";" + last, 2);
                C.taken(last + "blocks " + n + ";", 2);
                if (n < 8) {
                    String more = "blocks " + n + ";" + line.replace("N", "" + n);
                    C.refused(more, 6, more.length());
                    C.refused(line.replace("N", "7") + "blocks " + n + ";  ", 6, more.length() + 2);
                }
            }
        }
        for (String line : new String[] {"cat N;", "guard N;", "lock N 0;", "lock 0 N;"}) {
            C.taken(line.replace('N', '3'), 1);
            C.refused(line.replace('N', '4'), 6, line.length());
        }
        C.refused("lock 0 1;lock 1 2;lock 2 3;lock 3 4;", 6, 36);
        C.refused("lock 4 3;lock 1 2;lock 2 3;lock 3 0;", 6, 36);
    }

    private static void bothBlocksOfALock() {
        C.of("FAULT 7 OMENS in both BLOCKS of a LOCK: behind all (the length)");
        for (String one : OMENS) {
            for (String other : OMENS) {
                String omens = one + " 2;" + other + " 0;";
                C.taken(omens, 2);
                C.taken(omens + "lock 0 1;lock 1 2;lock 2 3;", 5);
                C.refused(omens + "lock 0 2;", 7, omens.length() + 9);
                C.refused("lock 2 0;" + omens + " ", 7, omens.length() + 10);
            }
        }
        String ends = "blocks 8;cat 0;cat 7;";
        C.refused(ends + "lock 0 1;lock 1 2;lock 3 7;lock 7 0;", 7, ends.length() + 36);
        C.refused(ends + "lock 0 7;lock 1 2;lock 3 7;lock 4 5;", 7, ends.length() + 36);
        C.taken(ends + "lock 0 6;lock 1 2;lock 3 7;lock 4 5;", 7);
        C.taken("lock 0 1;guard 0;guard 1;", 3);
    }

    private static void theFirstMet() {
        C.of("FAULTS, the first met as it is read");
        C.refused("cat 7;cat 7;", 4, 10);
        C.refused("cat 7;lock 0 0;", 3, 13);
        C.refused("cat 0;cat 1;lock 0 1;@", 1, 21);
        C.refused("cat 0;cat 1;lock 0 1;up", 2, 21);
        C.refused("cat 0;cat 1;lock 0 1;guard 7;", 6, 29);
        C.refused("guard 7;cat 0;cat 1;lock 0 1;", 6, 29);
        C.refused("cat 0;cat 7;lock 0 7;", 6, 21);
        C.refused("blocks 9;blocks 9;", 3, 7);
        C.refused("blocks 5;blocks 9;@", 4, 9);
        C.refused(FOUR_LOCKS + FOUR_TRAINS + "lock 9 9;plain", 5, FOUR_LOCKS.length() + FOUR_TRAINS.length());
        C.refused(FOUR_LOCKS + FOUR_TRAINS + "plain;lock", 5, FOUR_LOCKS.length() + FOUR_TRAINS.length());
    }
}
