import java.util.Arrays;

/** A branch line whose signals are omens. The document of the project says what each call answers. */
public final class OmenLine {
    public static final int BAD = -1, STATE = -2, FULL = -3, NONE = -4;

    private static final int FIRST_BLOCKS = 4;
    private static final int MOST_BLOCKS = 8;
    private static final int MOST_LOCKS = 4;
    private static final int MOST_TRAINS = 4;
    private static final int MOST_SEEN = 6;
    private static final int MOST_CELLS = 40;
    private static final int MOST_PAIRS = 20;
    private static final int MOST_DRIFTS = 20;
    private static final int IMAGES = 2;
    private static final int SHEETS = 4;
    private static final int LANES = 3;
    private static final int TAPE_BYTES = 160;
    private static final int MINUTES = 120;

    private static final int OMENS = 5;
    private static final int MAGPIE = 1;
    private static final int FAITHS = 4;
    private static final int BEST_STARTS = 4;
    private static final int TEN = 10;

    /** What is told of a TRAIN, by the numbers of the document. */
    private static final int FAITH = 0, WAY = 1, START = 2, WORTH = 3;
    private static final int TRAIN_FACTS = 4;
    /** How many values each of these four may have, from 0 on. */
    private static final int[] FACT_VALUES = {4, 2, 10, 10};
    /** Rows of FAITHS, in each the minutes for no OMEN, magpie, sweep, cat, hearse. */
    private static final int[] WAIT_MINUTES = {
        0, 1, 0, 3, 5,
        0, 0, 0, 1, 2,
        0, 2, 1, 4, 6,
        0, 0, 2, 3, 5};

    /** What the machine finds in a SHEET. */
    private static final int NO_FAULT = 0, NULL = 1, INDEX = 2, CAST = 3, SIZE = 4;
    /** From these on down, answers tell a FAULT or its place, or which pair was refused. */
    private static final int FAULT_BASE = -10, PAIR_BASE = -20;

    private final Line line = new Line();
    private final Line trial = new Line();
    private final Tape tape = new Tape();
    private final Run run = new Run();
    private final Tries tries = new Tries(trial, run);
    private final Odds odds = new Odds(trial, run);
    private final Sightings sightings = new Sightings(trial, run);
    private final Line[] images = new Line[IMAGES];
    private final boolean[] hasImage = new boolean[IMAGES];
    private final Sheet[] sheets = new Sheet[SHEETS];
    private int textFault;
    private int readFault;

    public OmenLine() {
        for (int k = 0; k < IMAGES; k++) {
            images[k] = new Line();
        }
        for (int k = 0; k < SHEETS; k++) {
            sheets[k] = new Sheet();
        }
    }

    // ---- the text, what there is

    public int feed(int c) {
        if (c < 0 || c > 127) {
            return BAD;
        }
        return tape.append(c) ? tape.size : FULL;
    }

    public int end(int n) {
        int had = tape.size;
        if (n < 0 || n > had) {
            return BAD;
        }
        tape.size = n;
        return had;
    }

    public int text() {
        int lines = tape.parse(trial);
        tape.size = 0;
        textFault = tape.fault;
        if (textFault != NO_FAULT) {
            return FAULT_BASE - tape.faultPlace;
        }
        line.copyFrom(trial);
        sightings.size = 0;
        hasImage[0] = false;
        hasImage[1] = false;
        return lines;
    }

    public int fault() {
        return textFault;
    }

    public int rule(int what) {
        switch (what) {
            case 0: return line.blocks;
            case 1: return line.trains;
            case 2: return line.locks;
            case 3: return line.guarded;
            case 4: return line.omenBits();
            default: return BAD;
        }
    }

    public int block(int b, int what) {
        if (!line.isBlock(b)) {
            return BAD;
        }
        switch (what) {
            case 0: return line.omens[b];
            case 1: return line.isGuarded(b) ? 1 : 0;
            case 2: return line.lockedWith(b);
            default: return BAD;
        }
    }

    public int lock(int l, int what) {
        if (l < 0 || l >= line.locks || what < 0 || what > 1) {
            return BAD;
        }
        return line.lockEnds[2 * l + what];
    }

    public int train(int t, int what) {
        if (!line.isTrain(t) || !isFact(what)) {
            return BAD;
        }
        return line.fact(t, what);
    }

    public int waits(int faith, int omen) {
        if (!isFaith(faith) || !isOmen(omen)) {
            return BAD;
        }
        return minutesFor(faith, omen);
    }

    // ---- what is changed

    public int hang(int b, int omen) {
        return line.tryToHang(b, omen);
    }

    public int guard(int b, boolean is) {
        if (!line.isBlock(b)) {
            return BAD;
        }
        int was = line.isGuarded(b) ? 1 : 0;
        line.guarded = is ? line.guarded | 1 << b : line.guarded & ~(1 << b);
        return was;
    }

    public int set(int t, int what, int v) {
        if (!line.isTrain(t) || !isFact(what) || v < 0 || v >= FACT_VALUES[what]) {
            return BAD;
        }
        int was = line.fact(t, what);
        line.putFact(t, what, v);
        return was;
    }

    // ---- a run

    public int home(int t) {
        if (!line.isTrain(t)) {
            return BAD;
        }
        run.play(line);
        return run.homeMinutes[t];
    }

    public int at(int t, int m) {
        if (!line.isTrain(t) || !isMinute(m)) {
            return BAD;
        }
        run.play(line);
        return run.spotBehind(t, m);
    }

    public int bump(int what) {
        if (what < 0 || what > 2) {
            return BAD;
        }
        run.play(line);
        if (run.bumpMinute == NONE) {
            return NONE;
        }
        if (what == 0) {
            return run.bumpMinute;
        }
        return what == 1 ? run.bumpBlock : run.bumpTrains;
    }

    public int sum(int what) {
        if (what < 0 || what > 4) {
            return BAD;
        }
        run.play(line);
        switch (what) {
            case 0: return run.cost;
            case 1: return run.homeCount;
            case 2: return run.waited;
            case 3: return run.keptOut;
            default: return run.entered;
        }
    }

    // ---- what is best

    public int fewest(int what) {
        if (!isZeroOrOne(what)) {
            return BAD;
        }
        return sizeOrSet(tries.fewestGuards(line), what);
    }

    public int guards(int what) {
        if (!isZeroOrOne(what)) {
            return BAD;
        }
        int set = tries.cheapestGuards(line);
        return what == 0 ? tries.bestCost : set;
    }

    public int magpies(int what) {
        if (!isZeroOrOne(what)) {
            return BAD;
        }
        return sizeOrSet(tries.fewestMagpies(line), what);
    }

    public int starts(int what) {
        if (what != 0 && !line.isTrain(what - TEN)) {
            return BAD;
        }
        int code = tries.cheapestStarts(line);
        if (code == NONE || what == 0) {
            return tries.bestCost;
        }
        return startIn(code, what - TEN, line.trains);
    }

    public int allowed(int what) {
        if (!isZeroOrOne(what)) {
            return BAD;
        }
        int sets = 0;
        int greatest = 0;
        for (int set = 0; set < 1 << line.blocks; set++) {
            if (line.allowsOmensIn(set)) {
                sets++;
                greatest = Math.max(greatest, Integer.bitCount(set));
            }
        }
        return what == 0 ? sets : greatest;
    }

    public int convert(int what) {
        if (!isZeroOrOne(what)) {
            return BAD;
        }
        int convertOf = tries.cheapestConvert(line);
        return what == 0 ? convertOf : tries.bestCost;
    }

    // ---- magpies by odds

    public long mean(int v, int what) {
        if (v < 0 || v > TEN || !isZeroOrOne(what)) {
            return BAD;
        }
        odds.weigh(line, v);
        return partOfFraction(odds.costs, odds.all, what);
    }

    public long luck(int v, int what) {
        if (v < 0 || v > TEN || !isZeroOrOne(what)) {
            return BAD;
        }
        odds.weigh(line, v);
        return partOfFraction(odds.safe, odds.all, what);
    }

    // ---- of which faith

    public int see(int t, int m, int b) {
        if (!line.isTrain(t) || !isMinute(m) || b != NONE && !line.isBlock(b)) {
            return BAD;
        }
        return sightings.append(t, m, b) ? sightings.size : FULL;
    }

    public int forget(int n) {
        int had = sightings.size;
        if (n < 0 || n > had) {
            return BAD;
        }
        sightings.size = n;
        return had;
    }

    public int fits(int t) {
        if (!line.isTrain(t)) {
            return BAD;
        }
        return sightings.fittingFaiths(line, t);
    }

    public int look(int t, int what) {
        if (!line.isTrain(t) || !isZeroOrOne(what)) {
            return BAD;
        }
        int minute = sightings.bestMinute(sightings.fittingFaiths(line, t));
        return what == 0 ? minute : sightings.leftAtWorst;
    }

    // ---- by a seed

    public int drift(int seed, int n, int what) {
        if (n < 1 || n > MOST_DRIFTS || !isZeroOrOne(what)) {
            return BAD;
        }
        trial.copyFrom(line);
        int bumps = 0;
        int costs = 0;
        int now = seed;
        for (int i = 0; i < n; i++) {
            now = nextSeed(now);
            int b = drawn(now, line.blocks);
            now = nextSeed(now);
            trial.tryToHang(b, drawn(now, OMENS));
            run.play(trial);
            bumps += run.bumpMinute == NONE ? 0 : 1;
            costs += run.cost;
        }
        return what == 0 ? bumps : costs;
    }

    // ---- images, sheets

    public int keep(int k) {
        if (k < 0 || k >= IMAGES) {
            return BAD;
        }
        int was = hasImage[k] ? 1 : 0;
        images[k].copyFrom(line);
        hasImage[k] = true;
        return was;
    }

    public int back(int k) {
        if (k < 0 || k >= IMAGES) {
            return BAD;
        }
        if (!hasImage[k]) {
            return STATE;
        }
        // An IMAGE never outlives a text, so its BLOCKS and LOCKS are those of now.
        line.copyFrom(images[k]);
        return Integer.bitCount(line.omenBits());
    }

    public int sheet(int k, int lane, int n) {
        if (!isSheet(k) || !isLane(lane) || n > MOST_CELLS) {
            return BAD;
        }
        if (n < 0) {
            return FAULT_BASE - SIZE;
        }
        sheets[k].renew(lane, n);
        return 1;
    }

    public int lay(int k, int i, int v) {
        if (!isSheet(k)) {
            return BAD;
        }
        int found = sheets[k].faultAt(sheets[k].lane, i);
        if (found != NO_FAULT) {
            return FAULT_BASE - found;
        }
        sheets[k].put(i, v);
        return 1;
    }

    public int read(int k, int lane, int f, int n) {
        if (!isSheet(k) || !isLane(lane) || n < 0 || n > MOST_PAIRS) {
            return BAD;
        }
        Sheet from = sheets[k];
        trial.copyFrom(line);
        int found = NO_FAULT;
        int hung = 0;
        for (int i = 0; i < n && found == NO_FAULT; i++) {
            int cell = f + 2 * i;
            found = from.faultOfPair(lane, cell);
            if (found == NO_FAULT) {
                if (trial.tryToHang(from.cells[cell], from.cells[cell + 1]) < 0) {
                    return PAIR_BASE - i;
                }
                hung++;
            }
        }
        line.copyFrom(trial);
        readFault = found;
        return hung;
    }

    public int torn() {
        return readFault;
    }

    public int count(int what) {
        switch (what) {
            case 0: return sightings.size;
            case 1: return (hasImage[0] ? 1 : 0) + (hasImage[1] ? 1 : 0);
            case 2: return tape.size;
            case 3: return sheets[0].isNothing() ? NONE : sheets[0].size;
            case 4: return Integer.bitCount(line.omenBits());
            case 5: return line.allWorths();
            default: return BAD;
        }
    }

    // ---- numbers that are as told

    private static boolean isZeroOrOne(int what) {
        return what == 0 || what == 1;
    }

    private static boolean isFact(int what) {
        return what >= 0 && what < TRAIN_FACTS;
    }

    private static boolean isFaith(int faith) {
        return faith >= 0 && faith < FAITHS;
    }

    private static boolean isOmen(int omen) {
        return omen >= 0 && omen < OMENS;
    }

    private static boolean isMinute(int m) {
        return m >= 0 && m < MINUTES;
    }

    private static boolean isSheet(int k) {
        return k >= 0 && k < SHEETS;
    }

    private static boolean isLane(int lane) {
        return lane >= 0 && lane < LANES;
    }

    // ---- small sums

    private static int minutesFor(int faith, int omen) {
        return WAIT_MINUTES[faith * OMENS + omen];
    }

    private static int sizeOrSet(int set, int what) {
        if (set == NONE) {
            return NONE;
        }
        return what == 0 ? Integer.bitCount(set) : set;
    }

    /** Two bits for each START, those of the first TRAIN highest: so codes go up as the document orders. */
    private static int startIn(int code, int t, int trains) {
        return code >> 2 * (trains - 1 - t) & BEST_STARTS - 1;
    }

    private static int nextSeed(int seed) {
        return seed * 1103515245 + 12345;
    }

    private static int drawn(int seed, int n) {
        return n > 0 ? (seed >>> 16 & 32767) % n : 0;
    }

    private static long partOfFraction(long above, long below, int what) {
        long common = commonDivisor(above, below);
        if (common <= 0) {
            return what;
        }
        return what == 0 ? above / common : below / common;
    }

    private static long commonDivisor(long a, long b) {
        long greater = a;
        long less = b;
        // Euclid's steps on two longs are fewer than a hundred.
        for (int i = 0; i < 200 && less != 0; i++) {
            long rest = greater % less;
            greater = less;
            less = rest;
        }
        return greater;
    }

    /** BLOCKS, OMENS, guards, LOCKS, TRAINS: all that a text tells and a RUN needs. */
    private static final class Line {
        int blocks = FIRST_BLOCKS;
        int guarded;
        int locks;
        int trains;
        final int[] omens = new int[MOST_BLOCKS];
        final int[] lockEnds = new int[2 * MOST_LOCKS];
        final int[] facts = new int[TRAIN_FACTS * MOST_TRAINS];

        void clear() {
            blocks = FIRST_BLOCKS;
            guarded = 0;
            locks = 0;
            trains = 0;
            Arrays.fill(omens, 0);
        }

        void copyFrom(Line other) {
            blocks = other.blocks;
            guarded = other.guarded;
            locks = other.locks;
            trains = other.trains;
            System.arraycopy(other.omens, 0, omens, 0, MOST_BLOCKS);
            System.arraycopy(other.lockEnds, 0, lockEnds, 0, 2 * MOST_LOCKS);
            System.arraycopy(other.facts, 0, facts, 0, TRAIN_FACTS * MOST_TRAINS);
        }

        boolean isBlock(int b) {
            return b >= 0 && b < blocks;
        }

        boolean isTrain(int t) {
            return t >= 0 && t < trains;
        }

        boolean isGuarded(int b) {
            return (guarded >> b & 1) != 0;
        }

        int fact(int t, int what) {
            return facts[TRAIN_FACTS * t + what];
        }

        void putFact(int t, int what, int v) {
            facts[TRAIN_FACTS * t + what] = v;
        }

        /** Of all places for an OMEN: while a text is read, BLOCKS may still be told. */
        int omenBits() {
            int bits = 0;
            for (int b = 0; b < MOST_BLOCKS; b++) {
                if (omens[b] != 0) {
                    bits |= 1 << b;
                }
            }
            return bits;
        }

        int lockBits() {
            int bits = 0;
            for (int i = 0; i < 2 * locks; i++) {
                bits |= 1 << lockEnds[i];
            }
            return bits;
        }

        int lockedWith(int b) {
            int bits = 0;
            for (int l = 0; l < locks; l++) {
                if (lockEnds[2 * l] == b) {
                    bits |= 1 << lockEnds[2 * l + 1];
                } else if (lockEnds[2 * l + 1] == b) {
                    bits |= 1 << lockEnds[2 * l];
                }
            }
            return bits;
        }

        boolean allowsOmensIn(int set) {
            for (int l = 0; l < locks; l++) {
                int both = 1 << lockEnds[2 * l] | 1 << lockEnds[2 * l + 1];
                if ((set & both) == both) {
                    return false;
                }
            }
            return true;
        }

        int tryToHang(int b, int omen) {
            if (!isBlock(b) || !isOmen(omen)) {
                return BAD;
            }
            if (omen != 0 && (lockedWith(b) & omenBits()) != 0) {
                return STATE;
            }
            int was = omens[b];
            omens[b] = omen;
            return was;
        }

        void hangMagpiesIn(int set) {
            for (int b = 0; b < blocks; b++) {
                if ((set >> b & 1) != 0) {
                    omens[b] = MAGPIE;
                }
            }
        }

        int allWorths() {
            int worths = 0;
            for (int t = 0; t < trains; t++) {
                worths += fact(t, WORTH);
            }
            return worths;
        }

        int lastBlockOf(int t) {
            return fact(t, WAY) == 0 ? blocks - 1 : 0;
        }

        int nextBlockOf(int t, int spot) {
            if (fact(t, WAY) == 0) {
                return spot == NONE ? 0 : spot + 1;
            }
            return spot == NONE ? blocks - 1 : spot - 1;
        }
    }

    /** A RUN of a LINE, and what is known behind it. */
    private static final class Run {
        /** In place of the minutes to wait: the OMEN ahead has not been seen. */
        private static final int UNSEEN = -1;

        final int[] spots = new int[MOST_TRAINS];
        final int[] waitsLeft = new int[MOST_TRAINS];
        final int[] homeMinutes = new int[MOST_TRAINS];
        final int[] track = new int[MOST_TRAINS * MINUTES];
        int lastMinute;
        int bumpMinute;
        int bumpBlock;
        int bumpTrains;
        int cost;
        int homeCount;
        int waited;
        int keptOut;
        int entered;

        void play(Line line) {
            begin();
            boolean over = false;
            for (int m = 0; m < MINUTES && !over; m++) {
                int out = line.trains - homeCount;
                int keptBefore = keptOut;
                playMinute(line, m);
                lastMinute = m;
                int held = keptOut - keptBefore;
                if (held == out) {
                    // None moved, none waits for an OMEN: every minute to come is like this one.
                    keptOut += held * (MINUTES - 1 - m);
                }
                over = held == out || bumpMinute != NONE;
            }
            countCost(line);
        }

        private void begin() {
            Arrays.fill(spots, NONE);
            Arrays.fill(waitsLeft, UNSEEN);
            Arrays.fill(homeMinutes, NONE);
            bumpMinute = NONE;
            homeCount = 0;
            waited = 0;
            keptOut = 0;
            entered = 0;
        }

        private void playMinute(Line line, int m) {
            for (int t = 0; t < line.trains && bumpMinute == NONE; t++) {
                if (m >= line.fact(t, START) && homeMinutes[t] == NONE) {
                    step(line, t, m);
                }
            }
            for (int t = 0; t < line.trains; t++) {
                track[t * MINUTES + m] = spots[t];
            }
        }

        private void step(Line line, int t, int m) {
            if (spots[t] == line.lastBlockOf(t)) {
                spots[t] = NONE;
                homeMinutes[t] = m;
                homeCount++;
                return;
            }
            int next = line.nextBlockOf(t, spots[t]);
            if (waitsLeft[t] == UNSEEN) {
                waitsLeft[t] = minutesFor(line.fact(t, FAITH), line.omens[next]);
            }
            if (waitsLeft[t] > 0) {
                waitsLeft[t]--;
                waited++;
                return;
            }
            enter(line, t, next, m);
        }

        private void enter(Line line, int t, int next, int m) {
            int other = trainIn(next, line.trains);
            if (other == NONE) {
                spots[t] = next;
                waitsLeft[t] = UNSEEN;
                entered |= 1 << next;
            } else if (line.isGuarded(next)) {
                keptOut++;
            } else {
                bumpMinute = m;
                bumpBlock = next;
                bumpTrains = 10 * t + other;
            }
        }

        private int trainIn(int b, int trains) {
            for (int t = 0; t < trains; t++) {
                if (spots[t] == b) {
                    return t;
                }
            }
            return NONE;
        }

        private void countCost(Line line) {
            cost = 0;
            for (int t = 0; t < line.trains; t++) {
                int minute = homeMinutes[t] == NONE ? MINUTES : homeMinutes[t];
                cost += minute * line.fact(t, WORTH);
            }
        }

        int spotBehind(int t, int m) {
            return track[t * MINUTES + Math.min(m, lastMinute)];
        }
    }

    /** Searches on a trial LINE for what is best; what there is stays as it is. */
    private static final class Tries {
        final Line trial;
        final Run run;
        /** The COST of the latest answer, NONE if there was none. */
        int bestCost;

        Tries(Line trial, Run run) {
            this.trial = trial;
            this.run = run;
        }

        int fewestGuards(Line line) {
            trial.copyFrom(line);
            int best = NONE;
            for (int set = 0; set < 1 << line.blocks; set++) {
                if (isSmaller(set, best)) {
                    trial.guarded = set;
                    run.play(trial);
                    best = run.bumpMinute == NONE ? set : best;
                }
            }
            return best;
        }

        int fewestMagpies(Line line) {
            int taken = line.omenBits();
            int best = NONE;
            for (int set = 0; set < 1 << line.blocks; set++) {
                if ((set & taken) == 0 && isSmaller(set, best) && line.allowsOmensIn(set | taken)) {
                    trial.copyFrom(line);
                    trial.hangMagpiesIn(set);
                    run.play(trial);
                    best = run.bumpMinute == NONE ? set : best;
                }
            }
            return best;
        }

        private boolean isSmaller(int set, int best) {
            return best == NONE || Integer.bitCount(set) < Integer.bitCount(best);
        }

        int cheapestGuards(Line line) {
            trial.copyFrom(line);
            bestCost = NONE;
            int best = NONE;
            for (int set = 0; set < 1 << line.blocks; set++) {
                trial.guarded = set;
                run.play(trial);
                best = allAreHomeCheaper() ? set : best;
            }
            return best;
        }

        int cheapestStarts(Line line) {
            trial.copyFrom(line);
            bestCost = NONE;
            int best = NONE;
            for (int code = 0; code < 1 << 2 * line.trains; code++) {
                for (int t = 0; t < line.trains; t++) {
                    trial.putFact(t, START, startIn(code, t, line.trains));
                }
                run.play(trial);
                best = allAreHomeCheaper() ? code : best;
            }
            return best;
        }

        /** Whether the run beats the best COST, which is its own then. */
        private boolean allAreHomeCheaper() {
            if (run.homeCount < trial.trains || bestCost != NONE && run.cost >= bestCost) {
                return false;
            }
            bestCost = run.cost;
            return true;
        }

        int cheapestConvert(Line line) {
            trial.copyFrom(line);
            run.play(trial);
            int least = run.cost;
            int best = NONE;
            for (int t = 0; t < line.trains; t++) {
                for (int faith = 0; faith < FAITHS; faith++) {
                    trial.putFact(t, FAITH, faith);
                    run.play(trial);
                    if (run.cost < least) {
                        least = run.cost;
                        best = 10 * t + faith;
                    }
                }
                trial.putFact(t, FAITH, line.fact(t, FAITH));
            }
            bestCost = best == NONE ? NONE : least;
            return best;
        }
    }

    /** Magpies by odds: every set of BLOCKS without an OMEN, by its weight out of all. */
    private static final class Odds {
        final Line trial;
        final Run run;
        long all;
        long costs;
        long safe;

        Odds(Line trial, Run run) {
            this.trial = trial;
            this.run = run;
        }

        void weigh(Line line, int v) {
            int taken = line.omenBits();
            // No magpie anywhere when none is likely: that is certain, so its weight is all.
            all = weightOf(0, taken, 0, line.blocks);
            costs = 0;
            safe = 0;
            for (int set = 0; set < 1 << line.blocks; set++) {
                long weight = (set & taken) == 0 ? weightOf(set, taken, v, line.blocks) : 0;
                if (weight > 0) {
                    trial.copyFrom(line);
                    trial.hangMagpiesIn(set);
                    run.play(trial);
                    costs += weight * run.cost;
                    safe += run.bumpMinute == NONE ? weight : 0;
                }
            }
        }

        private static long weightOf(int set, int taken, int v, int blocks) {
            long weight = 1;
            for (int b = 0; b < blocks; b++) {
                if ((taken >> b & 1) == 0) {
                    weight *= (set >> b & 1) != 0 ? v : TEN - v;
                }
            }
            return weight;
        }
    }

    /** What is SEEN, and the FAITHS that it leaves. */
    private static final class Sightings {
        final Line trial;
        final Run run;
        final int[] whose = new int[MOST_SEEN];
        final int[] minutes = new int[MOST_SEEN];
        final int[] spots = new int[MOST_SEEN];
        /** Of one TRAIN, by FAITH: where it is behind each minute. */
        final int[] tracks = new int[FAITHS * MINUTES];
        int size;
        /** Of the latest bestMinute(), NONE if there was none. */
        int leftAtWorst;

        Sightings(Line trial, Run run) {
            this.trial = trial;
            this.run = run;
        }

        boolean append(int t, int m, int spot) {
            if (size >= MOST_SEEN) {
                return false;
            }
            whose[size] = t;
            minutes[size] = m;
            spots[size] = spot;
            size++;
            return true;
        }

        int fittingFaiths(Line line, int t) {
            trial.copyFrom(line);
            int bits = 0;
            for (int faith = 0; faith < FAITHS; faith++) {
                trial.putFact(t, FAITH, faith);
                run.play(trial);
                if (runIsAsSeen(t)) {
                    bits |= 1 << faith;
                }
                for (int m = 0; m < MINUTES; m++) {
                    tracks[faith * MINUTES + m] = run.spotBehind(t, m);
                }
            }
            return bits;
        }

        private boolean runIsAsSeen(int t) {
            for (int i = 0; i < size; i++) {
                if (whose[i] == t && run.spotBehind(t, minutes[i]) != spots[i]) {
                    return false;
                }
            }
            return true;
        }

        /** By the tracks of the latest fittingFaiths(). */
        int bestMinute(int fitting) {
            int least = Integer.bitCount(fitting);
            int best = NONE;
            for (int m = 0; m < MINUTES; m++) {
                int left = mostAlike(fitting, m);
                if (left < least) {
                    least = left;
                    best = m;
                }
            }
            leftAtWorst = best == NONE ? NONE : least;
            return best;
        }

        /** How many fitting FAITHS at most are in one place behind minute m. */
        private int mostAlike(int fitting, int m) {
            int most = 0;
            for (int one = 0; one < FAITHS; one++) {
                int alike = 0;
                for (int other = 0; other < FAITHS; other++) {
                    if ((fitting >> one & fitting >> other & 1) != 0
                            && tracks[one * MINUTES + m] == tracks[other * MINUTES + m]) {
                        alike++;
                    }
                }
                most = Math.max(most, alike);
            }
            return most;
        }
    }

    /** A row of CELLS of a lane, or nothing. Its FAULTS are found ahead of the machine. */
    private static final class Sheet {
        private static final int NOTHING = -1;

        final int[] cells = new int[MOST_CELLS];
        int lane;
        int size = NOTHING;

        boolean isNothing() {
            return size == NOTHING;
        }

        void renew(int newLane, int n) {
            lane = newLane;
            size = n;
            Arrays.fill(cells, 0);
        }

        /** Taken as of a lane; nothing may be taken as of any. */
        int faultAt(int asLane, int i) {
            if (isNothing()) {
                return NULL;
            }
            if (asLane != lane) {
                return CAST;
            }
            return i < 0 || i >= size ? INDEX : NO_FAULT;
        }

        int faultOfPair(int asLane, int i) {
            int first = faultAt(asLane, i);
            return first != NO_FAULT ? first : faultAt(asLane, i + 1);
        }

        void put(int i, int v) {
            if (lane == 0) {
                cells[i] = (byte) v;
            } else if (lane == 1) {
                cells[i] = (short) v;
            } else {
                cells[i] = v;
            }
        }
    }

    /** THE TAPE, and how a text on it is read. */
    private static final class Tape {
        private static final int END = 0, NAME = 1, NUMBER = 2, SEMICOLON = 3;
        /** Words by number: OMENS by their own, FAITHS from the plain one on, WAYS from up on. */
        private static final int BLOCKS_WORD = 0, HEARSE_WORD = 4, GUARD_WORD = 5, LOCK_WORD = 6;
        private static final int PLAIN_WORD = 7, HEATHEN_WORD = 10, UP_WORD = 11, WORDS = 13;

        private static final int NO_TOKEN = 1, MISPLACED = 2, BOUNDS = 3, TWICE = 4, TOO_MANY = 5;
        private static final int NO_BLOCK = 6, LOCKED = 7;

        final int[] bytes = new int[TAPE_BYTES];
        int size;
        int fault;
        int faultPlace;
        private boolean blocksTold;
        /** The TOKEN that was read last: where it begins, where the bytes behind it begin. */
        private int kind;
        private int place;
        private int behind;
        private int number;

        boolean append(int c) {
            if (size >= TAPE_BYTES) {
                return false;
            }
            bytes[size] = c;
            size++;
            return true;
        }

        /** How many lines; a draft is whole only if there is no fault then. */
        int parse(Line draft) {
            draft.clear();
            fault = NO_FAULT;
            blocksTold = false;
            behind = 0;
            int lines = 0;
            // A line has a byte at least, so there are no more lines than bytes.
            for (int i = 0; i <= TAPE_BYTES && takeLine(draft); i++) {
                lines++;
            }
            if (fault == NO_FAULT) {
                checkWhole(draft);
            }
            return lines;
        }

        /** False at the end too, then without a fault. */
        private boolean takeLine(Line draft) {
            if (!nextToken() || kind == END) {
                return false;
            }
            int word = wordHere();
            boolean taken;
            if (word == BLOCKS_WORD) {
                taken = takeBlocks(draft);
            } else if (word > BLOCKS_WORD && word <= HEARSE_WORD) {
                taken = takeOmen(draft, word);
            } else if (word == GUARD_WORD) {
                taken = takeGuard(draft);
            } else if (word == LOCK_WORD) {
                taken = takeLock(draft);
            } else if (word >= PLAIN_WORD && word <= HEATHEN_WORD) {
                taken = takeTrain(draft, word - PLAIN_WORD);
            } else {
                taken = blame(MISPLACED);
            }
            return taken && takeSemicolon();
        }

        private boolean takeBlocks(Line draft) {
            if (blocksTold) {
                return blame(TWICE);
            }
            if (!takeNumber(2, MOST_BLOCKS)) {
                return false;
            }
            blocksTold = true;
            draft.blocks = number;
            return true;
        }

        private boolean takeOmen(Line draft, int omen) {
            if (!takeNumber(0, MOST_BLOCKS - 1)) {
                return false;
            }
            if (draft.omens[number] != 0) {
                return blame(TWICE);
            }
            draft.omens[number] = omen;
            return true;
        }

        private boolean takeGuard(Line draft) {
            if (!takeNumber(0, MOST_BLOCKS - 1)) {
                return false;
            }
            if (draft.isGuarded(number)) {
                return blame(TWICE);
            }
            draft.guarded |= 1 << number;
            return true;
        }

        private boolean takeLock(Line draft) {
            if (draft.locks >= MOST_LOCKS) {
                return blame(TOO_MANY);
            }
            if (!takeNumber(0, MOST_BLOCKS - 1)) {
                return false;
            }
            int first = number;
            if (!takeNumber(0, MOST_BLOCKS - 1)) {
                return false;
            }
            if (number == first) {
                return blame(BOUNDS);
            }
            draft.lockEnds[2 * draft.locks] = first;
            draft.lockEnds[2 * draft.locks + 1] = number;
            draft.locks++;
            return true;
        }

        private boolean takeTrain(Line draft, int faith) {
            int t = draft.trains;
            if (t >= MOST_TRAINS) {
                return blame(TOO_MANY);
            }
            draft.putFact(t, FAITH, faith);
            if (!takeWay()) {
                return false;
            }
            draft.putFact(t, WAY, number);
            if (!takeNumber(0, FACT_VALUES[START] - 1)) {
                return false;
            }
            draft.putFact(t, START, number);
            if (!takeNumber(0, FACT_VALUES[WORTH] - 1)) {
                return false;
            }
            draft.putFact(t, WORTH, number);
            draft.trains++;
            return true;
        }

        private boolean takeWay() {
            if (!nextToken()) {
                return false;
            }
            int word = wordHere();
            if (word < UP_WORD) {
                return blame(MISPLACED);
            }
            number = word - UP_WORD;
            return true;
        }

        private boolean takeNumber(int least, int most) {
            if (!nextToken()) {
                return false;
            }
            if (kind != NUMBER) {
                return blame(MISPLACED);
            }
            return number >= least && number <= most || blame(BOUNDS);
        }

        private boolean takeSemicolon() {
            return nextToken() && (kind == SEMICOLON || blame(MISPLACED));
        }

        /** Behind the end, whose place is the length. */
        private void checkWhole(Line draft) {
            int told = draft.omenBits() | draft.guarded | draft.lockBits();
            if (told >> draft.blocks != 0) {
                blame(NO_BLOCK);
            } else if (!draft.allowsOmensIn(draft.omenBits())) {
                blame(LOCKED);
            }
        }

        /** At the TOKEN that was read last; always false, for the one who gives up. */
        private boolean blame(int what) {
            fault = what;
            faultPlace = place;
            return false;
        }

        /** False, with its fault, if there is no TOKEN; the end is one. */
        private boolean nextToken() {
            behind = endOf(32, 32, behind);
            place = behind;
            if (place >= size) {
                kind = END;
                return true;
            }
            int c = bytes[place];
            if (c >= 'a' && c <= 'z') {
                kind = NAME;
                behind = endOf('a', 'z', place);
                return true;
            }
            if (c >= '0' && c <= '9') {
                kind = NUMBER;
                behind = endOf('0', '9', place);
                number = numberHere();
                return behind - place <= 2 || blame(NO_TOKEN);
            }
            kind = SEMICOLON;
            behind = place + 1;
            return c == ';' || blame(NO_TOKEN);
        }

        /** Of two figures at most: a longer one is no TOKEN, whatever it would be. */
        private int numberHere() {
            int value = bytes[place] - '0';
            return behind - place == 2 ? 10 * value + bytes[place + 1] - '0' : value;
        }

        /** The first place from one on whose byte is not within the bounds. */
        private int endOf(int least, int most, int from) {
            for (int i = from; i < size; i++) {
                if (bytes[i] < least || bytes[i] > most) {
                    return i;
                }
            }
            return size;
        }

        /** The number of the NAME that was read last, -1 if it is no word or no NAME. */
        private int wordHere() {
            if (kind == NAME) {
                for (int word = 0; word < WORDS; word++) {
                    if (isHere(spelling(word))) {
                        return word;
                    }
                }
            }
            return -1;
        }

        private boolean isHere(String name) {
            if (name.length() != behind - place) {
                return false;
            }
            for (int i = 0; i < name.length(); i++) {
                if (bytes[place + i] != name.charAt(i)) {
                    return false;
                }
            }
            return true;
        }

        private static String spelling(int word) {
            switch (word) {
                case 0: return "blocks";
                case 1: return "magpie";
                case 2: return "sweep";
                case 3: return "cat";
                case 4: return "hearse";
                case 5: return "guard";
                case 6: return "lock";
                case 7: return "plain";
                case 8: return "sceptic";
                case 9: return "devout";
                case 10: return "heathen";
                case 11: return "up";
                default: return "down";
            }
        }
    }
}
