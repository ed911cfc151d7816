import java.math.BigInteger;
import java.util.ArrayList;
import java.util.Arrays;
import java.util.List;
import java.util.regex.Matcher;
import java.util.regex.Pattern;

/**
 * The document once more, written from its words alone, with the whole Java library and without any
 * short cut: every RUN is played to minute 119, nothing is shared with the class under test.
 */
final class Model {
    static final int BAD = -1, STATE = -2, FULL = -3, NONE = -4;

    record Train(int faith, int way, int start, int worth) {
        int[] row() {
            return new int[] {faith, way, start, worth};
        }
    }

    record Pair(int one, int two) { }

    record Seen(int train, int minute, int block) { }

    static final class World implements Cloneable {
        int[] omens = new int[4];
        boolean[] guarded = new boolean[4];
        List<Pair> locks = new ArrayList<>();
        List<Train> trains = new ArrayList<>();

        World copy() {
            World w = new World();
            w.omens = omens.clone();
            w.guarded = guarded.clone();
            w.locks = new ArrayList<>(locks);
            w.trains = new ArrayList<>(trains);
            return w;
        }

        int blocks() {
            return omens.length;
        }

        boolean locksHold() {
            return locks.stream().noneMatch(p -> omens[p.one] != 0 && omens[p.two] != 0);
        }

        int hung() {
            return (int) Arrays.stream(omens).filter(o -> o != 0).count();
        }
    }

    static final class Outcome {
        int[][] at;
        int[] home;
        int bumpMinute = NONE, bumpBlock, bumpTrains;
        int waited, kept, touched, cost;
    }

    World world = new World();
    StringBuilder tape = new StringBuilder();
    List<Seen> seen = new ArrayList<>();
    World[] images = new World[2];
    Object[] sheets = new Object[4];
    int fault, torn;

    // ---- a run

    static int wait(int faith, int omen) {
        int plain = List.of(0, 1, 0, 3, 5).get(omen);
        switch (faith) {
            case 0: return plain;
            case 1: return plain / 2;
            case 2: return omen == 0 ? 0 : plain + 1;
            default: return omen == 1 ? 0 : omen == 2 ? 2 : plain;
        }
    }

    static Outcome play(World w) {
        int n = w.trains.size();
        Outcome o = new Outcome();
        o.at = new int[n][120];
        o.home = new int[n];
        Arrays.fill(o.home, NONE);
        // How far each is: -1 outside, then 0 on along its own way, blocks() behind the last one.
        int[] steps = new int[n];
        Arrays.fill(steps, -1);
        int[] enterFrom = new int[n];
        Arrays.fill(enterFrom, NONE);
        for (int m = 0; m < 120; m++) {
            for (int t = 0; t < n && o.bumpMinute == NONE; t++) {
                Train train = w.trains.get(t);
                if (m < train.start || steps[t] == w.blocks()) {
                    continue;
                }
                if (steps[t] == w.blocks() - 1) {
                    steps[t]++;
                    o.home[t] = m;
                    continue;
                }
                int next = blockOf(train, steps[t] + 1, w.blocks());
                if (enterFrom[t] == NONE) {
                    enterFrom[t] = m + wait(train.faith, w.omens[next]);
                }
                if (m < enterFrom[t]) {
                    o.waited++;
                    continue;
                }
                int there = NONE;
                for (int u = 0; u < n; u++) {
                    if (u != t && blockOf(w.trains.get(u), steps[u], w.blocks()) == next) {
                        there = u;
                    }
                }
                if (there == NONE) {
                    steps[t]++;
                    enterFrom[t] = NONE;
                    o.touched |= 1 << next;
                } else if (w.guarded[next]) {
                    o.kept++;
                } else {
                    o.bumpMinute = m;
                    o.bumpBlock = next;
                    o.bumpTrains = 10 * t + there;
                }
            }
            for (int t = 0; t < n; t++) {
                o.at[t][m] = blockOf(w.trains.get(t), steps[t], w.blocks());
            }
        }
        for (int t = 0; t < n; t++) {
            o.cost += (o.home[t] == NONE ? 120 : o.home[t]) * w.trains.get(t).worth;
        }
        return o;
    }

    private static int blockOf(Train train, int step, int blocks) {
        if (step < 0 || step >= blocks) {
            return NONE;
        }
        return train.way == 0 ? step : blocks - 1 - step;
    }

    private static boolean allHome(Outcome o) {
        return Arrays.stream(o.home).noneMatch(h -> h == NONE);
    }

    // ---- the text

    int feed(int c) {
        if (c < 0 || c > 127) {
            return BAD;
        }
        if (tape.length() == 160) {
            return FULL;
        }
        tape.append((char) c);
        return tape.length();
    }

    int end(int n) {
        if (n < 0 || n > tape.length()) {
            return BAD;
        }
        int had = tape.length();
        tape.setLength(n);
        return had;
    }

    private static final class Fault extends Exception {
        final int kind, place;

        Fault(int kind, int place) {
            this.kind = kind;
            this.place = place;
        }
    }

    private static final Pattern TOKEN = Pattern.compile(" *(?:([a-z]+)|([0-9]+)|(;)|(\\z)|(?s)(.))");
    private static final List<String> OMENS = List.of("", "magpie", "sweep", "cat", "hearse");
    private static final List<String> FAITHS = List.of("plain", "sceptic", "devout", "heathen");
    private static final List<String> WAYS = List.of("up", "down");

    private Matcher matcher;
    private int place;

    private String token() throws Fault {
        if (!matcher.lookingAt()) {
            throw new IllegalStateException();
        }
        for (int g = 1; g <= 5; g++) {
            if (matcher.group(g) != null) {
                place = matcher.start(g);
                if (g == 5 || g == 2 && matcher.group(2).length() > 2) {
                    throw new Fault(1, place);
                }
                String s = matcher.group(g);
                matcher.region(matcher.end(), tape.length());
                return s;
            }
        }
        throw new IllegalStateException();
    }

    private int number(int low, int high) throws Fault {
        String s = token();
        if (!s.matches("[0-9]+")) {
            throw new Fault(2, place);
        }
        int v = Integer.parseInt(s);
        if (v < low || v > high) {
            throw new Fault(3, place);
        }
        return v;
    }

    int text() {
        int answer;
        try {
            answer = parse();
            fault = 0;
            seen.clear();
            images = new World[2];
        } catch (Fault f) {
            fault = f.kind;
            answer = -10 - f.place;
        }
        tape.setLength(0);
        return answer;
    }

    private int parse() throws Fault {
        World w = new World();
        int blocks = NONE;
        int[] omens = new int[8];
        boolean[] guarded = new boolean[8];
        matcher = TOKEN.matcher(tape.toString());
        int lines = 0;
        for (String s = token(); !s.isEmpty(); s = token()) {
            if (s.equals("blocks")) {
                if (blocks != NONE) {
                    throw new Fault(4, place);
                }
                blocks = number(2, 8);
            } else if (OMENS.contains(s)) {
                int b = number(0, 7);
                if (omens[b] != 0) {
                    throw new Fault(4, place);
                }
                omens[b] = OMENS.indexOf(s);
            } else if (s.equals("guard")) {
                int b = number(0, 7);
                if (guarded[b]) {
                    throw new Fault(4, place);
                }
                guarded[b] = true;
            } else if (s.equals("lock")) {
                if (w.locks.size() == 4) {
                    throw new Fault(5, place);
                }
                int one = number(0, 7);
                int two = number(0, 7);
                if (one == two) {
                    throw new Fault(3, place);
                }
                w.locks.add(new Pair(one, two));
            } else if (FAITHS.contains(s)) {
                if (w.trains.size() == 4) {
                    throw new Fault(5, place);
                }
                String way = token();
                if (!WAYS.contains(way)) {
                    throw new Fault(2, place);
                }
                int start = number(0, 9);
                w.trains.add(new Train(FAITHS.indexOf(s), WAYS.indexOf(way), start, number(0, 9)));
            } else {
                throw new Fault(2, place);
            }
            if (!token().equals(";")) {
                throw new Fault(2, place);
            }
            lines++;
        }
        int n = blocks == NONE ? 4 : blocks;
        for (int b = n; b < 8; b++) {
            int beyond = b;
            if (omens[b] != 0 || guarded[b] || w.locks.stream().anyMatch(p -> p.one == beyond || p.two == beyond)) {
                throw new Fault(6, tape.length());
            }
        }
        w.omens = Arrays.copyOf(omens, n);
        w.guarded = Arrays.copyOf(guarded, n);
        if (!w.locksHold()) {
            throw new Fault(7, tape.length());
        }
        world = w;
        return lines;
    }

    int fault() {
        return fault;
    }

    private boolean isBlock(int b) {
        return b >= 0 && b < world.blocks();
    }

    private boolean isTrain(int t) {
        return t >= 0 && t < world.trains.size();
    }

    int rule(int what) {
        int guards = 0, omens = 0;
        for (int b = 0; b < world.blocks(); b++) {
            guards += world.guarded[b] ? 1 << b : 0;
            omens += world.omens[b] != 0 ? 1 << b : 0;
        }
        int[] all = {world.blocks(), world.trains.size(), world.locks.size(), guards, omens};
        return what < 0 || what > 4 ? BAD : all[what];
    }

    int block(int b, int what) {
        if (!isBlock(b) || what < 0 || what > 2) {
            return BAD;
        }
        int bits = 0;
        for (Pair p : world.locks) {
            bits |= p.one == b ? 1 << p.two : p.two == b ? 1 << p.one : 0;
        }
        return what == 0 ? world.omens[b] : what == 1 ? world.guarded[b] ? 1 : 0 : bits;
    }

    int lock(int l, int what) {
        if (l < 0 || l >= world.locks.size() || what < 0 || what > 1) {
            return BAD;
        }
        return what == 0 ? world.locks.get(l).one : world.locks.get(l).two;
    }

    int train(int t, int what) {
        return !isTrain(t) || what < 0 || what > 3 ? BAD : world.trains.get(t).row()[what];
    }

    int waits(int faith, int omen) {
        return faith < 0 || faith > 3 || omen < 0 || omen > 4 ? BAD : wait(faith, omen);
    }

    // ---- what is changed

    private static int hangIn(World w, int b, int omen) {
        if (b < 0 || b >= w.blocks() || omen < 0 || omen > 4) {
            return BAD;
        }
        int was = w.omens[b];
        w.omens[b] = omen;
        if (!w.locksHold()) {
            w.omens[b] = was;
            return STATE;
        }
        return was;
    }

    int hang(int b, int omen) {
        return hangIn(world, b, omen);
    }

    int guard(int b, boolean is) {
        if (!isBlock(b)) {
            return BAD;
        }
        int was = world.guarded[b] ? 1 : 0;
        world.guarded[b] = is;
        return was;
    }

    private static void change(World w, int t, int what, int v) {
        int[] row = w.trains.get(t).row();
        row[what] = v;
        w.trains.set(t, new Train(row[0], row[1], row[2], row[3]));
    }

    int set(int t, int what, int v) {
        if (!isTrain(t) || what < 0 || what > 3 || v < 0 || v > List.of(3, 1, 9, 9).get(what)) {
            return BAD;
        }
        int was = world.trains.get(t).row()[what];
        change(world, t, what, v);
        return was;
    }

    int home(int t) {
        return isTrain(t) ? play(world).home[t] : BAD;
    }

    int at(int t, int m) {
        return isTrain(t) && m >= 0 && m < 120 ? play(world).at[t][m] : BAD;
    }

    int bump(int what) {
        if (what < 0 || what > 2) {
            return BAD;
        }
        Outcome o = play(world);
        if (o.bumpMinute == NONE) {
            return NONE;
        }
        return List.of(o.bumpMinute, o.bumpBlock, o.bumpTrains).get(what);
    }

    int sum(int what) {
        if (what < 0 || what > 4) {
            return BAD;
        }
        Outcome o = play(world);
        int homes = (int) Arrays.stream(o.home).filter(h -> h != NONE).count();
        return List.of(o.cost, homes, o.waited, o.kept, o.touched).get(what);
    }

    // ---- what is best

    private World withGuards(int set) {
        World w = world.copy();
        for (int b = 0; b < w.blocks(); b++) {
            w.guarded[b] = (set & 1 << b) != 0;
        }
        return w;
    }

    private World withMagpies(int set) {
        World w = world.copy();
        for (int b = 0; b < w.blocks(); b++) {
            if ((set & 1 << b) != 0) {
                if (w.omens[b] != 0) {
                    return null;
                }
                w.omens[b] = 1;
            }
        }
        return w;
    }

    int fewest(int what) {
        if (what < 0 || what > 1) {
            return BAD;
        }
        for (int many = 0; many <= 8; many++) {
            for (int set = 0; set < 1 << world.blocks(); set++) {
                if (Integer.bitCount(set) == many && play(withGuards(set)).bumpMinute == NONE) {
                    return what == 0 ? many : set;
                }
            }
        }
        throw new IllegalStateException();
    }

    int guards(int what) {
        if (what < 0 || what > 1) {
            return BAD;
        }
        int[] best = null;
        for (int set = (1 << world.blocks()) - 1; set >= 0; set--) {
            Outcome o = play(withGuards(set));
            if (allHome(o) && (best == null || o.cost <= best[0])) {
                best = new int[] {o.cost, set};
            }
        }
        return best == null ? NONE : best[what];
    }

    int magpies(int what) {
        if (what < 0 || what > 1) {
            return BAD;
        }
        for (int many = 0; many <= 8; many++) {
            for (int set = 0; set < 1 << world.blocks(); set++) {
                World w = withMagpies(set);
                if (Integer.bitCount(set) == many && w != null && w.locksHold() && play(w).bumpMinute == NONE) {
                    return what == 0 ? many : set;
                }
            }
        }
        return NONE;
    }

    int starts(int what) {
        int n = world.trains.size();
        if (what != 0 && (what < 10 || what - 10 >= n)) {
            return BAD;
        }
        int[] best = tryStarts(world.copy(), 0, new int[n + 1], null);
        return best == null ? NONE : what == 0 ? best[n] : best[what - 10];
    }

    private int[] tryStarts(World w, int t, int[] row, int[] before) {
        int[] best = before;
        if (t == w.trains.size()) {
            Outcome o = play(w);
            if (allHome(o) && (best == null || o.cost < best[t])) {
                best = row.clone();
                best[t] = o.cost;
            }
            return best;
        }
        for (int start = 0; start <= 3; start++) {
            change(w, t, 2, start);
            row[t] = start;
            best = tryStarts(w, t + 1, row, best);
        }
        return best;
    }

    int allowed(int what) {
        if (what < 0 || what > 1) {
            return BAD;
        }
        int many = 0, most = 0;
        for (int set = 0; set < 1 << world.blocks(); set++) {
            World w = world.copy();
            for (int b = 0; b < w.blocks(); b++) {
                w.omens[b] = set >> b & 1;
            }
            if (w.locksHold()) {
                many++;
                most = Math.max(most, w.hung());
            }
        }
        return what == 0 ? many : most;
    }

    int convert(int what) {
        if (what < 0 || what > 1) {
            return BAD;
        }
        int now = play(world).cost;
        int[] best = null;
        for (int code = 33; code >= 0; code--) {
            if (code % 10 <= 3 && isTrain(code / 10) && world.trains.get(code / 10).faith != code % 10) {
                World w = world.copy();
                change(w, code / 10, 0, code % 10);
                int cost = play(w).cost;
                if (cost < now && (best == null || cost <= best[1])) {
                    best = new int[] {code, cost};
                }
            }
        }
        return best == null ? NONE : best[what];
    }

    // ---- odds

    private long odds(int v, int what, boolean luck) {
        if (v < 0 || v > 10 || what < 0 || what > 1) {
            return BAD;
        }
        BigInteger above = BigInteger.ZERO;
        int free = world.blocks() - world.hung();
        for (int set = 0; set < 1 << world.blocks(); set++) {
            World w = withMagpies(set);
            if (w != null) {
                int many = Integer.bitCount(set);
                Outcome o = play(w);
                long worth = luck ? o.bumpMinute == NONE ? 1 : 0 : o.cost;
                above = above.add(BigInteger.valueOf(worth).multiply(BigInteger.valueOf(v).pow(many))
                        .multiply(BigInteger.valueOf(10 - v).pow(free - many)));
            }
        }
        BigInteger below = BigInteger.TEN.pow(free);
        BigInteger g = above.gcd(below);
        return (what == 0 ? above : below).divide(g).longValueExact();
    }

    long mean(int v, int what) {
        return odds(v, what, false);
    }

    long luck(int v, int what) {
        return odds(v, what, true);
    }

    // ---- of which faith

    int see(int t, int m, int b) {
        if (!isTrain(t) || m < 0 || m > 119 || b != NONE && !isBlock(b)) {
            return BAD;
        }
        if (seen.size() == 6) {
            return FULL;
        }
        seen.add(new Seen(t, m, b));
        return seen.size();
    }

    int forget(int n) {
        if (n < 0 || n > seen.size()) {
            return BAD;
        }
        int had = seen.size();
        seen = new ArrayList<>(seen.subList(0, n));
        return had;
    }

    private Outcome were(int t, int faith) {
        World w = world.copy();
        change(w, t, 0, faith);
        return play(w);
    }

    int fits(int t) {
        if (!isTrain(t)) {
            return BAD;
        }
        int bits = 0;
        for (int f = 0; f < 4; f++) {
            Outcome o = were(t, f);
            if (seen.stream().allMatch(s -> s.train != t || o.at[t][s.minute] == s.block)) {
                bits |= 1 << f;
            }
        }
        return bits;
    }

    int look(int t, int what) {
        if (!isTrain(t) || what < 0 || what > 1) {
            return BAD;
        }
        int fits = fits(t);
        int[] best = null;
        for (int m = 119; m >= 0; m--) {
            int[] left = new int[20];
            for (int f = 0; f < 4; f++) {
                if ((fits & 1 << f) != 0) {
                    left[were(t, f).at[t][m] + 4]++;
                }
            }
            int worst = Arrays.stream(left).max().getAsInt();
            if (worst < Integer.bitCount(fits) && (best == null || worst <= best[1])) {
                best = new int[] {m, worst};
            }
        }
        return best == null ? NONE : best[what];
    }

    int drift(int seed, int n, int what) {
        if (n < 1 || n > 20 || what < 0 || what > 1) {
            return BAD;
        }
        World w = world.copy();
        long s = seed;
        int bumps = 0, costs = 0;
        for (int i = 0; i < n; i++) {
            s = (s * 1103515245L + 12345L) & 0xffffffffL;
            int b = (int) ((s >> 16 & 0x7fff) % w.blocks());
            s = (s * 1103515245L + 12345L) & 0xffffffffL;
            hangIn(w, b, (int) ((s >> 16 & 0x7fff) % 5));
            Outcome o = play(w);
            bumps += o.bumpMinute == NONE ? 0 : 1;
            costs += o.cost;
        }
        return what == 0 ? bumps : costs;
    }

    // ---- images, sheets

    int keep(int k) {
        if (k < 0 || k > 1) {
            return BAD;
        }
        int was = images[k] == null ? 0 : 1;
        images[k] = world.copy();
        return was;
    }

    int back(int k) {
        if (k < 0 || k > 1) {
            return BAD;
        }
        if (images[k] == null) {
            return STATE;
        }
        world = images[k].copy();
        return world.hung();
    }

    int sheet(int k, int lane, int n) {
        if (k < 0 || k > 3 || lane < 0 || lane > 2 || n > 40) {
            return BAD;
        }
        try {
            sheets[k] = lane == 0 ? new byte[n] : lane == 1 ? new short[n] : new int[n];
            return 1;
        } catch (NegativeArraySizeException e) {
            return -14;
        }
    }

    int lay(int k, int i, int v) {
        if (k < 0 || k > 3) {
            return BAD;
        }
        try {
            if (sheets[k] instanceof byte[] row) {
                row[i] = (byte) v;
            } else if (sheets[k] instanceof short[] row) {
                row[i] = (short) v;
            } else {
                ((int[]) sheets[k])[i] = v;
            }
            return 1;
        } catch (NullPointerException e) {
            return -11;
        } catch (ArrayIndexOutOfBoundsException e) {
            return -12;
        }
    }

    private int cell(int k, int lane, int i) {
        return lane == 0 ? ((byte[]) sheets[k])[i] : lane == 1 ? ((short[]) sheets[k])[i] : ((int[]) sheets[k])[i];
    }

    int read(int k, int lane, int f, int n) {
        if (k < 0 || k > 3 || lane < 0 || lane > 2 || n < 0 || n > 20) {
            return BAD;
        }
        World w = world.copy();
        int hung = 0;
        int found = 0;
        try {
            for (int i = 0; i < n; i++) {
                int b = cell(k, lane, f + 2 * i);
                int omen = cell(k, lane, f + 2 * i + 1);
                if (hangIn(w, b, omen) < 0) {
                    return -20 - i;
                }
                hung++;
            }
        } catch (NullPointerException e) {
            found = 1;
        } catch (ArrayIndexOutOfBoundsException e) {
            found = 2;
        } catch (ClassCastException e) {
            found = 3;
        }
        world = w;
        torn = found;
        return hung;
    }

    int torn() {
        return torn;
    }

    int count(int what) {
        if (what < 0 || what > 5) {
            return BAD;
        }
        int cells = sheets[0] == null ? NONE : java.lang.reflect.Array.getLength(sheets[0]);
        int kept = (images[0] == null ? 0 : 1) + (images[1] == null ? 0 : 1);
        int worths = world.trains.stream().mapToInt(Train::worth).sum();
        return List.of(seen.size(), kept, tape.length(), cells, world.hung(), worths).get(what);
    }
}
