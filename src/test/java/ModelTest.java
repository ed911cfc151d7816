import java.util.Random;

/** All promises: long runs of calls by chance, each answer held against the Model's. */
public final class ModelTest {
    private static final Checks C = new Checks();
    private static final int[] EDGES = {Integer.MIN_VALUE, Integer.MIN_VALUE + 9, -129, -5, -4, -3, -2, -1, 0, 1, 2, 3,
        4, 5, 6, 7, 8, 9, 10, 11, 13, 14, 20, 21, 39, 40, 41, 119, 120, 127, 128, 255, 65536, Integer.MAX_VALUE - 1,
        Integer.MAX_VALUE};
    private static final String[] WORDS = {"blocks", "magpie", "sweep", "cat", "hearse", "guard", "lock", "plain",
        "sceptic", "devout", "heathen", "up", "down", ";", "@", "x", "0", "7", "8", "100", "04"};

    private final Random chance;
    private final OmenLine x = new OmenLine();
    private final Model y = new Model();
    private final int askedBefore = C.asked();

    private ModelTest(long seed) {
        chance = new Random(seed);
    }

    public static void main(String[] args) {
        for (int seed = 0; seed < 600; seed++) {
            new ModelTest(seed).play();
        }
        for (int seed = 0; seed < 12000; seed++) {
            new ModelTest(1000 + seed).texts();
        }
        for (int seed = 0; seed < 3000; seed++) {
            new ModelTest(20000 + seed).runs();
        }
        for (int seed = 0; seed < 600; seed++) {
            new ModelTest(30000 + seed).best();
        }
        C.finish();
    }

    /** Mostly a number below n, now and then an edge. */
    private int some(int n) {
        return chance.nextInt(12) == 0 ? EDGES[chance.nextInt(EDGES.length)] : chance.nextInt(n);
    }

    private void feed(String text) {
        for (char c : text.toCharArray()) {
            C.due("feed", x.feed(c), y.feed(c));
        }
    }

    private void tell() {
        String text = likelyText();
        feed(text);
        C.due("text of <" + text + ">", x.text(), y.text());
        C.due("fault of <" + text + ">", x.fault(), y.fault());
    }

    private String likelyText() {
        StringBuilder s = new StringBuilder();
        int blocks = chance.nextInt(4) == 0 ? 4 : 2 + chance.nextInt(7);
        s.append(blocks == 4 ? "" : "blocks " + blocks + ";");
        for (int b = 0; b < blocks; b++) {
            if (chance.nextInt(3) == 0) {
                s.append(WORDS[1 + chance.nextInt(4)]).append(' ').append(b).append(';');
            }
            if (chance.nextInt(2) == 0) {
                s.append("guard ").append(b).append(';');
            }
        }
        for (int l = chance.nextInt(3); l > 0; l--) {
            s.append("lock ").append(chance.nextInt(blocks)).append(' ').append(chance.nextInt(blocks)).append(';');
        }
        int oneWay = chance.nextInt(3);
        for (int t = chance.nextInt(5); t > 0; t--) {
            String way = oneWay == 2 ? WORDS[11 + chance.nextInt(2)] : WORDS[11 + oneWay];
            s.append(WORDS[7 + chance.nextInt(4)]).append(' ').append(way).append(' ').append(chance.nextInt(10))
                    .append(' ').append(chance.nextInt(10)).append(';');
        }
        return s.toString();
    }

    /** A likely text with some of its bytes changed, left out or put in. */
    private void texts() {
        for (int i = 0; i < 2; i++) {
            StringBuilder s = new StringBuilder(likelyText());
            for (int k = chance.nextInt(4); k > 0 && s.length() > 0; k--) {
                int place = chance.nextInt(s.length());
                switch (chance.nextInt(4)) {
                    case 0: s.deleteCharAt(place); break;
                    case 1: s.insert(place, " "); break;
                    case 2: s.insert(place, WORDS[chance.nextInt(WORDS.length)]); break;
                    default: s.setCharAt(place, (char) (chance.nextBoolean() ? 48 + chance.nextInt(12)
                            : chance.nextInt(128)));
                }
            }
            feed(s.toString());
            C.due("text of <" + s + ">", x.text(), y.text());
            C.due("fault of <" + s + ">", x.fault(), y.fault());
            if (calls() < 380) {
                state();
            }
        }
    }

    private void runs() {
        do {
            tell();
        } while (y.fault != 0 && calls() < 320);
        for (int t = 0; t < 4; t++) {
            C.due("home", x.home(t), y.home(t));
            C.due("at", x.at(t, 119), y.at(t, 119));
            C.due("at", x.at(t, 9), y.at(t, 9));
        }
        for (int what = 0; what < 5; what++) {
            C.due("bump", x.bump(what), y.bump(what));
            C.due("sum", x.sum(what), y.sum(what));
        }
    }

    /** Trains on one way that set out close to one another: what is best is neither nothing nor hopeless. */
    private void best() {
        StringBuilder s = new StringBuilder("blocks " + (2 + chance.nextInt(5)) + ";");
        int way = chance.nextInt(2);
        for (int t = 1 + chance.nextInt(4); t > 0; t--) {
            s.append(WORDS[7 + chance.nextInt(4)]).append(' ').append(WORDS[11 + way]).append(' ')
                    .append(chance.nextInt(4) + (4 - t)).append(' ').append(chance.nextInt(10)).append(';');
        }
        feed(s.toString());
        C.due("text", x.text(), y.text());
        for (int i = 0; i < 3; i++) {
            int b = chance.nextInt(6);
            int omen = chance.nextInt(5);
            C.due("hang", x.hang(b, omen), y.hang(b, omen));
            C.due("guard", x.guard(b / 2, omen < 3), y.guard(b / 2, omen < 3));
        }
        int v = chance.nextInt(11);
        for (int what = 0; what < 2; what++) {
            C.due("fewest of " + s, x.fewest(what), y.fewest(what));
            C.due("guards of " + s, x.guards(what), y.guards(what));
            C.due("magpies of " + s, x.magpies(what), y.magpies(what));
            C.due("convert of " + s, x.convert(what), y.convert(what));
            C.due("mean of " + s, x.mean(v, what), y.mean(v, what));
            C.due("luck of " + s, x.luck(v, what), y.luck(v, what));
            C.due("look of " + s, x.look(0, what), y.look(0, what));
        }
        int t = chance.nextInt(4);
        C.due("starts of " + s, x.starts(0), y.starts(0));
        C.due("starts of " + s, x.starts(10 + t), y.starts(10 + t));
    }

    /** What there is, whole. */
    private void state() {
        for (int what = 0; what < 6; what++) {
            C.due("rule", x.rule(what), y.rule(what));
            C.due("count", x.count(what), y.count(what));
        }
        for (int i = 0; i < 9; i++) {
            for (int what = 0; what < 4; what++) {
                C.due("block", x.block(i, what), y.block(i, what));
                C.due("lock", x.lock(i, what), y.lock(i, what));
                C.due("train", x.train(i, what), y.train(i, what));
            }
        }
        C.due("torn", x.torn(), y.torn());
    }

    /** Nothing is promised of an object behind its 512th call, so the last ones are kept for its state. */
    private void play() {
        tell();
        while (calls() < 220) {
            one(chance.nextInt(37));
            if (chance.nextInt(60) == 0) {
                tell();
            }
        }
        state();
    }

    private int calls() {
        return C.asked() - askedBefore;
    }

    private void one(int which) {
        int a = some(5);
        int b = some(8);
        int c = some(11);
        int two = some(2);
        switch (which) {
            case 0: C.due("feed", x.feed(c), y.feed(c)); break;
            case 1: C.due("end", x.end(c), y.end(c)); break;
            case 2: if (chance.nextInt(9) == 0) { C.due("text", x.text(), y.text()); } break;
            case 3: C.due("fault", x.fault(), y.fault()); break;
            case 4: C.due("rule", x.rule(b), y.rule(b)); break;
            case 5: C.due("block", x.block(b, a), y.block(b, a)); break;
            case 6: C.due("lock", x.lock(a, two), y.lock(a, two)); break;
            case 7: C.due("train", x.train(a, b), y.train(a, b)); break;
            case 8: C.due("waits", x.waits(a, b), y.waits(a, b)); break;
            case 9: C.due("hang", x.hang(b, a), y.hang(b, a)); break;
            case 10: C.due("guard", x.guard(b, (c & 1) == 0), y.guard(b, (c & 1) == 0)); break;
            case 11: C.due("set", x.set(a, two * 2 + (b & 1), c), y.set(a, two * 2 + (b & 1), c)); break;
            case 12: C.due("home", x.home(a), y.home(a)); break;
            case 13: C.due("at", x.at(a, b * c), y.at(a, b * c)); break;
            case 14: C.due("bump", x.bump(a), y.bump(a)); break;
            case 15: C.due("sum", x.sum(a), y.sum(a)); break;
            case 16: C.due("fewest", x.fewest(two), y.fewest(two)); break;
            case 17: C.due("guards", x.guards(two), y.guards(two)); break;
            case 18: C.due("magpies", x.magpies(two), y.magpies(two)); break;
            case 19: C.due("starts", x.starts(two * (10 + a)), y.starts(two * (10 + a))); break;
            case 20: C.due("allowed", x.allowed(two), y.allowed(two)); break;
            case 21: C.due("convert", x.convert(two), y.convert(two)); break;
            case 22: C.due("mean", x.mean(c, two), y.mean(c, two)); break;
            case 23: C.due("luck", x.luck(c, two), y.luck(c, two)); break;
            default: more(which, a, b, c, two);
        }
    }

    private void more(int which, int a, int b, int c, int two) {
        switch (which) {
            case 24: see(a, some(30)); break;
            case 25: C.due("forget", x.forget(a), y.forget(a)); break;
            case 26: C.due("fits", x.fits(a), y.fits(a)); break;
            case 27: C.due("look", x.look(a, two), y.look(a, two)); break;
            case 28: drift(two); break;
            case 29: C.due("keep", x.keep(two), y.keep(two)); break;
            case 30: C.due("back", x.back(two), y.back(two)); break;
            case 31: sheet(a, c + c); break;
            case 32: case 33: fill(a, c); break;
            case 34: read(a, some(3), some(9), some(6)); break;
            case 35: read(a, some(3), some(40), some(21)); break;
            default: C.due("count", x.count(b), y.count(b));
        }
    }

    private void sheet(int k, int n) {
        int lane = some(3);
        C.due("sheet", x.sheet(k, lane, n), y.sheet(k, lane, n));
    }

    private void see(int t, int m) {
        int b = some(8);
        if (chance.nextBoolean() && t >= 0 && t < y.world.trains.size() && m >= 0 && m < 120) {
            b = y.at(t, m);
        }
        C.due("see", x.see(t, m, b), y.see(t, m, b));
    }

    private void drift(int what) {
        int seed = chance.nextInt();
        int n = some(21);
        C.due("drift", x.drift(seed, n, what), y.drift(seed, n, what));
    }

    private void fill(int k, int cells) {
        int lane = some(3);
        C.due("sheet", x.sheet(k, lane, cells), y.sheet(k, lane, cells));
        for (int i = 0; i < cells && i < 41; i++) {
            int v = some(5) + (chance.nextInt(5) == 0 ? 65536 * chance.nextInt(3) : 0);
            C.due("lay", x.lay(k, i, v), y.lay(k, i, v));
        }
        int i = some(12);
        C.due("lay", x.lay(k, i, 1), y.lay(k, i, 1));
        read(k, lane, some(3), some(5));
    }

    private void read(int k, int lane, int f, int n) {
        C.due("read(" + k + ", " + lane + ", " + f + ", " + n + ")", x.read(k, lane, f, n), y.read(k, lane, f, n));
        C.due("torn", x.torn(), y.torn());
        C.due("rule(4)", x.rule(4), y.rule(4));
    }
}
