import java.util.ArrayList;
import java.util.List;

/**
 * "What is refused changes nothing (but THE TAPE, as told)", nor does what is only asked: the call is made on one of
 * two objects that are alike, then both are asked all that can be asked.
 */
public final class RefusedTest {
    private static final Checks C = new Checks();
    private static final int BAD = OmenLine.BAD, STATE = OmenLine.STATE, FULL = OmenLine.FULL, NONE = OmenLine.NONE;
    private static final int[] FAR = {-1, Integer.MIN_VALUE, Integer.MAX_VALUE};

    interface Call {
        long on(OmenLine x);
    }

    private static List<Long> due = new ArrayList<>();

    public static void main(String[] args) {
        due = all(full());
        C.that("the same calls, the same answers", all(full()).equals(due));
        C.that("at most 512 calls", due.size() < 300);
        text();
        facts();
        changes();
        runs();
        best();
        odds();
        faiths();
        imagesAndSheets();
        asked();
        textRefused();
        C.finish();
    }

    /** Each part of the state has something in it: 5 BLOCKS, 2 LOCKS, 2 TRAINS, 6 SEEN, IMAGE 0, SHEETS 0 to 2. */
    private static OmenLine full() {
        OmenLine x = Checks.line("blocks 5;cat 1;sweep 3;guard 2;lock 0 1;lock 2 4;plain up 0 3;devout down 2 5;");
        x.keep(0);
        x.hang(3, 4);
        x.guard(4, true);
        x.set(0, 0, 3);
        x.feed('@');
        x.text();
        for (int lane = 0; lane < 3; lane++) {
            x.sheet(lane, lane, 5);
            for (int i = 0; i < 5; i++) {
                x.lay(lane, i, (i + lane) % 5);
            }
        }
        x.read(2, 0, 0, 1);
        int[] minutes = {0, 1, 119, 3, 2, 0};
        for (int i = 0; i < 6; i++) {
            x.see(i % 2, minutes[i], i == 0 ? 0 : NONE);
        }
        Checks.feed(x, "blocks 3;cat 0;");
        return x;
    }

    /** All that can be asked; the last of it takes the object apart. */
    private static List<Long> all(OmenLine x) {
        List<Long> answers = new ArrayList<>();
        line(x, answers);
        for (int t = 0; t < 2; t++) {
            answers.add((long) x.home(t));
            answers.add((long) x.fits(t));
            for (int m : new int[] {0, 3, 6, 9, 12, 119}) {
                answers.add((long) x.at(t, m));
            }
        }
        for (int n = 6; n >= 0; n--) {
            answers.add((long) x.forget(n));
            answers.add((long) x.fits(0));
            answers.add((long) x.fits(1));
        }
        for (int k = 0; k < 4; k++) {
            for (int f = 0; f < 5; f++) {
                answers.add((long) x.read(k, k % 3, f, 1));
                answers.add((long) x.torn());
                answers.add((long) x.rule(4));
            }
        }
        answers.add((long) x.back(1));
        answers.add((long) x.back(0));
        line(x, answers);
        answers.add((long) x.text());
        line(x, answers);
        return answers;
    }

    /** What there is, and how its RUN goes. */
    private static void line(OmenLine x, List<Long> answers) {
        answers.add((long) x.fault());
        answers.add((long) x.torn());
        for (int what = 0; what < 6; what++) {
            answers.add((long) x.count(what));
        }
        for (int what = 0; what < 5; what++) {
            answers.add((long) x.rule(what));
            answers.add((long) x.sum(what));
        }
        for (int b = 0; b < x.rule(0); b++) {
            answers.add((long) x.block(b, 0));
            answers.add((long) x.block(b, 2));
        }
        for (int i = 0; i < 8; i++) {
            answers.add((long) x.train(i / 4, i % 4));
        }
        for (int i = 0; i < 4; i++) {
            answers.add((long) x.lock(i / 2, i % 2));
        }
    }

    private static void unchanged(String call, Call made, long want) {
        OmenLine x = full();
        C.due(call, made.on(x), want);
        C.that(call + " changed nothing", all(x).equals(due));
    }

    /** A number beyond its most, below its least, far off. */
    private static void bad(String call, int most, java.util.function.IntFunction<Call> made) {
        unchanged(call + " with " + (most + 1), made.apply(most + 1), BAD);
        for (int v : FAR) {
            unchanged(call + " with " + v, made.apply(v), BAD);
        }
    }

    private static void text() {
        C.of("2, 3 THE TAPE");
        bad("feed", 127, c -> x -> x.feed(c));
        bad("end", 15, n -> x -> x.end(n));
    }

    private static void facts() {
        C.of("6 to 10 what there is");
        bad("rule", 4, what -> x -> x.rule(what));
        bad("block", 4, b -> x -> x.block(b, 0));
        bad("block", 2, what -> x -> x.block(0, what));
        bad("lock", 1, l -> x -> x.lock(l, 0));
        bad("lock", 1, what -> x -> x.lock(0, what));
        bad("train", 1, t -> x -> x.train(t, 0));
        bad("train", 3, what -> x -> x.train(0, what));
        bad("waits", 3, faith -> x -> x.waits(faith, 0));
        bad("waits", 4, omen -> x -> x.waits(0, omen));
    }

    private static void changes() {
        C.of("11 to 13 what is changed");
        bad("hang", 4, b -> x -> x.hang(b, 1));
        bad("hang", 4, omen -> x -> x.hang(4, omen));
        for (int omen = 1; omen <= 4; omen++) {
            int hung = omen;
            unchanged("hang, kept by a LOCK", x -> x.hang(0, hung), STATE);
        }
        bad("guard", 4, b -> x -> x.guard(b, true));
        bad("guard", 4, b -> x -> x.guard(b, false));
        bad("set", 1, t -> x -> x.set(t, 0, 1));
        bad("set", 3, what -> x -> x.set(0, what, 1));
        int[] most = {3, 1, 9, 9};
        for (int what = 0; what < 4; what++) {
            int fact = what;
            bad("set " + what, most[what], v -> x -> x.set(1, fact, v));
        }
    }

    private static void runs() {
        C.of("14 to 17 a run");
        bad("home", 1, t -> x -> x.home(t));
        bad("at", 1, t -> x -> x.at(t, 0));
        bad("at", 119, m -> x -> x.at(0, m));
        bad("bump", 2, what -> x -> x.bump(what));
        bad("sum", 4, what -> x -> x.sum(what));
    }

    private static void best() {
        C.of("18 to 23 what is best");
        bad("fewest", 1, what -> x -> x.fewest(what));
        bad("guards", 1, what -> x -> x.guards(what));
        bad("magpies", 1, what -> x -> x.magpies(what));
        bad("starts", 0, what -> x -> x.starts(what));
        bad("starts", 11, what -> x -> x.starts(what));
        unchanged("starts with 9", x -> x.starts(9), BAD);
        bad("allowed", 1, what -> x -> x.allowed(what));
        bad("convert", 1, what -> x -> x.convert(what));
    }

    private static void odds() {
        C.of("24, 25 magpies by odds");
        bad("mean", 10, v -> x -> x.mean(v, 0));
        bad("mean", 1, what -> x -> x.mean(5, what));
        bad("luck", 10, v -> x -> x.luck(v, 0));
        bad("luck", 1, what -> x -> x.luck(5, what));
    }

    private static void faiths() {
        C.of("26 to 30 of which faith, by a seed");
        bad("see", 1, t -> x -> x.see(t, 0, 0));
        bad("see", 119, m -> x -> x.see(0, m, 0));
        bad("see", 4, b -> x -> x.see(0, 0, b));
        unchanged("see, the seventh", x -> x.see(0, 0, 0), FULL);
        bad("forget", 6, n -> x -> x.forget(n));
        bad("fits", 1, t -> x -> x.fits(t));
        bad("look", 1, t -> x -> x.look(t, 0));
        bad("look", 1, what -> x -> x.look(0, what));
        bad("drift", 20, n -> x -> x.drift(1, n, 0));
        unchanged("drift with 0", x -> x.drift(1, 0, 0), BAD);
        bad("drift", 1, what -> x -> x.drift(1, 1, what));
    }

    private static void imagesAndSheets() {
        C.of("31 to 37 images, sheets");
        bad("keep", 1, k -> x -> x.keep(k));
        bad("back", 1, k -> x -> x.back(k));
        unchanged("back, there is none", x -> x.back(1), STATE);
        bad("sheet", 3, k -> x -> x.sheet(k, 0, 1));
        bad("sheet", 2, lane -> x -> x.sheet(0, lane, 1));
        unchanged("sheet with 41", x -> x.sheet(0, 0, 41), BAD);
        unchanged("sheet with -1", x -> x.sheet(0, 0, -1), -14);
        unchanged("a sheet that is nothing, with -1", x -> x.sheet(3, 0, -1), -14);
        bad("lay", 3, k -> x -> x.lay(k, 0, 1));
        unchanged("lay, NULL", x -> x.lay(3, 0, 1), -11);
        unchanged("lay, INDEX", x -> x.lay(0, 5, 1), -12);
        unchanged("lay, INDEX", x -> x.lay(0, -1, 1), -12);
        bad("read", 3, k -> x -> x.read(k, 0, 0, 1));
        bad("read", 2, lane -> x -> x.read(0, lane, 0, 1));
        bad("read", 20, n -> x -> x.read(0, 0, 0, n));
        unchanged("read, the second is kept by a LOCK", x -> {
            x.lay(0, 0, 4);
            x.lay(0, 1, 1);
            long answer = x.read(0, 0, 0, 2);
            x.lay(0, 0, 0);
            return answer;
        }, -21);
        bad("count", 5, what -> x -> x.count(what));
    }

    private static void asked() {
        C.of("what is only asked changes nothing");
        Call[] calls = {x -> x.fault(), x -> x.rule(4), x -> x.block(1, 0), x -> x.lock(0, 0), x -> x.train(1, 3),
            x -> x.waits(2, 4), x -> x.home(0), x -> x.at(1, 119), x -> x.bump(0), x -> x.sum(0), x -> x.fewest(0),
            x -> x.fewest(1), x -> x.guards(0), x -> x.guards(1), x -> x.magpies(0), x -> x.magpies(1),
            x -> x.starts(0), x -> x.starts(11), x -> x.allowed(0), x -> x.allowed(1), x -> x.convert(0),
            x -> x.convert(1), x -> x.mean(5, 0), x -> x.luck(5, 1), x -> x.fits(0), x -> x.look(1, 0),
            x -> x.drift(-3, 20, 0), x -> x.torn(), x -> x.count(5)};
        for (int i = 0; i < calls.length; i++) {
            OmenLine x = full();
            long first = calls[i].on(x);
            C.due("asked twice, " + i, calls[i].on(x), first);
            C.that("asked, " + i, all(x).equals(due));
        }
    }

    /** THE TAPE alone is another one then: it is empty, and the FAULT is of this text. */
    private static void textRefused() {
        C.of("4 that which was told stays");
        OmenLine x = full();
        x.feed('@');
        C.due("text", x.text(), -25);
        C.due("fault", x.fault(), 1);
        C.due("bytes", x.count(2), 0);
        Checks.feed(x, "blocks 3;cat 0;");
        C.that("all the rest is as it was", all(x).equals(due));
    }
}
