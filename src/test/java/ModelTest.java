import java.util.Random;

/** Random runs of up to 512 calls, each call asked of the class and of the plain model of the document. */
public final class ModelTest {
    private static final int[] EDGES = {Integer.MIN_VALUE, -10001, -65, -2, -1, 0, 1, 3, 64, 65, 400, 9999, 10000,
        10001, 1000002, 1000003, Integer.MAX_VALUE};

    private final Random random;
    private final AheadPlanner planner = new AheadPlanner();
    private final Model model = new Model();
    private final int span;
    private final boolean dear;
    // Long runs without new terms, so that the trace and the log run over.
    private final boolean steady;
    private int last;
    private final StringBuilder told = new StringBuilder();

    private ModelTest(long seed) {
        random = new Random(seed);
        int[] spans = {12, 40, 120, 600, 10000};
        span = spans[random.nextInt(spans.length)];
        dear = seed % 8 == 0;
        steady = seed % 3 == 0;
    }

    public static void main(String[] args) {
        int runs = args.length > 0 ? Integer.parseInt(args[0]) : 600;
        long from = args.length > 1 ? Long.parseLong(args[1]) : 1;
        for (long seed = from; seed < from + runs; seed++) {
            ModelTest run = new ModelTest(seed);
            String wrong = run.go();
            if (wrong != null) {
                System.out.println("seed " + seed + ":" + run.told + "\n" + wrong);
                System.exit(1);
            }
        }
        System.out.println(runs + " runs are as the model has them");
    }

    private int any(int n) {
        return random.nextInt(n);
    }

    private int odd() {
        return EDGES[any(EDGES.length)];
    }

    private int block() {
        if (any(25) == 0) {
            return odd();
        }
        int near = any(4);
        if (near == 0 && model.cache.size() > 0) {
            return model.cached(any(model.cache.size()));
        }
        if (near == 1) {
            int place = any(6);
            Model.Str s = model.places[place];
            if (s != null) {
                return s.last + s.stride * (any(8) == 0 ? any(6) : 1);
            }
        }
        if (near == 2) {
            last += any(5) - 2;
            return last;
        }
        last = any(span);
        return last;
    }

    private int upTo(int n) {
        return any(20) == 0 ? odd() : any(n + 1) - (any(30) == 0 ? 1 : 0);
    }

    private String go() {
        int calls = steady ? 500 : 60 + any(450);
        for (int i = 0; i < calls / 4; i++) {
            String wrong = i < 12 && any(3) > 0 ? set() : act();
            for (int k = 0; wrong == null && k < 3; k++) {
                wrong = ask();
            }
            if (wrong != null) {
                return wrong;
            }
            if (i % 16 == 0 && (wrong = state()) != null) {
                return wrong;
            }
        }
        return state();
    }

    private String same(String call, long got, long want) {
        return got == want ? null : call + " answered " + got + ", due is " + want;
    }

    private static int one(boolean b) {
        return b ? 1 : 0;
    }

    private void tell(String call) {
        told.append(' ').append(call).append(';');
    }

    private String set() {
        int what = any(15) == 0 ? odd() : any(10);
        int v = any(15) == 0 ? odd() : what < 0 || what > 9 ? 5
                : Model.LOW[what] + any(Model.HIGH[what] - Model.LOW[what] + 1);
        if (what == 0 && any(2) == 0) {
            v = 4 + any(10);
        }
        if (what == 5 && any(2) == 0) {
            v = any(2) * 100;
        }
        if (what == 7 && any(2) == 0) {
            v = span;
        }
        tell("sets(" + what + ", " + v + ")");
        return same("sets", one(planner.sets(what, v)), one(model.sets(what, v)));
    }

    private String act() {
        int b = block();
        switch (any(20)) {
            case 0: case 1: case 2: case 3: case 4: case 5:
                tell("read(" + b + ")");
                return same("read", planner.read(b), model.read(b));
            case 6: case 7: case 8: case 9: case 10: {
                int by = any(3) == 0 ? any(41) - 20 : any(20) == 0 ? odd() : any(7) - 3;
                int n = any(20) == 0 ? odd() : 1 + any(steady || any(4) == 0 ? 40 : 8);
                tell("reads(" + b + ", " + by + ", " + n + ")");
                return same("reads", planner.reads(b, by, n), model.reads(b, by, n));
            }
            case 11: {
                int n = upTo(20);
                tell("idle(" + n + ")");
                return same("idle", planner.idle(n), model.idle(n));
            }
            case 12: {
                int stride = any(10) == 0 ? odd() : any(5) == 0 ? any(131) - 65 : any(9) - 4;
                tell("advise(" + b + ", " + stride + ")");
                return same("advise", planner.advise(b, stride), model.advise(b, stride));
            }
            case 13: {
                int c = any(4) == 0 ? odd() : any(1000003);
                tell("write(" + b + ", " + c + ")");
                return same("write", planner.write(b, c), model.write(b, c));
            }
            case 14: {
                boolean is = any(3) > 0;
                tell("bad(" + b + ", " + is + ")");
                return same("bad", one(planner.bad(b, is)), one(model.bad(b, is)));
            }
            case 15:
                tell("drop(" + b + ")");
                return same("drop", one(planner.drop(b)), one(model.drop(b)));
            case 16: {
                int place = any(4) == 0 ? upTo(6) : 6;
                tell("stop(" + place + ")");
                return same("stop", planner.stop(place), model.stop(place));
            }
            case 17: {
                int k = upTo(2);
                tell("keep(" + k + ")");
                return same("keep", one(planner.keep(k)), one(model.keep(k)));
            }
            case 18: {
                int k = upTo(2);
                tell("again(" + k + ")");
                return same("again", one(planner.again(k)), one(model.again(k)));
            }
            default:
                return !steady && any(12) == 0 ? set() : null;
        }
    }

    private String ask() {
        int b = block();
        int what = upTo(6);
        int place = upTo(6);
        int i = any(3) == 0 ? upTo(420) : upTo(20);
        switch (any(26)) {
            case 0: what = upTo(8); return same("block " + b + " " + what, planner.block(b, what), model.block(b, what));
            case 1: return same("cached " + i, planner.cached(i), model.cached(i));
            case 2: what = upTo(12);
                return same("stream " + place + " " + what, planner.stream(place, what), model.stream(place, what));
            case 3: i = upTo(8); return same("aheadOf " + place + " " + i, planner.aheadOf(place, i), model.aheadOf(place, i));
            case 4: return same("gain " + what, planner.gain(what), model.gain(what));
            case 5: return same("log " + i + " " + what, planner.log(i, what), model.log(i, what));
            case 6: return same("piece " + i + " " + what, planner.piece(i, what), model.piece(i, what));
            case 7: what = upTo(2); return same("piece -1 " + what, planner.piece(-1, what), model.piece(-1, what));
            case 8: return same("whose " + i + " " + what, planner.whose(i, what), model.whose(i, what));
            case 9: return same("mixed " + what, planner.mixed(what), model.mixed(what));
            case 10: return same("trace " + i, planner.trace(i), model.trace(i));
            case 11: case 12:
                return same("would " + b + " " + what, planner.would(b, what), model.would(b, what));
            case 13: i = upTo(8); return same("plan " + b + " " + i, planner.plan(b, i), model.plan(b, i));
            case 14: case 15: {
                int term = upTo(9);
                int v = term < 0 || term > 9 || any(9) == 0 ? odd() : term == 7 && any(2) == 0 ? model.t[7]
                        : Model.LOW[term] + any(Model.HIGH[term] - Model.LOW[term] + 1);
                what = upTo(34);
                return same("replay " + term + " " + v + " " + what, planner.replay(term, v, what), model.replay(term, v, what));
            }
            case 16: case 17: i = upTo(20);
                return same("forecast " + i + " " + what, planner.forecast(i, what), model.forecast(i, what));
            case 18: return dear || any(20) == 0 ? same("tune " + what, planner.tune(what), model.tune(what)) : null;
            case 19: {
                int term = upTo(9);
                what = upTo(2);
                if (term == 4 && any(10) > 0) {
                    return null;
                }
                return dear || any(20) == 0
                        ? same("best " + term + " " + what, planner.best(term, what), model.best(term, what)) : null;
            }
            case 20: what = upTo(2); i = any(2) == 0 ? upTo(8) : upTo(66);
                return same("misses " + i + " " + what, planner.misses(i, what), model.misses(i, what));
            case 21: what = upTo(2); i = any(2) == 0 ? upTo(8) - 4 : any(20003) - 10001;
                return same("row " + i + " " + what, planner.row(i, what), model.row(i, what));
            case 22: what = upTo(2);
                return dear || any(10) == 0 ? same("pace " + what, planner.pace(what), model.pace(what)) : null;
            case 23: return same("until " + place, planner.until(place), model.until(place));
            case 24: return same("ahead " + b, planner.ahead(b), model.ahead(b));
            default: return same("habits " + what, planner.habits(what), model.habits(what));
        }
    }

    /** Everything that can be seen cheaply. */
    private String state() {
        String wrong = null;
        for (int what = -1; wrong == null && what <= 34; what++) {
            wrong = same("count " + what, planner.count(what), model.count(what));
        }
        for (int place = -1; wrong == null && place <= 6; place++) {
            for (int what = -1; wrong == null && what <= 12; what++) {
                wrong = same("stream " + place + " " + what, planner.stream(place, what), model.stream(place, what));
            }
        }
        for (int i = 0; wrong == null && i <= 64; i++) {
            wrong = same("cached " + i, planner.cached(i), model.cached(i));
            for (int what = -1; wrong == null && what <= 8; what++) {
                int b = model.cached(i);
                wrong = same("block " + b + " " + what, planner.block(b, what), model.block(b, what));
            }
        }
        for (int i = 0; wrong == null && i <= 40; i++) {
            for (int what = 0; wrong == null && what < 4; what++) {
                wrong = same("log " + i + " " + what, planner.log(i, what), model.log(i, what));
            }
        }
        return wrong;
    }
}
