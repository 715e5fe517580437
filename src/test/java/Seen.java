import java.util.ArrayList;
import java.util.Arrays;
import java.util.List;
import java.util.function.Consumer;
import java.util.function.ToIntFunction;

/**
 * All that can be seen of a planner without going on paper, so that a call that is refused can be shown to do nothing.
 * It is asked of several objects with the same run behind them: none of them is called more than 512 times.
 */
final class Seen {
    // Up to two calls each, which leaves more than a hundred for the run itself.
    private static final int ASKED_OF_ONE = 200;
    private static final List<Ask> ASKS = asks();

    private record Ask(String name, ToIntFunction<AheadPlanner> of) {
    }

    private final int[] answers = new int[ASKS.size()];

    private Seen() {
    }

    static Seen after(Consumer<AheadPlanner> run) {
        Seen seen = new Seen();
        AheadPlanner x = null;
        for (int i = 0; i < seen.answers.length; i++) {
            if (i % ASKED_OF_ONE == 0) {
                x = new AheadPlanner();
                run.accept(x);
            }
            seen.answers[i] = ASKS.get(i).of.applyAsInt(x);
        }
        return seen;
    }

    /** The first thing that is not the same, told in words; null if there is none. */
    String otherThan(Seen before, String... butFor) {
        for (int i = 0; i < answers.length; i++) {
            String name = ASKS.get(i).name;
            if (answers[i] != before.answers[i] && !Arrays.asList(butFor).contains(name)) {
                return name + " was " + before.answers[i] + ", is " + answers[i];
            }
        }
        return null;
    }

    private static List<Ask> asks() {
        List<Ask> asks = new ArrayList<>();
        for (int what = 0; what <= 33; what++) {
            int w = what;
            asks.add(new Ask("count(" + w + ")", x -> x.count(w)));
        }
        for (int place = 0; place < 6; place++) {
            for (int what = 0; what <= 11; what++) {
                int p = place;
                int w = what;
                asks.add(new Ask("stream(" + p + ", " + w + ")", x -> x.stream(p, w)));
            }
        }
        for (int at = 0; at <= 64; at++) {
            int i = at;
            asks.add(new Ask("cached(" + i + ")", x -> x.cached(i)));
            for (int what = 1; what <= 7; what++) {
                int w = what;
                asks.add(new Ask("block(cached(" + i + "), " + w + ")", x -> x.block(x.cached(i), w)));
            }
        }
        for (int at = 0; at <= 400; at++) {
            int i = at;
            asks.add(new Ask("trace(" + i + ")", x -> x.trace(i)));
            asks.add(new Ask("whose(" + i + ", 0)", x -> x.whose(i, 0)));
            asks.add(new Ask("whose(" + i + ", 1)", x -> x.whose(i, 1)));
        }
        for (int at = 0; at <= 40; at++) {
            for (int what = 0; what <= 3; what++) {
                int i = at;
                int w = what;
                asks.add(new Ask("log(" + i + ", " + w + ")", x -> x.log(i, w)));
            }
        }
        for (int block = 0; block < 10_000; block++) {
            int b = block;
            asks.add(new Ask("block(" + b + ", 0)", x -> x.block(b, 0)));
            asks.add(new Ask("block(" + b + ", 1)", x -> x.block(b, 1)));
            asks.add(new Ask("block(" + b + ", 5)", x -> x.block(b, 5)));
        }
        return asks;
    }
}
