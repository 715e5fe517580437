import java.io.IOException;
import java.io.UncheckedIOException;
import java.nio.file.Files;
import java.nio.file.Path;
import java.util.IdentityHashMap;
import java.util.Map;
import java.util.function.Consumer;
import java.util.function.Predicate;
import java.util.function.ToLongFunction;

/**
 * Tests by sentences: each case stands under words of the document (which must be found there),
 * and what is not as due is told under them.
 */
abstract class Edges {
    static final int NONE = -1;
    static final int MIN = Integer.MIN_VALUE;
    static final int MAX = Integer.MAX_VALUE;
    static final int[] LOW = {4, 1, 1, 1, 1, 0, 1, 1, 0, 0};
    static final int[] HIGH = {64, 4, 8, 32, 200, 100, 6, 10_000, 2, 8};
    static final int[] FIRST = {16, 2, 2, 8, 16, 30, 4, 10_000, 0, 0};
    // The terms by their numbers, so that a test reads like the document.
    static final int ROOM = 0;
    static final int NEED = 1;
    static final int FIRST_WINDOW = 2;
    static final int MOST = 3;
    static final int REACH = 4;
    static final int SHARE = 5;
    static final int TABLE = 6;
    static final int SIZE = 7;
    static final int POLICY = 8;
    static final int LAG = 9;

    private static final Path DOCUMENT = Path.of("../shared/DOC.md");
    private static final String TEXT = document();
    private static final Map<Object, Seen> SEEN = new IdentityHashMap<>();
    private static String sentence = "";
    private static int cases;
    private static int wrong;

    private static String document() {
        try {
            return Files.readString(DOCUMENT).replaceAll("\\s+", " ");
        } catch (IOException e) {
            throw new UncheckedIOException(e);
        }
    }

    /** One test, of one sentence: its part of the document must have these words. */
    static void says(String part, String words, Runnable test) {
        sentence = part + ": \"" + words + "\"";
        cases++;
        if (!textOf(part).contains(words)) {
            tell("the document does not say so");
        }
        test.run();
    }

    private static String textOf(String part) {
        String[][] parts = {{"I.", "## Terms", "II. A STREAM"}, {"II.", "II. A STREAM", "IN FULL."},
            {"IN FULL", "IN FULL.", "The constants:"}, {"Face", "# AheadPlanner", "## Terms"},
            {"Constants", "The constants:", "## "}};
        for (String[] p : parts) {
            if (p[0].equals(part)) {
                return between(p[1], p[2]);
            }
        }
        return between("## " + part + ":", "## ");
    }

    private static String between(String begin, String end) {
        int from = TEXT.indexOf(begin);
        int to = from < 0 ? -1 : TEXT.indexOf(end, from + begin.length());
        return to < 0 ? "" : TEXT.substring(from, to);
    }

    private static void tell(String what) {
        wrong++;
        System.out.println(sentence + " - " + what);
    }

    static void due(String call, long got, long want) {
        if (got != want) {
            tell(call + " answered " + got + ", due is " + want);
        }
    }

    static void due(String call, boolean got, boolean want) {
        due(call, got ? 1 : 0, want ? 1 : 0);
    }

    /** A call that answers something and leaves all that can be seen as it was. */
    static void leaves(String call, Consumer<AheadPlanner> run, ToLongFunction<AheadPlanner> asked, long want) {
        AheadPlanner x = new AheadPlanner();
        run.accept(x);
        due(call, asked.applyAsLong(x), want);
        changesNothingBut(call, run, y -> asked.applyAsLong(y));
    }

    /** A call that is refused with false and leaves all as it was. */
    static void refuses(String call, Consumer<AheadPlanner> run, Predicate<AheadPlanner> asked) {
        leaves(call, run, x -> asked.test(x) ? 1 : 0, 0);
    }

    static void changesNothingBut(String call, Consumer<AheadPlanner> run, Consumer<AheadPlanner> more, String... but) {
        Seen before = SEEN.computeIfAbsent(run, r -> Seen.after(run));
        String other = Seen.after(run.andThen(more)).otherThan(before, but);
        if (other != null) {
            tell(call + " changed something: " + other);
        }
    }

    /** Two runs behind which nothing that can be seen is unlike. */
    static void sameBehind(String what, Consumer<AheadPlanner> one, Consumer<AheadPlanner> other) {
        String unlike = Seen.after(one).otherThan(Seen.after(other));
        if (unlike != null) {
            tell(what + ": " + unlike);
        }
    }

    /** A planner with terms told: pairs of which and v. */
    static AheadPlanner with(int... terms) {
        AheadPlanner x = new AheadPlanner();
        for (int i = 0; i + 1 < terms.length; i += 2) {
            x.sets(terms[i], terms[i + 1]);
        }
        return x;
    }

    /** The same planner with these blocks read, one by one. */
    static AheadPlanner read(AheadPlanner x, int... blocks) {
        for (int b : blocks) {
            x.read(b);
        }
        return x;
    }

    /** What a block holds at first. */
    static int content(int block) {
        return (int) ((7919L * block + 13) % 1_000_003);
    }

    static void end() {
        System.out.println(wrong == 0 ? cases + " sentences hold" : wrong + " answers are not as due");
        if (wrong != 0) {
            System.exit(1);
        }
    }
}
