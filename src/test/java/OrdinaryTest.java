import java.util.function.Consumer;

/** The sentences of the document that name no boundary, from its first line on: what stands in them, by ordinary runs. */
public final class OrdinaryTest extends Edges {
    // STREAM 0 at 102 with 103 and 104 AHEAD (STAMPS 4, 5), STREAM 1 at 500, STREAM 2 (STRIDE -3) at 707, not PROVED.
    private static final Consumer<AheadPlanner> THREE = x -> {
        x.reads(100, 1, 3);
        x.read(500);
        x.reads(710, -3, 2);
    };

    public static void main(String[] args) {
        policies();
        theCache();
        whenDue();
        reads();
        streams();
        stepsAndPairs();
        batches();
        joined();
        idle();
        inFull();
        constants();
        blocks();
        streamsTold();
        ofTheTrace();
        onPaper();
        paperOfTheTrace();
        rowsAndHabits();
        counts();
        end();
    }

    private static AheadPlanner three() {
        AheadPlanner x = new AheadPlanner();
        THREE.accept(x);
        return x;
    }

    /** Of ROOM 8 seven: 500 READ thrice, 600 once, 102 .. 104 READ, 105 and 106 AHEAD. */
    private static AheadPlanner full(int policy) {
        AheadPlanner x = with(ROOM, 8, NEED, 1, FIRST_WINDOW, 1, REACH, 1, POLICY, policy);
        return read(x, 500, 500, 500, 600, 102, 103, 104);
    }

    private static void policies() {
        says("I.", "POLICY 0 .. 2 (0)", () -> {
            for (int policy = 0; policy <= 2; policy++) {
                AheadPlanner x = full(policy);
                due("BLOCKS by " + policy, x.count(10), 7);
                due("AHEAD by " + policy, x.count(11), 2);
                x.read(900);
                x.read(950);
                int[] gone = {500, 500, 105};
                due("gone by " + policy, x.block(gone[policy], 1), NONE);
                due("one went by " + policy, x.count(10), 8);
            }
        });
        says("I.", "by 1 of those AHEAD that one, if more than a quarter of ROOM (downwards) are, else of all", () -> {
            AheadPlanner x = full(1);
            due("301 is FETCHED, too", x.advise(300, 1), 3);
            due("3 AHEAD", x.count(11), 3);
            due("the room is full", x.count(10), 8);
            x.read(900);
            due("105 went, the one AHEAD of least STAMP", x.block(105, 1), NONE);
            due("106 did not", x.block(106, 3), 1);
            due("500 did not, though its STAMP is less", x.block(500, 2), 3);
            due("WASTED", x.count(6), 1);
            x.read(950);
            due("no more than a quarter: 500 went", x.block(500, 1), NONE);
            due("106 did not", x.block(106, 3), 1);
        });
    }

    private static void theCache() {
        says("I.", "The DISK: BLOCKS 0 .. SIZE less 1, each with a CONTENT", () -> {
            AheadPlanner x = new AheadPlanner();
            for (int b : new int[] {0, 1, 126, 127, 5_000, 9_999}) {
                due("CONTENT of " + b, x.block(b, 0), content(b));
                due("READ of " + b, x.read(b), content(b));
            }
        });
        says("I.", "The CACHE: ROOM BLOCKS at most, each with a CONTENT, a STAMP, AHEAD or not.", () -> {
            AheadPlanner x = three();
            int[] blocks = {100, 101, 102, 103, 104, 500, 710, 707};
            for (int i = 0; i < blocks.length; i++) {
                due("the " + i + "-th", x.cached(i), blocks[i]);
                due("its CONTENT", x.block(blocks[i], 1), content(blocks[i]));
                due("its STAMP", x.block(blocks[i], 2), i + 1);
                due("AHEAD", x.block(blocks[i], 3), i == 3 || i == 4 ? 1 : 0);
            }
        });
        says("I.", "to a BLOCK that is PUT into the CACHE, and to one there that is READ.", () -> {
            AheadPlanner x = three();
            due("8 were PUT", x.count(15), 8);
            x.read(500);
            due("READ", x.block(500, 2), 9);
            x.drop(500);
            x.write(100, 5);
            x.bad(100, true);
            due("nothing else gives one", x.count(15), 9);
            x.read(500);
            due("PUT anew", x.block(500, 2), 10);
        });
        says("I.", "(TOUCHED: how often it was READ since it was PUT; the READ by which it is PUT is one)", () -> {
            AheadPlanner x = read(three(), 500, 500, 103);
            due("thrice", x.block(500, 6), 3);
            due("once, FETCHED AHEAD", x.block(103, 6), 1);
            due("never", x.block(104, 6), 0);
            x.drop(500);
            x.read(500);
            due("since it was PUT", x.block(500, 6), 1);
        });
    }

    private static void whenDue() {
        says("I.", "A BLOCK FETCHED AHEAD is DUE once LAG READS (that did not FAIL) have gone by since", () -> {
            AheadPlanner x = read(with(LAG, 3), 100, 101, 102);
            due("three to come", x.block(104, 7), 3);
            x.read(500);
            due("two to come", x.block(104, 7), 2);
            x.bad(600, true);
            due("FAILS", x.read(600), -2);
            due("still two", x.block(104, 7), 2);
            x.read(700);
            x.read(800);
            due("DUE", x.block(104, 7), 0);
            x.read(104);
            due("none LATE", x.count(32), 0);
        });
        says("I.", "and the STREAM for which it was FETCHED, if it is still there, has twice its WINDOW", () -> {
            AheadPlanner x = read(with(LAG, 3), 100, 101, 102, 500);
            // 104 is no STEP of STREAM 0 (103 is); it is NEW or a PAIR of another, but FETCHED for 0.
            x.read(104);
            due("LATE", x.count(32), 1);
            due("two were to come", x.count(33), 2);
            due("STREAM 0, whose the READ was not", x.stream(0, 4), 4);
            due("whose it was", x.whose(0, 0), 2);
        });
    }

    private static void reads() {
        says("I.", "READ of BLOCK b: a HIT, if it is in the CACHE; it is not AHEAD any more. Else a MISS: it is FETCHED", () -> {
            AheadPlanner x = read(three(), 103);
            due("a HIT", x.count(1), 1);
            due("not AHEAD any more", x.block(103, 3), 0);
            due("MISSES", x.count(2), 6);
            due("a MISS", x.read(900), content(900));
            due("MISSES", x.count(2), 7);
            due("it is in the CACHE then", x.block(900, 1), content(900));
        });
        says("I.", "Then what its STREAM does; the TRACE has b behind (the last 400).", () -> {
            AheadPlanner x = read(three(), 103);
            due("STEP", x.stream(0, 1), 103);
            due("the TRACE", x.trace(0), 103);
            due("and ahead of it", x.trace(1), 707);
            due("its length", x.count(16), 7);
        });
    }

    private static void streams() {
        says("II.", "II. A STREAM, in one of TABLE places (0 on): a NUMBER (0, 1, .. as they come), LAST, STRIDE (0: none)", () -> {
            AheadPlanner x = three();
            int[] last = {102, 500, 707};
            int[] stride = {1, 0, -3};
            for (int place = 0; place < 3; place++) {
                due("NUMBER", x.stream(place, 0), place);
                due("LAST", x.stream(place, 1), last[place]);
                due("STRIDE", x.stream(place, 2), stride[place]);
            }
            due("free", x.stream(3, 0), MIN);
        });
    }

    private static void stepsAndPairs() {
        says("II.", "STEP: of the STREAMS with a STRIDE and LAST and STRIDE being b", () -> {
            AheadPlanner x = three();
            due("STEP of 0", x.would(103, 0) * 10 + x.would(103, 2), 10);
            due("STEP of 2", x.would(704, 0) * 10 + x.would(704, 2), 12);
            due("501 is a PAIR of 1, that has none", x.would(501, 0) * 10 + x.would(501, 2), 31);
            due("710 is not ahead of 2", x.would(710, 0), 4);
        });
        says("II.", "PAIR: of the STREAMS without a STRIDE from whose LAST b is no farther than REACH", () -> {
            AheadPlanner x = three();
            due("near 1", x.would(510, 0) * 10 + x.would(510, 2), 31);
            due("near 0, but that has a STRIDE", x.would(106, 0) * 10 + x.would(106, 2), 43);
        });
        says("II.", "STRIDE is b less LAST, PROOF 1, LAST b.", () -> {
            AheadPlanner x = read(three(), 493);
            due("STRIDE", x.stream(1, 2), -7);
            due("PROOF", x.stream(1, 3), 1);
            due("LAST", x.stream(1, 1), 493);
            due("not PROVED", x.stream(1, 4), 0);
        });
        says("II.", "Behind STEP or PAIR: if it is not PROVED, and PROOF is NEED or more, it is", () -> {
            due("behind PAIR", read(with(NEED, 1), 50, 53).stream(0, 4), 2);
            due("behind STEP", read(with(NEED, 2), 50, 53, 56).stream(0, 4), 2);
            AheadPlanner x = read(with(NEED, 2), 50, 53, 53, 53);
            due("not behind AGAIN", x.stream(0, 4), 0);
            due("AGAIN is no PROOF", x.stream(0, 3), 1);
        });
        says("II.", "If it was PROVED: if b is its MARKER, WINDOW is twice it, MOST at most, and a BATCH; else,", () -> {
            AheadPlanner x = read(three(), 103);
            due("103 was the MARKER: WINDOW", x.stream(0, 4), 4);
            due("a BATCH", x.count(9), 2);
            due("EDGE", x.stream(0, 5), 108);
            due("MARKER", x.stream(0, 6), 105);
            x.read(104);
            due("104 is none: WINDOW", x.stream(0, 4), 4);
            due("no BATCH", x.count(9), 2);
            due("EDGE", x.stream(0, 5), 108);
        });
    }

    private static void batches() {
        says("II.", "If one goes that is WASTED, the STREAM for which it was FETCHED", () -> {
            // WINDOW 8; 13, 14 AHEAD are all that half of ROOM allows.
            AheadPlanner x = read(with(ROOM, 4, FIRST_WINDOW, 8), 10, 11, 12);
            due("WINDOW", x.stream(0, 4), 8);
            due("in the CACHE", x.count(10), 4);
            // 11 and 12 go by these; then 13, AHEAD.
            read(x, 500, 600);
            due("none WASTED", x.count(6), 0);
            x.read(700);
            due("WASTED", x.count(6), 1);
            due("of STREAM 0", x.stream(0, 11), 1);
            due("half its WINDOW", x.stream(0, 4), 4);
            due("the LOG", x.log(0, 2) * 10 + x.log(0, 3), 84);
        });
    }

    private static void joined() {
        says("II.", "of each other STREAM, by its place, that has the STRIDE (not 0) and the LAST of the one whose the READ was, "
                + "and that one, the one of the greater NUMBER goes", () -> {
            AheadPlanner x = read(new AheadPlanner(), 10, 11, 12);
            x.advise(13, 2);
            x.advise(13, 1);
            x.read(13);
            due("STREAM 0, whose the READ was, is there", x.stream(0, 1), 13);
            due("STREAM 1 has another STRIDE", x.stream(1, 1), 13);
            due("STREAM 2 went", x.stream(2, 0), MIN);
            due("JOINED", x.count(19), 1);
            AheadPlanner y = new AheadPlanner();
            y.advise(13, 1);
            read(y, 10, 11, 12, 13);
            due("STREAM 0 is there", y.stream(0, 0), 0);
            due("STREAM 1, whose the READ was, went", y.stream(1, 0), MIN);
            due("whose it was", y.whose(0, 0), 1);
            due("JOINED", y.count(19), 1);
        });
    }

    private static void idle() {
        says("II.", "IDLE: once: of the PROVED STREAMS the one whose WINDOW is most above how many BLOCKS in the CACHE are AHEAD", () -> {
            AheadPlanner x = three();
            x.drop(103);
            x.drop(104);
            due("WINDOW 1 by now", x.stream(0, 4), 1);
            due("one", x.idle(5), 1);
            due("behind EDGE", x.aheadOf(0, 0), 105);
        });
        says("II.", "(by 1 at least, the first of like ones), whose next BLOCK", () -> {
            AheadPlanner x = new AheadPlanner();
            x.advise(10, 1);
            x.advise(50, 1);
            due("nothing lacks", x.idle(1), 0);
            // 12 and 52 are no STEPS of these: each lacks 1 of its WINDOW of 2 then.
            read(x, 12, 52);
            due("one", x.idle(1), 1);
            due("the first of like ones", x.block(13, 4), 0);
            due("not the other", x.block(53, 1), NONE);
            due("one", x.idle(1), 1);
            due("the other then", x.block(53, 4), 1);
            due("nothing lacks", x.idle(1), 0);
        });
        says("II.", "that is FETCHED, AHEAD, for it, and its EDGE then.", () -> {
            AheadPlanner x = three();
            x.drop(103);
            x.idle(1);
            due("nothing: WINDOW 1, and 104 is AHEAD", x.count(30), 0);
            x.drop(104);
            x.idle(1);
            due("FETCHED", x.block(105, 1), content(105));
            due("AHEAD", x.block(105, 3), 1);
            due("for it", x.block(105, 4), 0);
            due("EDGE", x.stream(0, 5), 105);
            due("of IDLE", x.count(30), 1);
        });
    }

    private static void inFull() {
        says("II.", "ADVISED: a STREAM is NEW as by a READ of a BLOCK", () -> {
            AheadPlanner x = three();
            due("the first free place", x.advise(40, 4), 3);
            due("NUMBER", x.stream(3, 0), 3);
            due("LAST", x.stream(3, 1), 40);
            due("no READ", x.count(0), 6);
            due("40 is not FETCHED", x.block(40, 1), NONE);
            due("44 is", x.block(44, 4), 3);
        });
        says("IN FULL", "A READ that finds a BLOCK FETCHED AHEAD of its being DUE is LATE, each such READ", () -> {
            AheadPlanner x = read(with(LAG, 4, MOST, 32), 100, 101, 102, 104, 104);
            due("twice", x.count(32), 2);
            due("4 and 3 were to come", x.count(33), 7);
            due("WINDOW twice twofold", x.stream(0, 4), 8);
        });
        says("IN FULL", "READS gone by since: all READS so far less those so far, with the one that goes on, when it was FETCHED", () -> {
            AheadPlanner x = read(with(LAG, 8), 100, 101, 102);
            due("none by the READ that FETCHED it", x.block(103, 7), 8);
            x.idle(1);
            x.advise(600, 1);
            due("none by advise()", x.block(601, 7), 8);
            x.read(700);
            due("one", x.block(103, 7), 7);
            due("one", x.block(601, 7), 7);
        });
        says("IN FULL", "JOINED are all others with that STRIDE and LAST, by place, one behind the other", () -> {
            AheadPlanner x = read(with(TABLE, 6), 10, 11, 12);
            x.advise(13, 1);
            x.advise(13, 1);
            x.advise(13, 2);
            x.read(13);
            due("two went", x.count(19), 2);
            due("STREAM 0 is there", x.stream(0, 0), 0);
            due("place 1 is free", x.stream(1, 0), MIN);
            due("place 2 is free", x.stream(2, 0), MIN);
            due("STRIDE 2 is there", x.stream(3, 0), 3);
        });
        says("IN FULL", "aheadOf(): those FETCHED for its NUMBER and AHEAD", () -> {
            AheadPlanner x = three();
            x.advise(104, 1);
            due("STREAM 3", x.stream(3, 0), 3);
            due("105 was FETCHED for 3", x.aheadOf(3, 0), 105);
            due("106, too", x.aheadOf(3, 1), 106);
            due("103 for 0", x.aheadOf(0, 0), 103);
            due("104 for 0", x.aheadOf(0, 1), 104);
            due("no more for 0", x.aheadOf(0, 2), NONE);
        });
        says("IN FULL", "replay(), tune(), best(): READS of the TRACE that FAIL now are passed over", () -> {
            AheadPlanner x = read(new AheadPlanner(), 10, 500, 900);
            x.bad(500, true);
            due("MISSES", x.replay(NEED, 2, 2), 2);
            due("FAILED", x.replay(NEED, 2, 3), 1);
            due("READS", x.replay(NEED, 2, 0), 2);
            due("tune", x.tune(2), 2);
            due("best", x.best(NEED, 1), 2);
        });
        says("IN FULL", "one that is never READ again goes ahead of all others, the least BLOCK first.", () -> {
            // By 3, in a CACHE of 2: 2 is never READ again, 1 is.
            due("2 goes", read(new AheadPlanner(), 1, 2, 3, 1).misses(2, 1), 3);
            // By 4: 3 is never READ again, nor is 5; 1 is: it stays.
            due("1 stays", read(new AheadPlanner(), 1, 3, 5, 4, 1).misses(3, 1), 4);
        });
    }

    private static void constants() {
        says("Constants", "`NONE = -1`: There is none; it can't be.", () -> {
            due("NONE", AheadPlanner.NONE, -1);
            AheadPlanner x = new AheadPlanner();
            due("none", x.trace(0), AheadPlanner.NONE);
            due("can't be", x.read(10_000), AheadPlanner.NONE);
        });
    }

    private static void blocks() {
        says("Promise 9", "its STREAM has half its WINDOW likewise): true;", () -> {
            AheadPlanner x = three();
            due("AHEAD", x.drop(104), true);
            due("half", x.stream(0, 4), 1);
            due("not AHEAD", x.drop(500), true);
            due("both went", x.count(10), 6);
            due("one WASTED", x.count(6), 1);
        });
        says("Promise 13", "Of a BLOCK CONTENT on the DISK (what 0), in the CACHE (1; NONE: it is not there), STAMP (2), "
                + "1 if AHEAD, else 0 (3), NUMBER of the STREAM for which it was FETCHED (4; NONE without), "
                + "1 if BAD, else 0 (5), how often TOUCHED (6), how many READS are to come till it is DUE (7", () -> {
            AheadPlanner x = read(with(LAG, 5), 300, 301, 301, 500, 302, 40);
            x.bad(303, true);
            int[] read = {content(301), content(301), 3, 0, NONE, 0, 2, 0};
            int[] ahead = {content(303), content(303), 6, 1, 0, 1, 0, 4};
            int[] outside = {content(77), NONE, NONE, NONE, NONE, 0, NONE, NONE};
            for (int what = 0; what < 8; what++) {
                due("block(301, " + what + ")", x.block(301, what), read[what]);
                due("block(303, " + what + ")", x.block(303, what), ahead[what]);
                due("block(77, " + what + ")", x.block(77, what), outside[what]);
            }
        });
    }

    private static void streamsTold() {
        says("Promise 15", "Of the STREAM in a place NUMBER (what 0), LAST (1), STRIDE (2), PROOF (3), WINDOW (4), EDGE (5), "
                + "MARKER (6; NONE), USED (7), how many BLOCKS in the CACHE are AHEAD for it (8), "
                + "how many were FETCHED AHEAD for it (9)", () -> {
            AheadPlanner x = read(three(), 103);
            x.drop(108);
            // 105 .. 108 were FETCHED by 103 (STAMPS 10 to 13); WINDOW 2 by drop().
            int[] first = {0, 103, 1, 3, 2, 108, 105, 13, 4, 6, 1, 1};
            int[] third = {2, 707, -3, 1, 0, 710, NONE, 8, 0, 0, 0, 0};
            for (int what = 0; what < 12; what++) {
                due("stream(0, " + what + ")", x.stream(0, what), first[what]);
                due("stream(2, " + what + ")", x.stream(2, what), third[what]);
            }
        });
        says("Promise 16", "The i-th BLOCK (0 on) that is AHEAD in the CACHE for the STREAM in a place, "
                + "from LAST on by the way of its STRIDE", () -> {
            AheadPlanner x = with(FIRST_WINDOW, 3);
            x.advise(50, -4);
            x.advise(70, 9);
            int[] down = {46, 42, 38, NONE};
            int[] up = {79, 88, 97, NONE};
            for (int i = 0; i < 4; i++) {
                due("aheadOf(0, " + i + ")", x.aheadOf(0, i), down[i]);
                due("aheadOf(1, " + i + ")", x.aheadOf(1, i), up[i]);
            }
            x.read(42);
            due("without 42", x.aheadOf(0, 1), 38);
        });
    }

    private static void ofTheTrace() {
        says("Promise 17", "MISSES that misses() tells of a CACHE of ROOM (its what 0), less those of the TRACE READ anew", () -> {
            AheadPlanner x = with();
            x.reads(100, 1, 10);
            due("MISSES without", x.misses(16, 0), 10);
            due("MISSES anew", x.replay(ROOM, 16, 2), 3);
            due("gain", x.gain(0), 7);
        });
        says("Promise 17", "of all AHEAD FETCHED how many of a hundred were HITS AHEAD (1), WASTED (2", () -> {
            AheadPlanner x = with(FIRST_WINDOW, 4);
            x.advise(100, 1);
            read(x, 103);
            x.drop(101);
            x.drop(102);
            due("1 of 4", x.gain(1), 25);
            due("2 of 4", x.gain(2), 50);
        });
        says("Promise 18", "The i-th of the LOG, the latest first", () -> {
            AheadPlanner x = read(three(), 103);
            x.drop(108);
            int[][] log = {{7, 0, 4, 2}, {7, 0, 2, 4}, {3, 0, 0, 2}};
            for (int i = 0; i < 3; i++) {
                for (int what = 0; what < 4; what++) {
                    due("log(" + i + ", " + what + ")", x.log(i, what), log[i][what]);
                }
            }
        });
        says("Promise 19", "the i-th piece (0 the eldest): how many READS (what 0), its first BLOCK (1);", () -> {
            AheadPlanner x = three();
            int[][] pieces = {{3, 100}, {1, 500}, {1, 710}, {1, 707}};
            for (int i = 0; i < pieces.length; i++) {
                due("how many", x.piece(i, 0), pieces[i][0]);
                due("the first", x.piece(i, 1), pieces[i][1]);
            }
        });
        says("Promise 20", "NUMBER of the STREAM whose the i-th READ of the TRACE was", () -> {
            AheadPlanner x = three();
            int[] numbers = {2, 2, 1, 0, 0, 0};
            int[] kinds = {3, 4, 4, 1, 3, 4};
            for (int i = 0; i < 6; i++) {
                due("whose(" + i + ", 0)", x.whose(i, 0), numbers[i]);
                due("whose(" + i + ", 1)", x.whose(i, 1), kinds[i]);
            }
        });
        says("Promise 21", "a READ was another STREAM's than the one ahead of it (what 0),", () -> {
            AheadPlanner x = three();
            due("twice", x.mixed(0), 2);
            x.read(103);
            due("thrice", x.mixed(0), 3);
            due("three STREAMS", x.mixed(1), 3);
            due("four of 0", x.mixed(2), 4);
        });
    }

    private static void onPaper() {
        says("Promise 23", "4 NEW (what 0), 1 a HIT, else 0 (1),", () -> {
            leaves("a HIT", THREE, x -> x.would(104, 1), 1);
            leaves("a MISS", THREE, x -> x.would(105, 1), 0);
            leaves("NEW", THREE, x -> x.would(104, 0), 4);
            leaves("AGAIN", THREE, x -> x.would(500, 0), 2);
        });
        says("Promise 24", "On paper: the i-th BLOCK that would be FETCHED AHEAD by a READ of b.", () -> {
            int[] by103 = {105, 106, 107, 108, NONE};
            int[] by704 = {701, 698, NONE, NONE, NONE};
            for (int k = 0; k < 5; k++) {
                int i = k;
                leaves("plan(103, " + i + ")", THREE, x -> x.plan(103, i), by103[i]);
                leaves("plan(704, " + i + ")", THREE, x -> x.plan(704, i), by704[i]);
            }
            leaves("by a READ of 500", THREE, x -> x.plan(500, 0), NONE);
        });
        says("Promise 25", "On paper: all that is in the TRACE READ anew, in order, from an empty CACHE, without STREAMS", () -> {
            AheadPlanner x = three();
            x.stop(0);
            x.drop(100);
            due("STREAMS", x.replay(LAG, 0, 12), 3);
            due("PROVED", x.replay(LAG, 0, 13), 1);
            due("in the CACHE", x.replay(LAG, 0, 10), 8);
            leaves("MISSES", THREE, y -> y.replay(LAG, 0, 2), 6);
        });
        says("Promise 25", "(the DISK as it is), with a TERM being v: what count() would tell.", () -> {
            AheadPlanner x = three();
            x.bad(104, true);
            due("104 is not FETCHED", x.replay(LAG, 0, 5), 1);
            due("BAD", x.replay(LAG, 0, 18), 1);
            due("with NEED 1", x.replay(NEED, 1, 5), 4);
            due("with NEED 3", x.replay(NEED, 3, 5), 0);
            due("with FIRST 1, MISSES", x.replay(FIRST_WINDOW, 1, 2), 6);
            due("with TABLE 1", x.replay(TABLE, 1, 12), 1);
        });
        says("Promise 26", "On paper: n rounds (1 .. 20) in which each PROVED STREAM by its place has its next BLOCK READ", () -> {
            AheadPlanner x = three();
            due("0 alone is PROVED", x.forecast(3, 0), 3);
            x.advise(40, 4);
            due("0 and 3", x.forecast(3, 0), 6);
            due("all of them HITS", x.forecast(3, 1), 6);
            leaves("nothing happens", THREE, y -> y.forecast(20, 0), 20);
        });
    }

    private static void paperOfTheTrace() {
        says("Promise 27", "On paper: of all NEED, FIRST that by which the TRACE READ anew has the fewest MISSES", () -> {
            Consumer<AheadPlanner> ten = x -> x.reads(100, 1, 10);
            leaves("NEED", ten, x -> x.tune(0), 1);
            leaves("FIRST", ten, x -> x.tune(1), 1);
            leaves("MISSES", ten, x -> x.tune(2), 2);
        });
        says("Promise 27", "NEED (what 0), FIRST (1), MISSES (2).", () -> {
            // By NEED 1 the way from 0 to 10 FETCHES what is not READ; ROOM 4 makes that dear.
            AheadPlanner x = with(ROOM, 4);
            read(x, 0, 10, 1, 11, 0, 10, 1, 11);
            int least = MAX;
            int need = 0;
            int first = 0;
            for (int n = 4; n >= 1; n--) {
                for (int f = 8; f >= 1; f--) {
                    AheadPlanner y = with(ROOM, 4, NEED, n, FIRST_WINDOW, f);
                    read(y, 0, 10, 1, 11, 0, 10, 1, 11);
                    if (y.count(2) <= least) {
                        least = y.count(2);
                        need = n;
                        first = f;
                    }
                }
            }
            due("NEED", x.tune(0), need);
            due("FIRST", x.tune(1), first);
            due("MISSES", x.tune(2), least);
        });
        says("Promise 29", "How many MISSES the TRACE would have by a CACHE of c (1 .. 64), empty at first, without reading ahead", () -> {
            AheadPlanner x = read(new AheadPlanner(), 1, 2, 3, 1, 2, 3);
            due("of 2, not READ for longest", x.misses(2, 0), 6);
            due("of 2, READ again last", x.misses(2, 1), 4);
            due("of 3", x.misses(3, 0), 3);
            due("of 3", x.misses(3, 1), 3);
        });
        says("Promise 29", "the one goes that is READ again last, or never, of like ones the least BLOCK (1).", () -> {
            // By 3, in a CACHE of 2: 1 and 2 are never READ again; whichever goes, four are MISSES.
            due("never", read(new AheadPlanner(), 2, 1, 3, 4).misses(2, 1), 4);
            due("last", read(new AheadPlanner(), 2, 1, 3, 1, 2).misses(2, 1), 4);
        });
    }

    private static void rowsAndHabits() {
        says("Promise 30", "The longest row of READS in the TRACE (any others between), each d", () -> {
            AheadPlanner x = read(new AheadPlanner(), 10, 700, 13, 16, 5, 16, 19, 11);
            due("10 13 16 19", x.row(3, 0), 4);
            due("from 10", x.row(3, 1), 10);
            due("10 5, and 16 11", x.row(-5, 0), 2);
            due("10 5 ends first", x.row(-5, 1), 10);
        });
        says("Promise 30", "more than the one ahead of it: how many (what 0),", () -> {
            AheadPlanner x = read(new AheadPlanner(), 19, 16, 13, 10);
            due("none by 3", x.row(3, 0), 1);
            due("four by -3", x.row(-3, 0), 4);
        });
        says("Promise 32", "How many READS of the STREAM in a place, STEP by STEP", () -> {
            AheadPlanner x = read(three(), 103);
            // MARKER 105.
            due("two", x.until(0), 2);
            x.read(104);
            due("one", x.until(0), 1);
            due("before its PROOF", x.until(2), 1);
        });
        says("Promise 34", "How many unlike BLOCKS are in the TRACE (what 0);", () -> {
            AheadPlanner x = read(three(), 500, 100, 103);
            due("seven", x.habits(0), 7);
            due("of nine READS", x.count(16), 9);
        });
    }

    private static void counts() {
        says("Promise 35", "14 STREAMS that came, 15 the latest STAMP,", () -> {
            AheadPlanner x = three();
            x.stop(1);
            due("three came", x.count(14), 3);
            due("8", x.count(15), 8);
            x.advise(40, 4);
            due("four came", x.count(14), 4);
            due("44 and 48 have STAMPS", x.count(15), 10);
        });
        says("Promise 35", "19 STREAMS JOINED,", () -> {
            AheadPlanner x = three();
            due("none", x.count(19), 0);
            x.advise(103, 1);
            due("none", x.count(19), 0);
            x.read(103);
            due("one", x.count(19), 1);
        });
        says("Promise 35", "30 BLOCKS FETCHED by IDLE,", () -> {
            AheadPlanner x = with(FIRST_WINDOW, 3);
            x.advise(40, 4);
            due("none", x.count(30), 0);
            x.read(48);
            due("one", x.idle(20), 1);
            due("one", x.count(30), 1);
            due("AHEAD FETCHED by all", x.count(5), 4);
        });
    }
}
