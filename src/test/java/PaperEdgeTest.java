import java.util.function.Consumer;

/** The boundary cases of promises 17 to 35: what is told of the trace and the log, what is on paper, and the counts. */
public final class PaperEdgeTest extends Edges {
    private static final Consumer<AheadPlanner> EMPTY = x -> { };
    private static final Consumer<AheadPlanner> SOMETHING = x -> {
        x.write(3, 5);
        x.bad(4, true);
        x.read(4);
        x.read(500);
        x.reads(10, 1, 4);
        x.keep(1);
    };
    // 0 .. 439, so that 40 .. 439 are in the trace, which has gone round.
    private static final Consumer<AheadPlanner> LONG = x -> {
        for (int i = 0; i < 11; i++) {
            x.reads(40 * i, 1, 40);
        }
    };

    public static void main(String[] args) {
        gain();
        log();
        piece();
        pieceOfNone();
        whose();
        mixed();
        trace();
        would();
        plan();
        replay();
        forecast();
        tune();
        best();
        misses();
        row();
        pace();
        until();
        ahead();
        habits();
        count();
        end();
    }

    private static AheadPlanner of(Consumer<AheadPlanner> run) {
        AheadPlanner x = new AheadPlanner();
        run.accept(x);
        return x;
    }

    private static void gain() {
        says("Promise 17", "less those of the TRACE READ anew (as replay() with ROOM as it is) (what 0)", () -> {
            leaves("empty", EMPTY, x -> x.gain(0), 0);
            leaves("400 MISSES less 3", LONG, x -> x.gain(0), 397);
            AheadPlanner x = read(with(ROOM, 4, REACH, 1), 100, 200, 300, 400, 500, 100);
            due("ROOM as it is: 6 less 6", x.gain(0), 0);
            // Reading ahead may cost: 12, 13 push out 1000 and 2000.
            AheadPlanner y = read(with(ROOM, 4, NEED, 1), 1000, 2000, 10, 11, 1000, 2000);
            due("below 0", y.gain(0), -2);
        });
        says("Promise 17", "(2; downwards; NONE both without any)", () -> {
            AheadPlanner x = read(with(), 10);
            due("HITS AHEAD of none", x.gain(1), NONE);
            due("WASTED of none", x.gain(2), NONE);
            AheadPlanner y = with(FIRST_WINDOW, 3);
            y.advise(10, 1);
            due("none of three", y.gain(1) + y.gain(2), 0);
            y.read(12);
            due("one of three, downwards", y.gain(1), 33);
            y.drop(13);
            due("one of three, downwards", y.gain(2), 33);
            y.drop(11);
            due("two of three, downwards", y.gain(2), 66);
            AheadPlanner z = with(SIZE, 12);
            z.advise(10, 1);
            z.read(11);
            due("one of one", z.gain(1), 100);
        });
        says("Promise 17", "Integer.MIN_VALUE: others.", () -> {
            for (int what : new int[] {MIN, -1, 3, MAX}) {
                leaves("gain(" + what + ")", EMPTY, x -> x.gain(what), MIN);
                leaves("gain(" + what + ")", SOMETHING, x -> x.gain(what), MIN);
            }
        });
    }

    private static void log() {
        says("Promise 18", "the latest first: READS (what 0), NUMBER (1), WINDOW ahead (2), then (3). NONE.", () -> {
            due("empty", new AheadPlanner().log(0, 0), NONE);
            AheadPlanner x = of(SOMETHING);
            int[] latest = {5, 1, 2, 4};
            int[] eldest = {4, 1, 0, 2};
            for (int what = 0; what < 4; what++) {
                due("log(0, " + what + ")", x.log(0, what), latest[what]);
                due("log(1, " + what + ")", x.log(1, what), eldest[what]);
                for (int i : new int[] {MIN, -1, 2, 40, MAX}) {
                    due("log(" + i + ", " + what + ")", x.log(i, what), NONE);
                }
            }
            for (int what : new int[] {MIN, -1, 4, MAX}) {
                due("log(0, " + what + ")", x.log(0, what), NONE);
            }
        });
    }

    private static void piece() {
        says("Promise 19", "The TRACE cut where a READ is not of the BLOCK behind the one ahead", () -> {
            // 9 10 | 10 | 9 | 11 12 | 0
            AheadPlanner x = read(new AheadPlanner(), 9, 10, 10, 9, 11, 12, 0);
            int[][] pieces = {{2, 9}, {1, 10}, {1, 9}, {2, 11}, {1, 0}};
            for (int i = 0; i < pieces.length; i++) {
                due("piece(" + i + ", 0)", x.piece(i, 0), pieces[i][0]);
                due("piece(" + i + ", 1)", x.piece(i, 1), pieces[i][1]);
            }
            due("pieces", x.piece(NONE, 0), 5);
            due("the longest", x.piece(NONE, 1), 2);
            AheadPlanner y = of(LONG);
            due("one piece", y.piece(NONE, 0), 1);
            due("of 400", y.piece(NONE, 1), 400);
            due("of 400", y.piece(0, 0), 400);
            due("from 40 on", y.piece(0, 1), 40);
            AheadPlanner z = read(new AheadPlanner(), 0);
            due("one READ, of BLOCK 0", z.piece(NONE, 0) * 10 + z.piece(0, 1), 10);
        });
        says("Promise 19", "NONE: others.", () -> {
            AheadPlanner x = of(SOMETHING);
            due("pieces", x.piece(NONE, 0), 2);
            for (int what : new int[] {0, 1}) {
                for (int i : new int[] {MIN, -2, 2, 3, MAX}) {
                    due("piece(" + i + ", " + what + ")", x.piece(i, what), NONE);
                }
                due("empty", new AheadPlanner().piece(0, what), NONE);
            }
            for (int what : new int[] {MIN, -1, 2, MAX}) {
                due("piece(0, " + what + ")", x.piece(0, what), NONE);
                due("piece(-1, " + what + ")", x.piece(NONE, what), NONE);
            }
        });
    }

    private static void pieceOfNone() {
        says("Promise 19", "i NONE: how many pieces (what 0), the longest (1)", () -> {
            due("empty", of(EMPTY).piece(NONE, 0), 0);
            due("empty", of(EMPTY).piece(NONE, 1), 0);
            due("one READ", read(with(), 9_999).piece(NONE, 0), 1);
            due("one READ", read(with(), 9_999).piece(NONE, 1), 1);
            due("the longest is the last", read(with(), 9_999, 0, 1).piece(NONE, 1), 2);
            due("9,999, 0 is no step", read(with(), 9_999, 0).piece(NONE, 0), 2);
        });
    }

    private static void whose() {
        says("Promise 20", "(the latest first; what 0), how it was found (1: as would()). NONE: others.", () -> {
            due("empty", new AheadPlanner().whose(0, 0), NONE);
            AheadPlanner x = of(SOMETHING);
            due("the latest: a STEP", x.whose(0, 0) * 10 + x.whose(0, 1), 11);
            due("the eldest: NEW", x.whose(4, 0) * 10 + x.whose(4, 1), 4);
            for (int i : new int[] {MIN, -1, 5, 400, MAX}) {
                due("whose(" + i + ", 0)", x.whose(i, 0), NONE);
                due("whose(" + i + ", 1)", x.whose(i, 1), NONE);
            }
            for (int what : new int[] {MIN, -1, 2, MAX}) {
                due("whose(0, " + what + ")", x.whose(0, what), NONE);
            }
            AheadPlanner y = of(LONG);
            due("the eldest of 400", y.whose(399, 1), 1);
            due("none behind", y.whose(400, 1), NONE);
        });
    }

    private static void mixed() {
        says("Promise 21", "How often in the TRACE a READ was another STREAM's than the one ahead of it", () -> {
            due("one READ", read(with(), 10).mixed(0), 0);
            due("one STREAM", of(LONG).mixed(0), 0);
            due("each another", read(with(), 1000, 2000, 1000, 2000).mixed(0), 3);
        });
        says("Promise 21", "of how many STREAMS READS are in it (1), the most READS of one of them (2)", () -> {
            due("one", of(LONG).mixed(1), 1);
            due("all 400", of(LONG).mixed(2), 400);
            // Of the first STREAM no READ is left in the TRACE.
            AheadPlanner x = new AheadPlanner();
            x.reads(5000, 0, 40);
            LONG.accept(x);
            due("one is left", x.mixed(1), 1);
            due("none between", x.mixed(0), 0);
            due("400", x.mixed(2), 400);
            due("one of one", read(with(), 10).mixed(2), 1);
            due("one READ each", read(with(), 1000, 2000, 3000).mixed(1), 3);
            due("one READ each", read(with(), 1000, 2000, 3000).mixed(2), 1);
            due("the first has two", read(with(), 1000, 1000, 2000).mixed(1) * 10 + read(with(), 1000, 1000, 2000).mixed(2), 22);
        });
        says("Promise 21", "NONE: others.", () -> {
            for (int what : new int[] {MIN, -1, 3, MAX}) {
                due("mixed(" + what + ")", of(SOMETHING).mixed(what), NONE);
                due("empty: mixed(" + what + ")", of(EMPTY).mixed(what), NONE);
            }
        });
    }

    private static void trace() {
        says("Promise 22", "The i-th BLOCK of the TRACE, the latest first. NONE.", () -> {
            due("empty", new AheadPlanner().trace(0), NONE);
            AheadPlanner x = read(new AheadPlanner(), 0);
            due("0", x.trace(0), 0);
            due("none behind", x.trace(1), NONE);
            AheadPlanner y = of(LONG);
            due("the latest", y.trace(0), 439);
            due("the eldest", y.trace(399), 40);
            for (int i : new int[] {MIN, -1, 400, MAX}) {
                due("trace(" + i + ")", y.trace(i), NONE);
            }
        });
    }

    private static void would() {
        says("Promise 23", "0 it FAILS, 1 STEP, 2 AGAIN, 3 PAIR, 4 NEW (what 0)", () -> {
            int[][] kinds = {{4, 0}, {14, 1}, {13, 2}, {505, 3}, {517, 4}, {484, 3}, {483, 4}, {0, 4}, {9_999, 4}};
            for (int[] k : kinds) {
                leaves("would(" + k[0] + ", 0)", SOMETHING, x -> x.would(k[0], 0), k[1]);
            }
            leaves("empty", EMPTY, x -> x.would(0, 0), 4);
        });
        says("Promise 23", "On paper: were b READ", () -> {
            for (int what = 0; what <= 5; what++) {
                int w = what;
                for (int b : new int[] {4, 13, 14, 15, 505, 9_000}) {
                    changesNothingBut("would(" + b + ", " + what + ")", SOMETHING, x -> x.would(b, w));
                }
                changesNothingBut("would(440, " + what + ")", LONG, x -> x.would(440, w));
            }
            AheadPlanner x = of(SOMETHING);
            x.would(14, 3);
            x.again(1);
            due("kept states, too", x.count(0), 5);
        });
        says("Promise 23", "NONE: no such BLOCK, others.", () -> {
            for (int b : new int[] {MIN, -1, 10_000, MAX}) {
                for (int what = 0; what <= 5; what++) {
                    due("would(" + b + ", " + what + ")", of(SOMETHING).would(b, what), NONE);
                }
            }
            for (int what : new int[] {MIN, -1, 6, MAX}) {
                due("would(14, " + what + ")", of(SOMETHING).would(14, what), NONE);
                due("would(4, " + what + ")", of(SOMETHING).would(4, what), NONE);
            }
            due("SIZE", with(SIZE, 20).would(20, 0), NONE);
            due("less 1", with(SIZE, 20).would(19, 0), 4);
        });
        says("Promise 23", "place of its STREAM (2; NONE if it FAILS, or if that is JOINED away)", () -> {
            due("the first place", of(EMPTY).would(0, 2), 0);
            due("FAILS", of(SOMETHING).would(4, 2), NONE);
            AheadPlanner x = with(TABLE, 6);
            x.reads(0, 1000, 5);
            due("the last place", x.would(9_000, 2), 5);
            x.advise(9_000, 1);
            due("AGAIN, in the last place", x.would(9_000, 2), 5);
            x.stop(0);
            x.advise(8_999, 1);
            due("JOINED away", x.would(9_000, 2), NONE);
            due("a STEP", x.would(9_000, 0), 1);
        });
        says("Promise 23", "how many BLOCKS would be FETCHED AHEAD (3), SHARED (4), WASTED (5)", () -> {
            AheadPlanner x = with(ROOM, 4, REACH, 1);
            x.advise(10, 1);
            read(x, 100, 200);
            due("full: one that is AHEAD goes", x.would(300, 5), 1);
            due("none is FETCHED AHEAD", x.would(300, 3), 0);
            // By 11, the MARKER, 13 comes for 12, which is WASTED, then 14 for 100; half of ROOM are AHEAD then.
            due("a HIT", x.would(11, 1), 1);
            due("13, 14", x.would(11, 3), 2);
            due("12 goes", x.would(11, 5), 1);
            due("nothing is SHARED", x.would(11, 4), 0);
            // Of what there was so far nothing is told.
            AheadPlanner y = with();
            y.advise(10, 1);
            y.advise(9, 1);
            read(y, 12, 12);
            due("HITS and SHARED so far", y.count(1) * 10 + y.count(7), 21);
            due("a MISS", y.would(5_000, 1), 0);
            due("a HIT", y.would(12, 1), 1);
            due("nothing SHARED by it", y.would(12, 4), 0);
            due("12 SHARED, 13 to 15 FETCHED by 10, the MARKER of the second", y.would(10, 4) * 10 + y.would(10, 3), 13);
        });
    }

    private static void plan() {
        says("Promise 24", "the i-th BLOCK that would be FETCHED AHEAD by a READ of b. NONE.", () -> {
            AheadPlanner x = with(ROOM, 64, MOST, 32, FIRST_WINDOW, 8, LAG, 8);
            x.advise(10, 1);
            read(x, 18, 18);
            // 12 .. 17 are AHEAD still: WINDOW 32, but 26 are FETCHED till half of ROOM are.
            due("the first", x.plan(11, 0), 19);
            due("the last", x.plan(11, 25), 44);
            due("none behind", x.plan(11, 26), NONE);
            for (int i : new int[] {MIN, -1, 32, 33, MAX}) {
                due("plan(11, " + i + ")", x.plan(11, i), NONE);
            }
            for (int b : new int[] {MIN, -1, 10_000, MAX}) {
                due("plan(" + b + ", 0)", x.plan(b, 0), NONE);
            }
            due("none by another READ", x.plan(5_000, 0), NONE);
            AheadPlanner y = with();
            y.advise(10, 1);
            y.drop(11);
            y.bad(11, true);
            due("FAILS", y.plan(11, 0), NONE);
            changesNothingBut("plan(14, 0)", SOMETHING, z -> z.plan(14, 0));
            changesNothingBut("plan(440, 0)", LONG, z -> z.plan(440, 0));
        });
        says("Promise 24", "would be FETCHED AHEAD", () -> {
            // As many as a BATCH may be: WINDOW 32 with nothing AHEAD.
            AheadPlanner x = with(ROOM, 64, MOST, 32, FIRST_WINDOW, 1, LAG, 8, REACH, 1);
            x.advise(10, 1);
            x.bad(12, true);
            x.read(11);
            due("twice by LATE, twice by the MARKER", x.stream(0, 4), 4);
            read(x, 11, 11, 11);
            due("MOST", x.stream(0, 4), 32);
            due("EDGE is LAST", x.stream(0, 5), 11);
            x.bad(12, false);
            due("all 32", x.would(12, 3), 32);
            due("the first", x.plan(12, 0), 13);
            due("the last", x.plan(12, 31), 44);
            due("none behind", x.plan(12, 32), NONE);
        });
    }

    private static void replay() {
        says("Promise 25", "from an empty CACHE, without STREAMS, counts as at first", () -> {
            AheadPlanner x = new AheadPlanner();
            x.advise(10, 1);
            for (int what = 0; what <= 33; what++) {
                due("empty TRACE: " + what, x.replay(ROOM, 4, what),
                        what == 20 ? 4 : what > 20 && what < 30 ? FIRST[what - 20] : 0);
            }
            int[] again = {5, 1, 4, 0, 1, 6, 0, 0, 0, 2, 10, 5, 2, 1, 2, 11, 5, 4, 1, 0};
            for (int what = 0; what < again.length; what++) {
                due("replay(1, 2, " + what + ")", of(SOMETHING).replay(NEED, 2, what), again[what]);
            }
        });
        says("Promise 25", "all that is in the TRACE READ anew, in order", () -> {
            AheadPlanner x = of(LONG);
            due("READS: the last 400", x.replay(ROOM, 16, 0), 400);
            due("MISSES", x.replay(ROOM, 16, 2), 3);
            due("TRACE", x.replay(ROOM, 16, 16), 400);
            due("by IDLE none", x.replay(ROOM, 16, 30), 0);
        });
        says("Promise 25", "Integer.MIN_VALUE: no such TERM, v, what", () -> {
            for (int term = 0; term < 10; term++) {
                int t = term;
                AheadPlanner x = of(SOMETHING);
                if (term != SIZE) {
                    due("the least v of " + term, x.replay(term, LOW[term], 0), 5);
                }
                due("the most v of " + term, x.replay(term, HIGH[term], 0), 5);
                for (int v : new int[] {MIN, LOW[term] - 1, HIGH[term] + 1, MAX}) {
                    due("replay(" + term + ", " + v + ", 0)", x.replay(term, v, 0), MIN);
                }
                for (int what : new int[] {MIN, -1, 34, MAX}) {
                    due("replay(" + term + ", .., " + what + ")", x.replay(term, FIRST[term], what), MIN);
                }
                due("the last what", x.replay(term, FIRST[term], 33), 0);
                changesNothingBut("replay(" + term + ", ..)", SOMETHING, y -> y.replay(t, FIRST[t], 0));
            }
            for (int term : new int[] {MIN, -1, 10, MAX}) {
                due("replay(" + term + ", 1, 0)", of(SOMETHING).replay(term, 1, 0), MIN);
            }
            changesNothingBut("replay(0, 4, 2)", LONG, x -> x.replay(ROOM, 4, 2));
        });
        says("Promise 25", "SIZE can't be another one than it is so", () -> {
            AheadPlanner x = of(SOMETHING);
            due("as it is", x.replay(SIZE, 10_000, 0), 5);
            due("another", x.replay(SIZE, 9_999, 0), MIN);
            due("the least", x.replay(SIZE, 1, 0), MIN);
        });
    }

    private static void forecast() {
        says("Promise 26", "n rounds (1 .. 20)", () -> {
            AheadPlanner x = with();
            x.advise(10, 1);
            due("1", x.forecast(1, 0), 1);
            due("20", x.forecast(20, 0), 20);
            x.advise(1000, -1);
            due("1 of two", x.forecast(1, 0), 2);
            due("20 of two", x.forecast(20, 0), 40);
            due("without any", new AheadPlanner().forecast(20, 0), 0);
            due("none PROVED", read(with(), 10, 11).forecast(20, 0), 0);
        });
        says("Promise 26", "(LAST and STRIDE, as they are then; none, if that is no BLOCK)", () -> {
            AheadPlanner x = with(SIZE, 20);
            x.advise(19, 1);
            leaves("at the end", y -> {
                y.sets(SIZE, 20);
                y.advise(19, 1);
            }, y -> y.forecast(20, 0), 0);
            x.advise(0, -1);
            due("at both ends", x.forecast(20, 0), 0);
            x.advise(15, 2);
            due("17, 19", x.forecast(20, 0), 2);
            x.advise(2, -2);
            due("and 0", x.forecast(20, 0), 3);
        });
        says("Promise 26", "in which each PROVED STREAM by its place has its next BLOCK READ", () -> {
            AheadPlanner x = read(with(NEED, 3), 10, 11);
            due("not PROVED", x.forecast(1, 0), 0);
            x.advise(1000, 1);
            due("the PROVED one alone", x.forecast(1, 0), 1);
            AheadPlanner y = with(TABLE, 6);
            for (int i = 0; i < 6; i++) {
                y.advise(1000 * i, 1);
            }
            due("six", y.forecast(1, 0), 6);
            due("six by twenty", y.forecast(20, 0), 120);
            y.stop(5);
            due("five", y.forecast(1, 0), 5);
        });
        says("Promise 26", "how many READS (what 0; none that FAILED), HITS (1), WASTED (2), LATE (3)", () -> {
            AheadPlanner x = with();
            x.advise(10, 1);
            x.bad(13, true);
            due("11, 12; 13 FAILS ever again", x.forecast(20, 0), 2);
            due("HITS", x.forecast(20, 1), 2);
            AheadPlanner y = with(ROOM, 4);
            y.advise(10, 1);
            y.advise(1000, 1);
            due("WASTED by one round", y.forecast(1, 2), 0);
            due("WASTED by two", y.forecast(2, 2), 1);
            AheadPlanner z = with(LAG, 2);
            z.advise(10, 1);
            due("LATE in the first", z.forecast(1, 3), 1);
            due("and the second", z.forecast(2, 3), 2);
        });
        says("Promise 26", "NONE: others.", () -> {
            for (int n : new int[] {MIN, -1, 0, 21, MAX}) {
                leaves("forecast(" + n + ", 0)", SOMETHING, x -> x.forecast(n, 0), NONE);
            }
            for (int what : new int[] {MIN, -1, 4, MAX}) {
                leaves("forecast(1, " + what + ")", SOMETHING, x -> x.forecast(1, what), NONE);
            }
            changesNothingBut("forecast(20, 0)", SOMETHING, x -> x.forecast(20, 0));
            changesNothingBut("forecast(20, 2)", LONG, x -> x.forecast(20, 2));
        });
    }

    private static void tune() {
        says("Promise 27", "of all NEED, FIRST that by which the TRACE READ anew has the fewest MISSES", () -> {
            // 19 is AHEAD by 11 if WINDOW is 8.
            AheadPlanner x = read(with(), 10, 11, 19);
            due("the least NEED", x.tune(0), 1);
            due("the greatest FIRST", x.tune(1), 8);
            due("MISSES", x.tune(2), 2);
            // Four in a ring fill the CACHE: only by NEED 4 nothing is FETCHED that pushes one out.
            AheadPlanner y = with(ROOM, 4);
            for (int i = 0; i < 10; i++) {
                y.reads(10, 1, 4);
            }
            due("the greatest NEED", y.tune(0), 4);
            due("the least FIRST", y.tune(1), 1);
            due("MISSES", y.tune(2), 4);
            due("NEED stays", y.count(21), 2);
        });
        says("Promise 27", "the least NEED of like ones, then the least FIRST", () -> {
            AheadPlanner x = read(with(), 1000, 2000, 3000);
            due("all are like", x.tune(0) * 100 + x.tune(1) * 10 + x.tune(2), 113);
            AheadPlanner y = read(with(), 10, 11, 12, 20);
            due("FIRST 3 and more by NEED 1", y.tune(0) * 100 + y.tune(1) * 10 + y.tune(2), 132);
        });
        says("Promise 27", "NONE: others.", () -> {
            for (int what : new int[] {MIN, -1, 3, MAX}) {
                due("tune(" + what + ")", of(SOMETHING).tune(what), NONE);
                due("empty: tune(" + what + ")", of(EMPTY).tune(what), NONE);
            }
            for (int what = 0; what <= 2; what++) {
                int w = what;
                changesNothingBut("tune(" + what + ")", SOMETHING, x -> x.tune(w));
            }
        });
    }

    private static void best() {
        says("Promise 28", "The v of a TERM by which replay() has the fewest MISSES, the least of like ones (what 0), how many (1).", () -> {
            AheadPlanner x = new AheadPlanner();
            for (int term = 0; term < 10; term++) {
                if (term != SIZE) {
                    due("empty: " + term, x.best(term, 0), LOW[term]);
                    due("empty: " + term, x.best(term, 1), 0);
                }
            }
            AheadPlanner y = with();
            y.reads(0, 200, 10);
            due("the greatest REACH", y.best(REACH, 0), 200);
            due("MISSES", y.best(REACH, 1), 3);
            AheadPlanner z = with();
            z.reads(0, 201, 10);
            due("beyond REACH: all are like", z.best(REACH, 0), 1);
            due("MISSES", z.best(REACH, 1), 10);
            // Six readers, one READ each by turns: with fewer places none of them is seen twice.
            AheadPlanner w = with();
            for (int i = 0; i < 8; i++) {
                w.reads(i, 1000, 6);
            }
            due("the greatest TABLE", w.best(TABLE, 0), 6);
            due("fewer MISSES than READS", w.best(TABLE, 1) < 48, true);
            due("by 5 places all are", w.replay(TABLE, 5, 2), 48);
            AheadPlanner v = read(with(), 10, 11, 12, 13, 14, 15);
            due("the least NEED", v.best(NEED, 0), 1);
            due("MISSES", v.best(NEED, 1), 2);
        });
        says("Promise 28", "NONE: others, SIZE.", () -> {
            for (int term : new int[] {MIN, -1, SIZE, 10, MAX}) {
                leaves("best(" + term + ", 0)", SOMETHING, x -> x.best(term, 0), NONE);
                leaves("best(" + term + ", 1)", SOMETHING, x -> x.best(term, 1), NONE);
            }
            for (int what : new int[] {MIN, -1, 2, MAX}) {
                leaves("best(0, " + what + ")", SOMETHING, x -> x.best(ROOM, what), NONE);
            }
            changesNothingBut("best(1, 0)", SOMETHING, x -> x.best(NEED, 0));
        });
    }

    private static void misses() {
        says("Promise 29", "by a CACHE of c (1 .. 64), empty at first, without reading ahead", () -> {
            AheadPlanner x = of(LONG);
            due("c 1", x.misses(1, 0), 400);
            due("c 64", x.misses(64, 0), 400);
            due("c 64 at best", x.misses(64, 1), 400);
            due("empty TRACE", new AheadPlanner().misses(1, 0), 0);
            due("empty TRACE", new AheadPlanner().misses(64, 1), 0);
            due("READ again at once", read(with(), 10, 10, 10).misses(1, 0), 1);
            due("READ again at once", read(with(), 10, 10, 10).misses(1, 1), 1);
            AheadPlanner y = new AheadPlanner();
            y.read(5000);
            LONG.accept(y);
            y.read(439);
            due("those that left the TRACE are none", y.misses(1, 0), 399);
        });
        says("Promise 29", "the one goes that was not READ for longest (what 0)", () -> {
            AheadPlanner x = read(with(), 100, 200, 100, 300, 100, 200);
            due("200 went for 300, not 100", x.misses(2, 0), 4);
            due("three hold all", x.misses(3, 0), 3);
        });
        says("Promise 29", "the one goes that is READ again last, or never", () -> {
            AheadPlanner x = read(with(), 100, 200, 300, 100, 200, 300, 100);
            due("not READ for longest", x.misses(2, 0), 7);
            due("READ again last", x.misses(2, 1), 5);
            due("the one READ again last is the greater BLOCK", read(with(), 200, 100, 300, 100, 300, 200).misses(2, 1), 4);
            due("the one READ again last is the lesser BLOCK", read(with(), 100, 200, 300, 200, 300, 100).misses(2, 1), 4);
        });
        says("Promise 29", "NONE: others.", () -> {
            for (int c : new int[] {MIN, -1, 0, 65, MAX}) {
                leaves("misses(" + c + ", 0)", SOMETHING, x -> x.misses(c, 0), NONE);
                leaves("misses(" + c + ", 1)", SOMETHING, x -> x.misses(c, 1), NONE);
            }
            for (int what : new int[] {MIN, -1, 2, MAX}) {
                leaves("misses(1, " + what + ")", SOMETHING, x -> x.misses(1, what), NONE);
            }
        });
    }

    private static void row() {
        says("Promise 30", "each d (-10,000 .. 10,000, not 0) more than the one ahead of it", () -> {
            AheadPlanner x = read(with(), 0, 9_999);
            due("9,999", x.row(9_999, 0), 2);
            due("begins with", x.row(9_999, 1), 0);
            due("10,000", x.row(10_000, 0), 1);
            due("-10,000", x.row(-10_000, 0), 1);
            due("-9,999", x.row(-9_999, 0), 1);
            AheadPlanner y = read(with(), 9_999, 0);
            due("-9,999", y.row(-9_999, 0), 2);
            due("begins with", y.row(-9_999, 1), 9_999);
            due("1", of(LONG).row(1, 0), 400);
            due("begins with what is left in the TRACE", of(LONG).row(1, 1), 40);
            due("399 on", of(LONG).row(399, 0), 2);
            due("400 on", of(LONG).row(400, 0), 1);
            due("-1", of(LONG).row(-1, 0), 1);
            for (int d : new int[] {MIN, -10_001, 0, 10_001, MAX}) {
                leaves("row(" + d + ", 0)", SOMETHING, z -> z.row(d, 0), NONE);
                leaves("row(" + d + ", 1)", SOMETHING, z -> z.row(d, 1), NONE);
            }
        });
        says("Promise 30", "the BLOCK with which it begins (1; of several the one that ends first)", () -> {
            due("of one each", read(with(), 70, 50, 60).row(1, 1), 70);
            due("11 ends ahead of 21", read(with(), 20, 10, 11, 21).row(1, 1), 10);
            due("21 ends ahead of 11", read(with(), 20, 10, 21, 11).row(1, 1), 20);
            due("the same one twice", read(with(), 10, 11, 10, 11).row(1, 0), 2);
            due("begins with", read(with(), 10, 11, 10, 11).row(1, 1), 10);
        });
        says("Promise 30", "NONE: nothing in the TRACE, others.", () -> {
            for (int what = 0; what <= 1; what++) {
                due("empty", of(EMPTY).row(1, what), NONE);
                due("all FAILED", of(x -> {
                    x.bad(4, true);
                    x.read(4);
                }).row(1, what), NONE);
            }
            for (int what : new int[] {MIN, -1, 2, MAX}) {
                leaves("row(1, " + what + ")", SOMETHING, x -> x.row(1, what), NONE);
            }
            changesNothingBut("row(1, 0)", LONG, x -> x.row(1, 0));
        });
    }

    private static void pace() {
        says("Promise 31", "The d of -64 .. 64 (not 0) with the longest row()", () -> {
            due("64", read(with(), 0, 64, 128).pace(0), 64);
            due("three", read(with(), 0, 64, 128).pace(1), 3);
            due("-64", read(with(), 128, 64, 0).pace(0), -64);
            due("65 is beyond: all are like", read(with(), 0, 65, 130).pace(0), 1);
            due("one", read(with(), 0, 65, 130).pace(1), 1);
            due("-65 is beyond", read(with(), 130, 65, 0).pace(0), 1);
            due("0 is none", read(with(), 10, 10, 10).pace(1), 1);
            due("400", of(LONG).pace(1), 400);
        });
        says("Promise 31", "of like ones the least without sign, then the one above 0 (what 0), how many (1)", () -> {
            due("5 ahead of -7", read(with(), 12, 5, 1000, 1005).pace(0), 5);
            due("-5 ahead of 7", read(with(), 5, 12, 1005, 1000).pace(0), -5);
            due("1 and -1 are like", read(with(), 10, 11, 10).pace(0), 1);
            due("-1 and 1 are like", read(with(), 10, 9, 10).pace(0), 1);
            due("-3 alone", read(with(), 10, 7).pace(0), -3);
            due("one READ", read(with(), 10).pace(0) * 10 + read(with(), 10).pace(1), 11);
        });
        says("Promise 31", "NONE: nothing in the TRACE, others.", () -> {
            due("empty", of(EMPTY).pace(0), NONE);
            due("empty", of(EMPTY).pace(1), NONE);
            for (int what : new int[] {MIN, -1, 2, MAX}) {
                leaves("pace(" + what + ")", SOMETHING, x -> x.pace(what), NONE);
            }
            changesNothingBut("pace(0)", LONG, x -> x.pace(0));
        });
    }

    private static void until() {
        says("Promise 32", "STEP by STEP (BAD BLOCKS READ like others), till a BATCH", () -> {
            AheadPlanner x = read(with(NEED, 4), 10, 11);
            x.bad(12, true);
            due("PROOF 1 of 4", x.until(0), 3);
            due("NEED 2: the next", read(with(), 10, 11).until(0), 1);
            AheadPlanner y = with(FIRST_WINDOW, 8);
            y.advise(10, 1);
            due("the MARKER is the next", y.until(0), 1);
            y.read(11);
            due("the next MARKER, 19, is 8 on", y.until(0), 8);
        });
        says("Promise 32", "NONE: no STRIDE, no such STREAM, none before it leaves the DISK.", () -> {
            AheadPlanner x = read(with(), 10);
            due("no STRIDE", x.until(0), NONE);
            for (int place : new int[] {MIN, -1, 1, 5, 6, MAX}) {
                due("until(" + place + ")", x.until(place), NONE);
            }
            AheadPlanner y = read(with(SIZE, 13), 10, 11);
            due("12 is the last, and PROVED there", y.until(0), 1);
            AheadPlanner z = read(with(SIZE, 12), 10, 11);
            due("12 is none", z.until(0), NONE);
            AheadPlanner w = read(with(), 2, 1);
            due("0 is the first, and PROVED there", w.until(0), 1);
            AheadPlanner v = read(with(), 1, 0);
            due("-1 is none", v.until(0), NONE);
            AheadPlanner u = with();
            u.advise(9_999, 1);
            due("the last BLOCK", u.until(0), NONE);
            u.advise(0, -1);
            due("the first BLOCK", u.until(1), NONE);
            x.stop(0);
            due("stopped", x.until(0), NONE);
        });
    }

    private static void ahead() {
        says("Promise 33", "How many BLOCKS of the CACHE have a less STAMP than a BLOCK there.", () -> {
            AheadPlanner x = with(ROOM, 64, REACH, 1);
            x.reads(0, 100, 40);
            x.reads(4000, 100, 24);
            due("the least", x.ahead(0), 0);
            due("the greatest of 64", x.ahead(6300), 63);
            x.read(0);
            due("READ again: the greatest", x.ahead(0), 63);
            due("the least now", x.ahead(100), 0);
            due("the only one", read(with(), 10).ahead(10), 0);
        });
        says("Promise 33", "NONE: it is not there.", () -> {
            due("empty", new AheadPlanner().ahead(0), NONE);
            for (int b : new int[] {MIN, -1, 0, 4, 9, 9_999, 10_000, MAX}) {
                due("ahead(" + b + ")", of(SOMETHING).ahead(b), NONE);
            }
            AheadPlanner x = read(with(), 10);
            x.drop(10);
            due("dropped", x.ahead(10), NONE);
        });
    }

    private static void habits() {
        says("Promise 34", "how many READS lie between the latest two of the BLOCK READ last (1; NONE)", () -> {
            due("none between", read(with(), 10, 10).habits(1), 0);
            due("one between", read(with(), 10, 11, 10).habits(1), 1);
            due("the latest two", read(with(), 10, 11, 10, 11, 12, 10).habits(1), 2);
            due("READ once", read(with(), 10).habits(1), NONE);
            AheadPlanner x = new AheadPlanner();
            LONG.accept(x);
            x.read(41);
            due("from end to end of the TRACE", x.habits(1), 398);
            x.read(41);
            AheadPlanner y = new AheadPlanner();
            LONG.accept(y);
            y.read(40);
            due("the other has left the TRACE", y.habits(1), NONE);
        });
        says("Promise 34", "the BLOCK READ most often, the least of like ones (2), how often (3)", () -> {
            due("like ones", read(with(), 30, 20, 20, 30).habits(2), 20);
            due("how often", read(with(), 30, 20, 20, 30).habits(3), 2);
            due("more often", read(with(), 30, 20, 20, 30, 30).habits(2), 30);
            due("BLOCK 0", read(with(), 10, 0).habits(2), 0);
            due("once each", of(LONG).habits(2), 40);
            due("once each", of(LONG).habits(3), 1);
            AheadPlanner x = new AheadPlanner();
            for (int i = 0; i < 11; i++) {
                x.reads(7, 0, 40);
            }
            due("400 times", x.habits(3), 400);
            due("one BLOCK", x.habits(0), 1);
        });
        says("Promise 34", "how often a READ was of the BLOCK behind the one ahead (4)", () -> {
            due("one READ", read(with(), 10).habits(4), 0);
            due("not downwards, not the same", read(with(), 10, 10, 9).habits(4), 0);
            due("each", of(LONG).habits(4), 399);
            due("all unlike", of(LONG).habits(0), 400);
        });
        says("Promise 34", "NONE: others, an empty TRACE.", () -> {
            for (int what = 0; what <= 4; what++) {
                due("empty: habits(" + what + ")", of(EMPTY).habits(what), NONE);
            }
            for (int what : new int[] {MIN, -1, 5, MAX}) {
                leaves("habits(" + what + ")", SOMETHING, x -> x.habits(what), NONE);
            }
            for (int what = 0; what <= 4; what++) {
                int w = what;
                changesNothingBut("habits(" + what + ")", SOMETHING, x -> x.habits(w));
            }
            // Asked again and by turns: none of it leaves anything behind for the next.
            AheadPlanner x = read(with(), 30, 10, 20, 20, 21);
            for (int turn = 0; turn < 3; turn++) {
                due("unlike", x.habits(0), 4);
                due("unlike", x.habits(0), 4);
                due("most often", x.habits(2), 20);
                due("a row of 10", x.row(10, 0), 2);
                due("a row of -10", x.row(-10, 1), 30);
                due("the pace", x.pace(0), 1);
                due("MISSES at best", x.misses(1, 1), 4);
            }
        });
    }

    private static void count() {
        says("Promise 35", "0 READS (none that FAILED), 1 HITS, 2 MISSES, 3 FAILED", () -> {
            AheadPlanner x = with();
            x.bad(5, true);
            read(x, 5, 6, 6, 5, -1, 10_000);
            due("READS", x.count(0), 2);
            due("HITS", x.count(1), 1);
            due("MISSES", x.count(2), 1);
            due("FAILED", x.count(3), 2);
        });
        says("Promise 35", "10 BLOCKS in the CACHE, 11 of these AHEAD, 12 STREAMS there, 13 of these PROVED", () -> {
            AheadPlanner x = with(ROOM, 4, TABLE, 1);
            due("empty", x.count(10) + x.count(11) + x.count(12) + x.count(13), 0);
            x.advise(10, 1);
            due("two, both AHEAD", x.count(10) * 10 + x.count(11), 22);
            due("one, PROVED", x.count(12) * 10 + x.count(13), 11);
            read(x, 1000, 2000, 3000);
            due("full, one AHEAD", x.count(10) * 10 + x.count(11), 41);
            due("one, not PROVED", x.count(12) * 10 + x.count(13), 10);
            x.stop(0);
            due("none", x.count(12) * 10 + x.count(13), 0);
            due("came", x.count(14), 4);
        });
        says("Promise 35", "16 the TRACE's length, 17 the greatest WINDOW so far", () -> {
            due("400 at most", of(LONG).count(16), 400);
            AheadPlanner x = with(FIRST_WINDOW, 8);
            x.advise(10, 1);
            due("8", x.count(17), 8);
            x.drop(18);
            due("so far", x.stream(0, 4) * 10 + x.count(17), 48);
            x.stop(0);
            due("though it is gone", x.count(17), 8);
            x.sets(FIRST_WINDOW, 1);
            due("as at first", x.count(17), 0);
        });
        says("Promise 35", "20 .. 29 TERMS", () -> {
            AheadPlanner x = with(ROOM, 64, NEED, 4, FIRST_WINDOW, 8, MOST, 32, REACH, 200, SHARE, 100, TABLE, 6, SIZE, 1,
                    POLICY, 2, LAG, 8);
            int[] told = {64, 4, 8, 32, 200, 100, 6, 1, 2, 8};
            for (int term = 0; term < 10; term++) {
                due("count(" + (20 + term) + ")", x.count(20 + term), told[term]);
            }
            due("19 is none of them", x.count(19), 0);
            due("nor is 30", x.count(30), 0);
        });
        says("Promise 35", "4 HITS at a BLOCK AHEAD, 5 AHEAD FETCHED, 6 WASTED, 7 SHARED, 8 HELD, 9 BATCHES (HELD ones, too)", () -> {
            AheadPlanner x = with(SHARE, 0);
            x.advise(10, 1);
            x.advise(9, 1);
            read(x, 12, 12);
            x.drop(11);
            x.drop(12);
            x.advise(500, 1);
            int[] told = {1, 3, 1, 1, 1, 3};
            for (int i = 0; i < told.length; i++) {
                due("count(" + (4 + i) + ")", x.count(4 + i), told[i]);
            }
        });
        says("Promise 35", "18 BAD BLOCKS (of 0 .. SIZE less 1)", () -> {
            AheadPlanner x = new AheadPlanner();
            x.bad(0, true);
            x.bad(99, true);
            x.bad(100, true);
            x.bad(9_999, true);
            due("10,000", x.count(18), 4);
            x.sets(SIZE, 101);
            due("101", x.count(18), 3);
            x.sets(SIZE, 100);
            due("100", x.count(18), 2);
            x.sets(SIZE, 99);
            due("99", x.count(18), 1);
            x.sets(SIZE, 1);
            due("1", x.count(18), 1);
        });
        says("Promise 35", "31 the LOG's length, 32 LATE READS, 33 READS that were to come till these were DUE, together", () -> {
            AheadPlanner x = with(LAG, 8, MOST, 1);
            x.advise(10, 1);
            due("LOG", x.count(31), 1);
            x.reads(11, 0, 9);
            due("LATE", x.count(32), 8);
            due("8 and 7 .. and 1", x.count(33), 36);
            due("LOG", x.count(31), 1);
        });
        says("Promise 35", "NONE: others.", () -> {
            for (int what : new int[] {MIN, -1, 34, MAX}) {
                leaves("count(" + what + ")", EMPTY, x -> x.count(what), NONE);
                leaves("count(" + what + ")", SOMETHING, x -> x.count(what), NONE);
            }
            due("the last", new AheadPlanner().count(33), 0);
        });
    }
}
