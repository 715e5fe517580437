import java.util.function.Consumer;

/** The boundary cases of promises 1 to 16: the calls that change something, and those that look at what is there. */
public final class CallsEdgeTest extends Edges {
    private static final Consumer<AheadPlanner> EMPTY = x -> { };
    private static final Consumer<AheadPlanner> DISK_ONLY = x -> {
        x.write(3, 5);
        x.bad(4, true);
    };
    private static final Consumer<AheadPlanner> SOMETHING = DISK_ONLY.andThen(x -> {
        x.read(4);
        x.read(500);
        x.reads(10, 1, 4);
    });
    // A small disk and cache, all of it full: the trace has run over, the places are taken.
    private static final Consumer<AheadPlanner> FULL = x -> {
        x.sets(SIZE, 100);
        x.sets(ROOM, 8);
        x.sets(LAG, 3);
        for (int i = 0; i < 11; i++) {
            x.reads(7 * i, 1 + i % 3, 40);
            x.advise(9 * i, -1);
        }
        for (int i = 0; i < 20; i++) {
            x.reads(3 * i, 1 - 2 * (i % 2), 12);
        }
    };
    // Something else of everything, to stand between what is kept and its coming back.
    private static final Consumer<AheadPlanner> MORE = x -> {
        x.write(50, 6);
        x.bad(51, true);
        x.read(51);
        x.advise(60, 1);
        x.reads(61, 1, 5);
        x.idle(3);
        x.reads(40, -2, 9);
        x.drop(65);
    };
    private static final int[] NO_BLOCKS = {MIN, -10_000, -1, 10_000, 10_001, MAX};

    public static void main(String[] args) {
        aNewObject();
        calls512();
        sets();
        read();
        reads();
        idle();
        advise();
        write();
        bad();
        drop();
        stop();
        keep();
        again();
        block();
        cached();
        stream();
        aheadOf();
        end();
    }

    private static void aNewObject() {
        says("Promise 1", "As told; nothing READ.", () -> {
            AheadPlanner x = new AheadPlanner();
            for (int what = 0; what <= 33; what++) {
                due("count(" + what + ")", x.count(what), what >= 20 && what < 30 ? FIRST[what - 20] : 0);
            }
            for (int place = 0; place < 6; place++) {
                due("stream(" + place + ", 0)", x.stream(place, 0), MIN);
            }
            due("CACHE", x.cached(0), NONE);
            due("TRACE", x.trace(0), NONE);
            due("LOG", x.log(0, 0), NONE);
            due("0 kept", x.again(0), false);
            due("1 kept", x.again(1), false);
        });
        says("Promise 1", "nothing READ.", () -> {
            AheadPlanner x = read(new AheadPlanner(), 10);
            x.write(10, 1);
            x.keep(0);
            AheadPlanner y = new AheadPlanner();
            due("another one knows nothing of it", y.block(10, 0) == content(10) && y.count(0) == 0, true);
            due("nor of what is kept", y.again(0), false);
        });
    }

    private static void calls512() {
        says("Face", "An object is used for at most 512 calls after it has been made", () -> {
            AheadPlanner x = new AheadPlanner();
            // Twice through the DISK, and on.
            for (int i = 0; i < 511; i++) {
                x.reads(40 * (i % 250), 1, 40);
            }
            due("the 512th", x.count(0), 40 * 511);
            AheadPlanner y = with(REACH, 1);
            for (int i = 0; i < 510; i++) {
                y.read(2 * (i % 1000));
            }
            due("NUMBERS", y.stream(1, 0), 509);
        });
    }

    private static void sets() {
        says("Promise 2", "A TERM (0 ROOM .. 7 SIZE, 8 POLICY, 9 LAG, as in I.) is v: true", () -> {
            for (int what = 0; what < 10; what++) {
                AheadPlanner x = new AheadPlanner();
                int v = FIRST[what] == HIGH[what] ? LOW[what] : HIGH[what];
                due("sets(" + what + ", " + v + ")", x.sets(what, v), true);
                for (int told = 0; told < 10; told++) {
                    due("count(" + (20 + told) + ")", x.count(20 + told), told == what ? v : FIRST[told]);
                }
            }
        });
        says("Promise 2", "CACHE, STREAMS, TRACE, STAMPS, counts are as at first then.", () -> {
            for (int what = 0; what < 10; what++) {
                int which = what;
                int v = FIRST[what] == LOW[what] ? HIGH[what] : LOW[what];
                sameBehind("sets(" + what + ", " + v + ")", SOMETHING.andThen(x -> x.sets(which, v)),
                        DISK_ONLY.andThen(x -> x.sets(which, v)));
            }
            sameBehind("behind a full one", FULL.andThen(x -> x.sets(ROOM, 5)), x -> {
                x.sets(SIZE, 100);
                x.sets(LAG, 3);
                x.sets(ROOM, 5);
            });
            // What comes then is as on a new object, too.
            sameBehind("what is READ then", SOMETHING.andThen(x -> x.sets(ROOM, 5)).andThen(x -> x.reads(10, 1, 9)),
                    DISK_ONLY.andThen(x -> x.sets(ROOM, 5)).andThen(x -> x.reads(10, 1, 9)));
        });
        says("Promise 2", "False, and nothing happens: others, it is so.", () -> {
            for (int what : new int[] {MIN, -1, 10, 20, MAX}) {
                for (int v : new int[] {MIN, -1, 0, 1, 4, MAX}) {
                    refuses("sets(" + what + ", " + v + ")", SOMETHING, x -> x.sets(what, v));
                }
            }
            int[] now = {8, 2, 2, 8, 16, 30, 4, 100, 0, 3};
            for (int what = 0; what < 10; what++) {
                int which = what;
                refuses("sets(" + what + ", " + now[what] + ")", FULL, x -> x.sets(which, now[which]));
                refuses("sets(" + what + ", less)", FULL, x -> x.sets(which, LOW[which] - 1));
                refuses("sets(" + what + ", more)", FULL, x -> x.sets(which, HIGH[which] + 1));
            }
        });
    }

    private static void read() {
        says("Promise 3", "NONE, and nothing happens: no such BLOCK", () -> {
            for (int b : NO_BLOCKS) {
                leaves("read(" + b + ")", EMPTY, x -> x.read(b), NONE);
                leaves("read(" + b + ")", SOMETHING, x -> x.read(b), NONE);
            }
            leaves("read(100)", FULL, x -> x.read(100), NONE);
            leaves("read(-1)", FULL, x -> x.read(-1), NONE);
        });
        says("Promise 3", "-2: it FAILS", () -> {
            AheadPlanner x = new AheadPlanner();
            x.bad(0, true);
            x.bad(9_999, true);
            due("the first BLOCK", x.read(0), -2);
            due("the last BLOCK", x.read(9_999), -2);
            due("FAILED", x.count(3), 2);
            x.bad(0, false);
            due("no more", x.read(0), 13);
        });
        says("Promise 3", "READ: CONTENT.", () -> {
            AheadPlanner x = new AheadPlanner();
            x.write(0, 0);
            due("the least CONTENT", x.read(0), 0);
            x.write(9_999, 1_000_002);
            due("the greatest CONTENT", x.read(9_999), 1_000_002);
        });
    }

    private static void reads() {
        says("Promise 4", "n READS (1 .. 40)", () -> {
            AheadPlanner x = new AheadPlanner();
            due("1", x.reads(10, 1, 1), 0);
            due("READS", x.count(0), 1);
            AheadPlanner y = new AheadPlanner();
            due("40", y.reads(10, 1, 40), 37);
            due("READS", y.count(0), 40);
            due("the last of them", y.trace(0), 49);
        });
        says("Promise 4", "NONE: others.", () -> {
            for (int n : new int[] {MIN, -1, 0, 41, MAX}) {
                leaves("reads(10, 1, " + n + ")", EMPTY, x -> x.reads(10, 1, n), NONE);
                leaves("reads(10, 1, " + n + ")", SOMETHING, x -> x.reads(10, 1, n), NONE);
            }
        });
        says("Promise 4", "those that can't be are passed", () -> {
            AheadPlanner x = with(SIZE, 100);
            due("from below", x.reads(-3, 1, 5), 0);
            due("0 and 1", x.count(0) * 10 + x.trace(0), 21);
            due("beyond the end", x.reads(98, 1, 5), 0);
            due("98 and 99", x.count(0) * 100 + x.trace(0), 499);
            due("between: 90, 100 - no, 5 on by 95", x.reads(5, 95, 2), 0);
            due("5 alone", x.count(0), 5);
            leaves("all below", SOMETHING, y -> y.reads(-40, 1, 40), 0);
            leaves("all beyond", SOMETHING, y -> y.reads(10_000, 1, 40), 0);
            leaves("from MIN down", SOMETHING, y -> y.reads(MIN, -1, 40), 0);
            leaves("from MAX up", SOMETHING, y -> y.reads(MAX, 1, 40), 0);
            leaves("from MIN by MIN", SOMETHING, y -> y.reads(MIN, MIN, 40), 0);
        });
        says("Promise 4", "BLOCKS from, from and by, ..", () -> {
            // A sum beyond int does not come round to a BLOCK.
            AheadPlanner x = new AheadPlanner();
            due("5, then beyond int", x.reads(5, MIN, 3), 0);
            due("one READ", x.count(0), 1);
            due("2, then beyond int", x.reads(2, MAX, 3), 0);
            due("one READ", x.count(0), 2);
            due("by 0: the same one", x.reads(7, 0, 40), 39);
            due("READS", x.count(0), 42);
            due("by -1", x.reads(1, -1, 5), 0);
            due("1 and 0", x.count(0) * 10 + x.trace(0), 440);
        });
        says("Promise 4", "how many HITS", () -> {
            AheadPlanner x = new AheadPlanner();
            x.bad(11, true);
            due("those that FAIL are none", x.reads(10, 1, 3), 0);
            due("FAILED", x.count(3), 1);
            due("READS", x.count(0), 2);
            due("HITS", x.reads(10, 2, 2), 2);
        });
    }

    private static void idle() {
        says("Promise 5", "IDLE n times (1 .. 20), till nothing is FETCHED: how many were.", () -> {
            AheadPlanner x = with(ROOM, 64, MOST, 32, FIRST_WINDOW, 8, LAG, 8);
            x.advise(10, 1);
            read(x, 18, 18);
            due("lacks 25", x.stream(0, 4) - x.stream(0, 8), 25);
            due("1", x.idle(1), 1);
            due("20", x.idle(20), 20);
            due("till nothing is FETCHED", x.idle(20), 4);
            due("32 AHEAD are half of ROOM", x.count(11), 32);
            due("none", x.idle(20), 0);
            leaves("idle(20)", EMPTY, y -> y.idle(20), 0);
            leaves("idle(1)", SOMETHING, y -> y.idle(1), 0);
        });
        says("Promise 5", "NONE: others.", () -> {
            for (int n : new int[] {MIN, -1, 0, 21, MAX}) {
                leaves("idle(" + n + ")", EMPTY, x -> x.idle(n), NONE);
                // One that lacks a BLOCK, so that IDLE would do something.
                leaves("idle(" + n + ")", SOMETHING.andThen(x -> x.read(18)), x -> x.idle(n), NONE);
            }
        });
    }

    private static void advise() {
        says("Promise 6", "ADVISED: its place", () -> {
            AheadPlanner x = with(SIZE, 200);
            due("the first BLOCK, STRIDE 64", x.advise(0, 64), 0);
            due("STRIDE", x.stream(0, 2), 64);
            due("EDGE", x.stream(0, 5), 128);
            due("the last BLOCK, STRIDE -64", x.advise(199, -64), 1);
            due("STRIDE", x.stream(1, 2), -64);
            due("EDGE", x.stream(1, 5), 71);
            due("STRIDE 1", x.advise(50, 1), 2);
            due("STRIDE -1", x.advise(50, -1), 3);
            due("no place is left: the least USED", x.advise(60, 1), 0);
        });
        says("Promise 6", "NONE: no such BLOCK, STRIDE 0 or beyond -64 .. 64.", () -> {
            for (int b : NO_BLOCKS) {
                leaves("advise(" + b + ", 1)", EMPTY, x -> x.advise(b, 1), NONE);
            }
            leaves("advise(100, 1)", FULL, x -> x.advise(100, 1), NONE);
            for (int stride : new int[] {MIN, -200, -65, 0, 65, 200, MAX}) {
                leaves("advise(10, " + stride + ")", SOMETHING, x -> x.advise(10, stride), NONE);
            }
        });
    }

    private static void write() {
        says("Promise 7", "WRITTEN (0 .. 1,000,002): what it was.", () -> {
            AheadPlanner x = with(SIZE, 100);
            due("0 into the first", x.write(0, 0), 13);
            due("it is 0", x.block(0, 0), 0);
            due("1,000,002 into the last", x.write(99, 1_000_002), content(99));
            due("it is 1,000,002", x.block(99, 0), 1_000_002);
            due("what it was", x.write(99, 1), 1_000_002);
            due("the same again", x.write(99, 1), 1);
            due("what was 0", x.write(0, 5), 0);
            due("it is 5", x.block(0, 0), 5);
            x.write(0, 0);
            due("CONTENT 0 is not BAD", x.block(0, 5) + x.count(18), 0);
            due("READ", x.read(0), 0);
            x.bad(50, true);
            due("BAD: what it was", x.write(50, 0), content(50));
            due("BAD: 0", x.block(50, 0) * 10 + x.block(50, 5), 1);
            due("BAD: what was 0", x.write(50, 1_000_002), 0);
            due("BAD: 1,000,002", x.block(50, 0), 1_000_002);
            due("one BAD", x.count(18), 1);
            x.bad(50, false);
            due("BAD no more: 1,000,002", x.read(50), 1_000_002);
        });
        says("Promise 7", "NONE: others.", () -> {
            for (int c : new int[] {MIN, -1, 1_000_003, MAX}) {
                leaves("write(10, " + c + ")", SOMETHING, x -> x.write(10, c), NONE);
            }
            for (int b : NO_BLOCKS) {
                leaves("write(" + b + ", 1)", SOMETHING, x -> x.write(b, 1), NONE);
            }
            AheadPlanner x = with(SIZE, 100);
            due("write(100, 1)", x.write(100, 1), NONE);
            x.sets(SIZE, 101);
            due("100 as it was", x.block(100, 0), content(100));
        });
    }

    private static void bad() {
        says("Promise 8", "A BLOCK is BAD (or no more): true", () -> {
            AheadPlanner x = with(SIZE, 100);
            due("the first", x.bad(0, true), true);
            due("the last", x.bad(99, true), true);
            due("two", x.count(18), 2);
            due("no more", x.bad(0, false), true);
            due("one", x.count(18), 1);
            due("CONTENT is as it was", x.block(99, 0), content(99));
        });
        says("Promise 8", "false: no such one, it is so.", () -> {
            for (int b : NO_BLOCKS) {
                refuses("bad(" + b + ", true)", SOMETHING, x -> x.bad(b, true));
                refuses("bad(" + b + ", false)", SOMETHING, x -> x.bad(b, false));
            }
            refuses("bad(4, true)", SOMETHING, x -> x.bad(4, true));
            refuses("bad(5, false)", SOMETHING, x -> x.bad(5, false));
            AheadPlanner x = with(SIZE, 100);
            due("bad(100, true)", x.bad(100, true), false);
            x.sets(SIZE, 101);
            due("100 as it was", x.block(100, 5), 0);
        });
    }

    private static void drop() {
        says("Promise 9", "A BLOCK goes from the CACHE (WASTED, if it is AHEAD; its STREAM has half its WINDOW likewise)", () -> {
            AheadPlanner x = with(ROOM, 4, REACH, 1, FIRST_WINDOW, 1);
            read(x, 100, 200, 300);
            x.advise(10, 1);
            due("full", x.count(10), 4);
            due("one that was READ", x.drop(200), true);
            due("not WASTED", x.count(6), 0);
            x.read(400);
            due("room for one: none went", x.block(100, 1), content(100));
            due("one AHEAD", x.drop(11), true);
            due("WASTED", x.count(6), 1);
            due("WINDOW 1 at least", x.stream(x.would(11, 2), 4), 1);
            x.drop(100);
            x.drop(300);
            x.drop(400);
            due("empty", x.count(10), 0);
            due("none is left", x.cached(0), NONE);
        });
        says("Promise 9", "false: it is not there.", () -> {
            for (int b : NO_BLOCKS) {
                refuses("drop(" + b + ")", SOMETHING, x -> x.drop(b));
            }
            refuses("empty", EMPTY, x -> x.drop(0));
            refuses("never READ", SOMETHING, x -> x.drop(9));
            refuses("FAILED", SOMETHING, x -> x.drop(4));
            refuses("dropped", SOMETHING.andThen(x -> x.drop(10)), x -> x.drop(10));
            refuses("full", FULL, x -> x.drop(notCached(x)));
        });
    }

    private static int notCached(AheadPlanner x) {
        int b = 0;
        while (x.block(b, 1) != NONE) {
            b++;
        }
        return b;
    }

    private static void stop() {
        says("Promise 10", "The STREAM in a place goes: its NUMBER.", () -> {
            AheadPlanner x = with(TABLE, 6);
            x.reads(0, 1000, 6);
            due("the first", x.stop(0), 0);
            due("the last", x.stop(5), 5);
            due("four are left", x.count(12), 4);
            due("the first place is free", x.would(9_000, 2), 0);
        });
        says("Promise 10", "NONE.", () -> {
            for (int place : new int[] {MIN, -1, 2, 3, 4, 5, 6, 7, MAX}) {
                leaves("stop(" + place + ")", SOMETHING, x -> x.stop(place), NONE);
                leaves("stop(" + place + ")", EMPTY, x -> x.stop(place), NONE);
            }
            leaves("stopped", SOMETHING.andThen(x -> x.stop(1)), x -> x.stop(1), NONE);
        });
    }

    private static void keep() {
        says("Promise 11", "All is kept under k (0, 1): true", () -> {
            for (int k = 0; k <= 1; k++) {
                int kept = k;
                due("keep(" + k + ")", new AheadPlanner().keep(k), true);
                changesNothingBut("keep(" + k + ")", SOMETHING, x -> x.keep(kept));
                changesNothingBut("keep(" + k + ")", FULL, x -> x.keep(kept));
                sameBehind("an empty one under " + k,
                        EMPTY.andThen(x -> x.keep(kept)).andThen(SOMETHING).andThen(x -> x.again(kept)), EMPTY);
                sameBehind("a full one under " + k,
                        FULL.andThen(x -> x.keep(kept)).andThen(MORE).andThen(x -> x.again(kept)), FULL);
                sameBehind("and what comes then " + k,
                        FULL.andThen(x -> x.keep(kept)).andThen(MORE).andThen(x -> x.again(kept)).andThen(MORE),
                        FULL.andThen(MORE));
            }
        });
        says("Promise 11", "false: others.", () -> {
            for (int k : new int[] {MIN, -1, 2, MAX}) {
                refuses("keep(" + k + ")", EMPTY, x -> x.keep(k));
                refuses("keep(" + k + ")", SOMETHING, x -> x.keep(k));
                for (int kept = 0; kept <= 1; kept++) {
                    int other = kept;
                    sameBehind("what is kept under " + kept + " stays", SOMETHING.andThen(x -> {
                        x.keep(other);
                        x.read(700);
                        x.keep(k);
                        x.again(other);
                    }), SOMETHING);
                    AheadPlanner x = new AheadPlanner();
                    x.keep(k);
                    due("nothing is kept by it", x.again(kept), false);
                }
            }
        });
    }

    private static void again() {
        says("Promise 12", "It is as it was kept", () -> {
            for (int k = 0; k <= 1; k++) {
                int kept = k;
                AheadPlanner y = new AheadPlanner();
                y.keep(k);
                due("again(" + k + ")", y.again(k), true);
                due("once more", y.again(k), true);
                sameBehind("the latest under " + k, SOMETHING.andThen(x -> {
                    x.keep(kept);
                    x.read(700);
                    x.keep(kept);
                    x.read(800);
                    x.again(kept);
                    x.read(900);
                    x.again(kept);
                }), SOMETHING.andThen(x -> x.read(700)));
                sameBehind("each its own " + k, SOMETHING.andThen(x -> {
                    x.keep(kept);
                    x.sets(ROOM, 5);
                    x.keep(1 - kept);
                    x.again(kept);
                }), SOMETHING);
                sameBehind("a full one for an empty one " + k,
                        EMPTY.andThen(x -> x.keep(kept)).andThen(FULL).andThen(x -> x.again(kept)).andThen(SOMETHING),
                        SOMETHING);
            }
        });
        says("Promise 12", "false: others, nothing kept.", () -> {
            for (int k : new int[] {MIN, -1, 0, 1, 2, MAX}) {
                refuses("again(" + k + ")", EMPTY, x -> x.again(k));
                refuses("again(" + k + ")", SOMETHING, x -> x.again(k));
            }
            for (int k : new int[] {MIN, -1, 1, 2, MAX}) {
                refuses("0 is kept: again(" + k + ")", SOMETHING.andThen(x -> x.keep(0)).andThen(MORE), x -> x.again(k));
            }
            refuses("1 is kept: again(0)", SOMETHING.andThen(x -> x.keep(1)).andThen(MORE), x -> x.again(0));
        });
    }

    private static void block() {
        says("Promise 13", "in the CACHE (1; NONE: it is not there)", () -> {
            AheadPlanner x = with();
            due("empty", x.block(10, 1), NONE);
            x.read(10);
            due("there", x.block(10, 1), content(10));
            x.write(10, 0);
            due("CONTENT 0", x.block(10, 1), 0);
            x.drop(10);
            due("gone", x.block(10, 1), NONE);
        });
        says("Promise 13", "NUMBER of the STREAM for which it was FETCHED (4; NONE without)", () -> {
            AheadPlanner x = with();
            x.advise(10, 1);
            due("0", x.block(11, 4), 0);
            x.read(500);
            due("without", x.block(500, 4), NONE);
        });
        says("Promise 13", "(7; 0 if it was FETCHED by its READ, or is DUE)", () -> {
            AheadPlanner x = with(LAG, 8);
            x.read(500);
            due("by its READ", x.block(500, 7), 0);
            x.advise(10, 1);
            for (int gone = 0; gone <= 8; gone++) {
                due("gone by " + gone, x.block(11, 7), 8 - gone);
                x.read(500);
            }
            due("DUE for long", x.block(11, 7), 0);
            // Each has its own: though others go from the CACHE, and others come.
            AheadPlanner y = with(LAG, 8);
            y.read(500);
            y.advise(10, 1);
            read(y, 600, 700);
            y.advise(20, 1);
            y.drop(11);
            y.drop(500);
            due("FETCHED two READS ago", y.block(12, 7), 6);
            due("FETCHED just now", y.block(21, 7), 8);
            due("FETCHED just now", y.block(22, 7), 8);
            y.advise(30, 1);
            due("not HELD by 1 of 4 WASTED", y.block(31, 7), 8);
            due("others as they were", y.block(12, 7) * 100 + y.block(21, 7) * 10 + y.block(22, 7), 688);
        });
        says("Promise 13", "NONE: others.", () -> {
            for (int what : new int[] {MIN, -1, 8, MAX}) {
                for (int b : new int[] {10, 15, 4, 9}) {
                    leaves("block(" + b + ", " + what + ")", SOMETHING, x -> x.block(b, what), NONE);
                }
            }
            AheadPlanner x = new AheadPlanner();
            FULL.accept(x);
            for (int what = 0; what <= 7; what++) {
                for (int b : NO_BLOCKS) {
                    due("block(" + b + ", " + what + ")", x.block(b, what), NONE);
                }
                due("block(100, " + what + ")", x.block(100, what), NONE);
            }
            due("the last", x.block(99, 0), content(99));
            due("the first", x.block(0, 0), content(0));
        });
    }

    private static void cached() {
        says("Promise 14", "The i-th BLOCK (0 on) of the CACHE, the least STAMP first. NONE.", () -> {
            AheadPlanner x = with(ROOM, 4, REACH, 1);
            due("empty", x.cached(0), NONE);
            x.read(300);
            due("one", x.cached(0), 300);
            due("no other", x.cached(1), NONE);
            read(x, 200, 100, 400, 300);
            int[] order = {200, 100, 400, 300, NONE};
            for (int i = 0; i < order.length; i++) {
                due("full: cached(" + i + ")", x.cached(i), order[i]);
            }
            for (int i : new int[] {MIN, -1, 64, MAX}) {
                due("cached(" + i + ")", x.cached(i), NONE);
            }
            AheadPlanner y = with(ROOM, 64, REACH, 1);
            y.reads(0, 100, 40);
            y.reads(4000, 100, 24);
            due("the last of 64", y.cached(63), 6300);
            due("none behind", y.cached(64), NONE);
        });
    }

    private static void stream() {
        says("Promise 15", "Integer.MIN_VALUE: none such, others.", () -> {
            for (int place : new int[] {MIN, -1, 2, 3, 4, 5, 6, MAX}) {
                for (int what = 0; what <= 11; what++) {
                    due("stream(" + place + ", " + what + ")", of(SOMETHING).stream(place, what), MIN);
                }
            }
            for (int what : new int[] {MIN, -1, 12, MAX}) {
                for (int place : new int[] {0, 1, 2}) {
                    leaves("stream(" + place + ", " + what + ")", SOMETHING, x -> x.stream(place, what), MIN);
                }
            }
            AheadPlanner x = of(SOMETHING);
            x.stop(1);
            due("stopped", x.stream(1, 0), MIN);
            x.advise(9_000, 1);
            due("in its place", x.stream(1, 0), 2);
            AheadPlanner y = with(TABLE, 6);
            y.reads(0, 1000, 6);
            due("the last place", y.stream(5, 1), 5000);
            due("none behind", y.stream(6, 1), MIN);
        });
        says("Promise 15", "MARKER (6; NONE)", () -> {
            AheadPlanner x = with(FIRST_WINDOW, 1);
            x.advise(1, -1);
            due("MARKER 0 is one", x.stream(0, 6), 0);
            x.read(0);
            due("none", x.stream(0, 6), NONE);
        });
        says("Promise 15", "how many were FETCHED AHEAD for it (9), of these READ as HITS while AHEAD (10), WASTED (11)", () -> {
            AheadPlanner x = with(FIRST_WINDOW, 3);
            x.advise(10, 1);
            read(x, 13, 13);
            x.drop(12);
            due("FETCHED", x.stream(0, 9), 3);
            due("the second HIT was not AHEAD", x.stream(0, 10), 1);
            due("WASTED", x.stream(0, 11), 1);
            due("AHEAD", x.stream(0, 8), 1);
            x.drop(13);
            due("not AHEAD: not WASTED", x.stream(0, 11), 1);
        });
    }

    private static void aheadOf() {
        says("Promise 16", "(what is not before it is left out). NONE.", () -> {
            AheadPlanner x = with(FIRST_WINDOW, 2);
            x.advise(10, 1);
            due("0", x.aheadOf(0, 0), 11);
            due("1", x.aheadOf(0, 1), 12);
            for (int i : new int[] {MIN, -1, 2, 64, MAX}) {
                due("aheadOf(0, " + i + ")", x.aheadOf(0, i), NONE);
            }
            for (int place : new int[] {MIN, -1, 1, 5, 6, MAX}) {
                due("aheadOf(" + place + ", 0)", x.aheadOf(place, 0), NONE);
            }
            x.drop(11);
            x.drop(12);
            due("none AHEAD", x.aheadOf(0, 0), NONE);
            x.stop(0);
            due("no STREAM", x.aheadOf(0, 0), NONE);
        });
        says("Promise 16", "that is AHEAD in the CACHE for the STREAM in a place", () -> {
            AheadPlanner x = with(FIRST_WINDOW, 2);
            x.advise(0, 1);
            x.advise(9_999, -1);
            due("its own", x.aheadOf(1, 0), 9_998);
            due("none of another's", x.aheadOf(1, 2), NONE);
            AheadPlanner y = with();
            y.advise(2, -1);
            due("1", y.aheadOf(0, 0), 1);
            due("0", y.aheadOf(0, 1), 0);
        });
    }

    private static AheadPlanner of(Consumer<AheadPlanner> run) {
        AheadPlanner x = new AheadPlanner();
        run.accept(x);
        return x;
    }
}
