import java.util.function.Consumer;

/** The boundary cases of "Terms", IN FULL, each sentence with a test of its own. */
public final class FullEdgeTest extends Edges {
    private static final Consumer<AheadPlanner> SOMETHING = x -> {
        x.write(3, 5);
        x.bad(4, true);
        x.read(4);
        x.read(500);
        x.reads(10, 1, 4);
    };

    public static void main(String[] args) {
        setsLeavesTheDisk();
        setsToWhatItIs();
        late();
        stampsAndTouches();
        whatGoes();
        wasted();
        batches();
        joined();
        leastUsed();
        block();
        aheadOf();
        emptyTrace();
        would();
        readAnew();
        replayOfTerms();
        tuneAndBest();
        misses();
        row();
        until();
        whoseAndIdle();
        writeStopAndKeep();
        end();
    }

    private static void setsLeavesTheDisk() {
        says("IN FULL", "sets() leaves the DISK (CONTENT, BAD; also of BLOCKS beyond SIZE, which come back with it)", () -> {
            AheadPlanner x = new AheadPlanner();
            x.write(0, 1);
            x.write(600, 5);
            x.bad(601, true);
            x.sets(SIZE, 1);
            due("0 is there", x.block(0, 0), 1);
            x.sets(SIZE, 600);
            due("600 is beyond", x.block(600, 0), NONE);
            due("none BAD there", x.count(18), 0);
            x.sets(SIZE, 601);
            due("600 comes back", x.block(600, 0), 5);
            due("601 is beyond", x.block(601, 5), NONE);
            x.sets(SIZE, 602);
            due("601 comes back", x.block(601, 5), 1);
            due("BAD", x.count(18), 1);
            x.sets(ROOM, 4);
            due("by other TERMS, too", x.block(600, 0) * 10 + x.block(601, 5), 51);
        });
        says("IN FULL", "and kept states", () -> {
            for (int what = 0; what < 10; what++) {
                int v = FIRST[what] == LOW[what] ? HIGH[what] : LOW[what];
                int which = what;
                sameBehind("sets(" + what + ", " + v + ") between",
                        SOMETHING.andThen(x -> x.keep(1)).andThen(x -> x.sets(which, v)).andThen(x -> x.again(1)),
                        SOMETHING);
            }
        });
    }

    private static void setsToWhatItIs() {
        says("IN FULL", "sets() to what it is already: false", () -> {
            for (int what = 0; what < 10; what++) {
                int which = what;
                refuses("sets(" + what + ", " + FIRST[what] + ")", SOMETHING, x -> x.sets(which, FIRST[which]));
            }
            AheadPlanner x = new AheadPlanner();
            due("another", x.sets(ROOM, 5), true);
            due("it is so now", x.sets(ROOM, 5), false);
            due("and back", x.sets(ROOM, 16), true);
            x.keep(0);
            x.sets(ROOM, 5);
            x.again(0);
            due("as kept", x.sets(ROOM, 16), false);
        });
        says("IN FULL", "FIRST may be above MOST", () -> {
            AheadPlanner x = new AheadPlanner();
            due("MOST 1", x.sets(MOST, 1), true);
            due("FIRST is 2", x.count(22), 2);
            due("FIRST 8", x.sets(FIRST_WINDOW, 8), true);
            due("they are so", x.count(22) * 10 + x.count(23), 81);
            x.advise(10, 1);
            due("WINDOW", x.stream(0, 4), 1);
        });
    }

    private static void late() {
        says("IN FULL", "is LATE, each such READ (also when it is not AHEAD any more)", () -> {
            AheadPlanner x = with(LAG, 3, MOST, 32);
            x.advise(10, 1);
            x.reads(12, 0, 4);
            due("three of four", x.count(32), 3);
            due("3, 2 and 1", x.count(33), 6);
            due("one was AHEAD", x.count(4), 1);
            due("WINDOW twice each time", x.stream(0, 4), 16);
        });
        says("IN FULL", "the one that goes on is not gone by", () -> {
            AheadPlanner x = with(LAG, 1);
            x.advise(10, 1);
            x.read(12);
            due("LATE", x.count(32), 1);
            x.read(12);
            due("one has gone by", x.count(32), 1);
        });
        says("IN FULL", "all READS so far less those so far, with the one that goes on, when it was FETCHED", () -> {
            AheadPlanner x = read(with(LAG, 2, SHARE, 100), 10, 11, 12);
            due("2 are to come behind the READ that FETCHED it", x.block(14, 7), 2);
            x.read(500);
            due("1", x.block(14, 7), 1);
            x.drop(14);
            due("out", x.block(14, 7), NONE);
            x.drop(13);
            x.read(11);
            x.advise(12, 1);
            due("FETCHED anew: 2", x.block(14, 7), 2);
            due("by its READ: 0", x.block(11, 7), 0);
        });
        says("IN FULL", "A LATE one doubles ahead of what follows", () -> {
            AheadPlanner x = with(LAG, 1, FIRST_WINDOW, 1);
            x.advise(10, 1);
            x.read(11);
            due("twice by LATE, twice by the MARKER", x.stream(0, 4), 4);
            due("as many FETCHED", x.stream(0, 5), 15);
            due("LOG 2 to 4", x.log(0, 2) * 10 + x.log(0, 3), 24);
            due("LOG 1 to 2", x.log(1, 2) * 10 + x.log(1, 3), 12);
        });
    }

    private static void stampsAndTouches() {
        says("IN FULL", "A MISS has one STAMP (as it is PUT), a HIT one (as it is READ)", () -> {
            AheadPlanner x = read(with(), 100);
            due("a MISS", x.count(15), 1);
            x.read(100);
            due("a HIT", x.count(15), 2);
            x.advise(10, 1);
            x.read(12);
            due("a HIT at one AHEAD", x.count(15), 5);
            due("its STAMP", x.block(12, 2), 5);
        });
        says("IN FULL", "TOUCHED is 1 by a MISS, 0 of AHEAD ones", () -> {
            AheadPlanner x = read(with(), 100);
            due("1", x.block(100, 6), 1);
            x.advise(10, 1);
            due("0", x.block(11, 6), 0);
            x.read(12);
            due("1, once it was READ", x.block(12, 6), 1);
        });
    }

    private static void whatGoes() {
        says("IN FULL", "PUT by POLICY 1: more than ROOM by 4, downwards, are AHEAD", () -> {
            // ROOM 7, by 4: 1. Two AHEAD behind 100, 200: the first of them goes, then 100.
            AheadPlanner x = read(with(ROOM, 7, POLICY, 1, REACH, 1), 100, 200);
            x.advise(10, 1);
            read(x, 300, 400, 500, 600);
            due("11 went", x.block(11, 1), NONE);
            due("100 stays", x.block(100, 2), 1);
            x.read(700);
            due("one AHEAD: 100 goes", x.block(100, 1), NONE);
            due("12 stays", x.block(12, 3), 1);
        });
        says("IN FULL", "by 2: the least TOUCHED, of these the least STAMP", () -> {
            AheadPlanner x = with(ROOM, 4, POLICY, 2, REACH, 1);
            x.advise(10, 1);
            read(x, 100, 200, 300);
            due("of two AHEAD, TOUCHED 0 times, the first", x.block(11, 1), NONE);
            x.read(400);
            due("then the other", x.block(12, 1), NONE);
            x.read(500);
            due("then 100", x.block(100, 1), NONE);
        });
        says("IN FULL", "the BLOCK that is being READ never goes", () -> {
            AheadPlanner x = with(ROOM, 4, POLICY, 2, REACH, 1, FIRST_WINDOW, 1);
            read(x, 100, 100, 200, 200, 300, 300);
            x.advise(10, 1);
            x.read(11);
            due("11 was AHEAD, is READ and stays", x.block(11, 6), 1);
            due("100 went for 12", x.block(100, 1), NONE);
        });
    }

    private static void wasted() {
        says("IN FULL", "WASTED ones, by PUT and by drop(), count in count(6), in the STREAM's own, and halve WINDOW", () -> {
            AheadPlanner x = with(ROOM, 8, FIRST_WINDOW, 4, REACH, 1);
            x.advise(10, 1);
            read(x, 100, 200, 300, 400);
            due("full, none WASTED", x.count(10) * 10 + x.count(6), 80);
            x.read(500);
            due("by PUT: count(6)", x.count(6), 1);
            due("its own", x.stream(0, 11), 1);
            due("WINDOW", x.stream(0, 4), 2);
            x.drop(12);
            due("by drop(): count(6)", x.count(6), 2);
            due("its own", x.stream(0, 11), 2);
            due("WINDOW", x.stream(0, 4), 1);
            x.drop(100);
            due("not AHEAD: not WASTED", x.count(6), 2);
            x.read(13);
            x.drop(13);
            due("not AHEAD any more: not WASTED", x.count(6), 2);
        });
    }

    private static void batches() {
        says("IN FULL", "BATCH: HELD is asked first", () -> {
            // What is WASTED by the BATCH itself holds the next one, not this one.
            AheadPlanner x = with(ROOM, 8, POLICY, 2, FIRST_WINDOW, 4, SHARE, 0);
            for (int b = 1000; b <= 8000; b += 1000) {
                read(x, b, b);
            }
            x.advise(10, 1);
            due("not HELD", x.count(8), 0);
            due("FETCHED", x.count(5), 4);
            due("WASTED", x.count(6), 3);
            x.advise(20, 1);
            due("the next is HELD", x.count(8), 1);
            due("FETCHED", x.count(5), 4);
        });
        says("IN FULL", "BATCHES counts both kinds", () -> {
            AheadPlanner x = with(SHARE, 0);
            x.advise(10, 1);
            due("one", x.count(9), 1);
            x.drop(11);
            x.advise(20, 1);
            due("one that is HELD", x.count(9) * 10 + x.count(8), 21);
            x.advise(9_999, 1);
            due("an empty one, HELD, too", x.count(9) * 10 + x.count(8), 32);
        });
        says("IN FULL", "WINDOW as at its begin", () -> {
            AheadPlanner x = with(ROOM, 4, POLICY, 2, FIRST_WINDOW, 8, SHARE, 100);
            read(x, 1000, 1000, 2000, 2000, 3000, 3000, 4000, 4000);
            int place = x.advise(10, 1);
            due("8 times, though WINDOW is 1 soon", x.count(5), 8);
            due("WINDOW", x.stream(place, 4), 1);
            due("EDGE", x.stream(place, 5), 18);
        });
        says("IN FULL", "Where a MARKER is told, EDGE is as it is", () -> {
            AheadPlanner x = with(FIRST_WINDOW, 3);
            x.advise(10, 1);
            x.read(11);
            due("on from EDGE, 13, by 6", x.stream(0, 5), 19);
            due("MARKER", x.stream(0, 6), 14);
        });
    }

    private static void joined() {
        says("IN FULL", "by place, one behind the other, till the READ's own goes or none is left", () -> {
            AheadPlanner x = with();
            x.advise(500, 5);
            x.advise(600, 5);
            x.advise(10, 1);
            x.stop(1);
            x.advise(9, 1);
            x.stop(0);
            x.advise(10, 1);
            x.advise(10, 1);
            // 4 at place 0, 3 (the READ's own) at 1, 2 at 2, 5 at 3.
            x.read(10);
            due("a STEP of 3", x.whose(0, 0), 3);
            due("4 goes, then 3 for 2", x.count(19), 2);
            due("2 stays", x.stream(2, 0), 2);
            due("5, behind it, stays", x.stream(3, 0), 5);
            due("two are there", x.count(12), 2);
            due("would(10, ..) of what is left is AGAIN", x.would(10, 0), 2);
            x.read(10);
            due("2 and 5 are JOINED by AGAIN", x.count(19), 3);
            due("one is there", x.count(12), 1);
        });
    }

    private static void leastUsed() {
        says("IN FULL", "The least USED, of like ones the first place", () -> {
            AheadPlanner x = with(TABLE, 3);
            x.advise(9_999, 1);
            x.advise(9_998, 2);
            x.advise(9_997, 3);
            due("all are PROVED, and like USED", x.stream(0, 7) + x.stream(1, 7) + x.stream(2, 7), 0);
            due("the first", x.advise(9_996, 4), 0);
            AheadPlanner y = with(TABLE, 3);
            y.advise(100, 1);
            y.advise(9_999, 1);
            y.advise(9_998, 2);
            due("all are like", y.stream(0, 7) * 100 + y.stream(1, 7) * 10 + y.stream(2, 7), 222);
            y.read(100);
            due("the second is the first of the least", y.advise(9_996, 4), 1);
        });
    }

    private static void block() {
        says("IN FULL", "block(): 2, 3, 4, 6, 7 are NONE if it is not in the CACHE", () -> {
            AheadPlanner x = with(LAG, 4);
            x.advise(10, 1);
            x.drop(12);
            for (int b : new int[] {12, 500, 0, 9_999}) {
                for (int what : new int[] {1, 2, 3, 4, 6, 7}) {
                    due("block(" + b + ", " + what + ")", x.block(b, what), NONE);
                }
                due("CONTENT", x.block(b, 0), content(b));
                due("BAD", x.block(b, 5), 0);
            }
            due("in the CACHE", x.block(11, 7), 4);
        });
        says("IN FULL", "4 stays as it was when it was READ", () -> {
            AheadPlanner x = with();
            x.advise(500, 5);
            x.advise(10, 1);
            x.read(12);
            due("NUMBER", x.block(12, 4), 1);
            x.stop(1);
            due("though its STREAM is gone", x.block(12, 4), 1);
            x.drop(12);
            x.read(12);
            due("FETCHED by its READ: none", x.block(12, 4), NONE);
        });
    }

    private static void aheadOf() {
        says("IN FULL", "by STRIDE ahead of LAST, the nearest first; NONE without STRIDE", () -> {
            AheadPlanner x = with(FIRST_WINDOW, 3);
            x.advise(100, -7);
            due("the nearest", x.aheadOf(0, 0), 93);
            due("then", x.aheadOf(0, 1), 86);
            due("the farthest", x.aheadOf(0, 2), 79);
            due("no more", x.aheadOf(0, 3), NONE);
            x.read(5000);
            due("without STRIDE", x.aheadOf(1, 0), NONE);
            x.read(86);
            due("READ: not AHEAD", x.aheadOf(0, 1), 79);
        });
    }

    private static void emptyTrace() {
        says("IN FULL", "piece(NONE, ..), mixed() of an empty TRACE: 0", () -> {
            AheadPlanner x = new AheadPlanner();
            x.advise(10, 1);
            due("pieces", x.piece(NONE, 0), 0);
            due("the longest", x.piece(NONE, 1), 0);
            due("changes", x.mixed(0), 0);
            due("STREAMS", x.mixed(1), 0);
            due("the most", x.mixed(2), 0);
        });
    }

    private static void would() {
        says("IN FULL", "would(): the place as it is behind the READ (NONE if it was JOINED away)", () -> {
            AheadPlanner x = with(TABLE, 2);
            x.advise(10, 1);
            due("a free one", x.would(5000, 2), 1);
            x.advise(9, 1);
            due("its own goes", x.would(10, 2), NONE);
            due("a STEP all the same", x.would(10, 0), 1);
            due("full: in the place of the least USED", x.would(5000, 2), 0);
            x.stop(0);
            due("not JOINED", x.would(10, 2), 1);
        });
        says("IN FULL", "of a READ that FAILS 1, 3 to 5 are 0", () -> {
            AheadPlanner x = with();
            x.advise(10, 1);
            x.drop(11);
            x.bad(11, true);
            due("FAILS", x.would(11, 0), 0);
            due("1", x.would(11, 1), 0);
            due("its place: none", x.would(11, 2), NONE);
            due("3", x.would(11, 3), 0);
            due("4", x.would(11, 4), 0);
            due("5", x.would(11, 5), 0);
        });
    }

    private static void readAnew() {
        says("IN FULL", "READS of the TRACE that FAIL now are passed over (counted as FAILED)", () -> {
            AheadPlanner x = read(with(), 10, 11, 12, 13, 12, 14);
            due("MISSES", x.replay(ROOM, 16, 2), 3);
            x.bad(12, true);
            due("two FAIL", x.replay(ROOM, 16, 3), 2);
            due("READS", x.replay(ROOM, 16, 0), 4);
            due("TRACE", x.replay(ROOM, 16, 16), 4);
            due("none PROVED", x.replay(ROOM, 16, 13), 0);
            due("MISSES", x.replay(ROOM, 16, 2), 4);
            due("by NEED 1 nothing can be FETCHED behind 11, either", x.tune(2), 4);
            due("best() does so, too", x.best(NEED, 1), 4);
            due("the TRACE itself stays", x.count(16), 6);
            due("FAILED so far", x.count(3), 0);
            for (int b : new int[] {10, 11, 13, 14}) {
                x.bad(b, true);
            }
            due("all FAIL: no MISSES", x.replay(ROOM, 16, 2), 0);
            due("all FAIL", x.replay(ROOM, 16, 3), 6);
            due("tune()", x.tune(0) * 100 + x.tune(1) * 10 + x.tune(2), 110);
            due("best()", x.best(ROOM, 0) * 10 + x.best(ROOM, 1), 40);
        });
    }

    private static void replayOfTerms() {
        says("IN FULL", "replay() of count(20 ..) tells TERMS with v", () -> {
            AheadPlanner x = read(new AheadPlanner(), 10);
            for (int term = 0; term < 10; term++) {
                for (int told = 0; told < 10; told++) {
                    int v = term == SIZE ? 10_000 : HIGH[term];
                    due("replay(" + term + ", " + v + ", " + (20 + told) + ")", x.replay(term, v, 20 + told),
                            told == term ? v : FIRST[told]);
                }
            }
        });
        says("IN FULL", "SIZE by replay(): v is SIZE alone", () -> {
            AheadPlanner x = with(SIZE, 100);
            x.read(10);
            due("as it is", x.replay(SIZE, 100, 27), 100);
            due("less by 1", x.replay(SIZE, 99, 27), MIN);
            due("more by 1", x.replay(SIZE, 101, 27), MIN);
            due("10,000", x.replay(SIZE, 10_000, 27), MIN);
            due("0", x.replay(SIZE, 0, 27), MIN);
        });
    }

    private static void tuneAndBest() {
        says("IN FULL", "tune() of an empty TRACE: 1, 1, 0", () -> {
            AheadPlanner x = new AheadPlanner();
            x.advise(10, 1);
            due("NEED", x.tune(0), 1);
            due("FIRST", x.tune(1), 1);
            due("MISSES", x.tune(2), 0);
        });
        says("IN FULL", "best(): v as sets() may be told, the one that it is, too", () -> {
            // 64 BLOCKS in a ring: only a CACHE of all 64 has HITS; by 63 and less each READ is a MISS.
            AheadPlanner x = with(REACH, 1);
            for (int round = 0; round < 2; round++) {
                x.reads(0, 100, 40);
                x.reads(4000, 100, 24);
            }
            due("the most", x.best(ROOM, 0), 64);
            due("MISSES", x.best(ROOM, 1), 64);
            AheadPlanner y = with(ROOM, 64, REACH, 1);
            for (int round = 0; round < 2; round++) {
                y.reads(0, 100, 40);
                y.reads(4000, 100, 24);
            }
            due("the one that it is", y.best(ROOM, 0), 64);
            AheadPlanner z = with(ROOM, 64, REACH, 1);
            for (int round = 0; round < 2; round++) {
                z.reads(0, 100, 40);
                z.reads(4000, 100, 25);
            }
            due("65 in a ring: all are like, the least", z.best(ROOM, 0), 4);
            due("MISSES", z.best(ROOM, 1), 130);
        });
    }

    private static void misses() {
        says("IN FULL", "misses(): c 1 .. 64", () -> {
            AheadPlanner x = with(REACH, 1);
            for (int round = 0; round < 2; round++) {
                x.reads(0, 100, 40);
                x.reads(4000, 100, 24);
            }
            due("64", x.misses(64, 0), 64);
            due("63", x.misses(63, 0), 128);
            due("65", x.misses(65, 0), NONE);
            due("1", x.misses(1, 0), 128);
            due("0", x.misses(0, 0), NONE);
            due("64 at best", x.misses(64, 1), 64);
            due("63 at best", x.misses(63, 1), 65);
            due("65 at best", x.misses(65, 1), NONE);
            due("1 at best", x.misses(1, 1), 128);
            due("0 at best", x.misses(0, 1), NONE);
        });
        says("IN FULL", "one that is never READ again goes ahead of all others", () -> {
            // 1 is READ again as the very last, 2 never: 2 goes, so that 3 and 1 are HITS.
            AheadPlanner x = read(with(), 100, 200, 300, 300, 100);
            due("two", x.misses(2, 1), 3);
            // Both are READ again: the one READ again last goes.
            AheadPlanner y = read(with(), 100, 200, 300, 200, 300, 100);
            due("two", y.misses(2, 1), 4);
        });
    }

    private static void row() {
        says("IN FULL", "row(): READS anywhere, one behind the other", () -> {
            AheadPlanner x = read(with(), 30, 10, 99, 20, 20, 10, 31, 30, 40);
            due("10 20 30 40, others between", x.row(10, 0), 4);
            due("begins with", x.row(10, 1), 10);
            due("30 20 10", x.row(-10, 0), 3);
            due("begins with", x.row(-10, 1), 30);
            due("30 ahead of 31", x.row(1, 0), 2);
        });
    }

    private static void until() {
        says("IN FULL", "until(): a HELD one is a BATCH, too", () -> {
            AheadPlanner x = with(SHARE, 0, FIRST_WINDOW, 3);
            x.advise(10, 1);
            x.drop(13);
            due("till the MARKER", x.until(0), 1);
            x.read(11);
            due("that was HELD", x.count(8), 1);
            due("till EDGE", x.until(0), 2);
            read(x, 12, 13);
            due("HELD again", x.count(8), 2);
            due("each one then", x.until(0), 1);
        });
    }

    private static void whoseAndIdle() {
        says("IN FULL", "whose(): as when it was READ", () -> {
            AheadPlanner x = with();
            x.advise(10, 1);
            x.advise(9, 1);
            x.read(10);
            due("JOINED away", x.stream(1, 0), MIN);
            due("it was its", x.whose(0, 0), 1);
            due("a STEP", x.whose(0, 1), 1);
            x.read(10);
            due("AGAIN, of the other", x.whose(0, 0) * 10 + x.whose(0, 1), 2);
            due("the eldest", x.whose(1, 0), 1);
        });
        says("IN FULL", "idle(): how many were FETCHED", () -> {
            AheadPlanner x = with(FIRST_WINDOW, 8, ROOM, 64, REACH, 1);
            x.advise(10, 1);
            read(x, 13, 15, 17);
            due("one of one", x.idle(1), 1);
            due("two of twenty", x.idle(20), 2);
            due("none", x.idle(20), 0);
            due("count(30)", x.count(30), 3);
        });
    }

    private static void writeStopAndKeep() {
        says("IN FULL", "write() leaves BAD, STAMPS", () -> {
            Consumer<AheadPlanner> run = SOMETHING.andThen(x -> x.bad(12, true));
            changesNothingBut("write(4, 9)", run, x -> x.write(4, 9), "block(4, 0)");
            AheadPlanner x = new AheadPlanner();
            run.accept(x);
            int stamp = x.block(12, 2);
            x.write(12, 9);
            due("STAMP", x.block(12, 2), stamp);
            due("BAD", x.block(12, 5), 1);
            due("the latest STAMP", x.count(15), 11);
        });
        says("IN FULL", "stop(): what was FETCHED for it stays AHEAD", () -> {
            AheadPlanner x = with();
            x.advise(10, 1);
            x.stop(0);
            due("AHEAD", x.count(11), 2);
            due("none WASTED", x.count(6), 0);
            x.read(11);
            due("a HIT AHEAD", x.count(4), 1);
            x.drop(12);
            due("WASTED", x.count(6), 1);
        });
        says("IN FULL", "keep() keeps the DISK, too", () -> {
            sameBehind("all of it", SOMETHING.andThen(x -> {
                x.keep(0);
                x.write(3, 7);
                x.write(9_999, 7);
                x.bad(4, false);
                x.bad(5, true);
                x.bad(9_999, true);
                x.again(0);
            }), SOMETHING);
            // BLOCKS beyond SIZE are kept with it.
            AheadPlanner x = new AheadPlanner();
            x.write(600, 5);
            x.sets(SIZE, 100);
            x.keep(0);
            x.sets(SIZE, 1000);
            x.write(600, 6);
            x.again(0);
            due("SIZE", x.count(27), 100);
            x.sets(SIZE, 1000);
            due("beyond SIZE", x.block(600, 0), 5);
        });
    }
}
