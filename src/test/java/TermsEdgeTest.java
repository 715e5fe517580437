import java.util.function.Consumer;

/** The boundary cases of "Terms", I.: the terms, the disk, the cache, what is due, reads and the trace. */
public final class TermsEdgeTest extends Edges {
    private static final String[] RANGES = {"ROOM 4 .. 64 (16 at first)", "NEED 1 .. 4 (2)", "FIRST 1 .. 8 (2)",
        "MOST 1 .. 32 (8)", "REACH 1 .. 200 (16)", "SHARE 0 .. 100 (30)", "TABLE 1 .. 6 (4)",
        "SIZE 1 .. 10,000 (10,000)", "POLICY 0 .. 2 (0)", "LAG 0 .. 8 (0)"};
    // Something of everything: a written and a bad block, two streams, one of them proved, blocks ahead, a log.
    private static final Consumer<AheadPlanner> SOMETHING = x -> {
        x.write(3, 5);
        x.bad(4, true);
        x.read(4);
        x.read(500);
        x.reads(10, 1, 4);
    };

    public static void main(String[] args) {
        for (int what = 0; what < 10; what++) {
            int which = what;
            says("I.", RANGES[what], () -> range(which));
        }
        roomAndNeed();
        windowsAndReach();
        shareAndTable();
        sizeAndLag();
        theDisk();
        theCache();
        stamps();
        whatGoesByStamp();
        whatGoesByAhead();
        whatGoesByTouch();
        due();
        late();
        fetched();
        fails();
        theTrace();
        end();
    }

    private static void range(int what) {
        due("at first", new AheadPlanner().count(20 + what), FIRST[what]);
        for (int v : new int[] {MIN, LOW[what] - 1, HIGH[what] + 1, MAX}) {
            refuses("sets(" + what + ", " + v + ")", SOMETHING, x -> x.sets(what, v));
        }
        AheadPlanner x = new AheadPlanner();
        int between = what == SIZE ? 5_000 : 1 + LOW[what];
        x.sets(what, between);
        due("is between", x.count(20 + what), between);
        due("the least", x.sets(what, LOW[what]), true);
        due("is the least", x.count(20 + what), LOW[what]);
        due("the most", x.sets(what, HIGH[what]), true);
        due("is the most", x.count(20 + what), HIGH[what]);
    }

    private static void roomAndNeed() {
        says("I.", "ROOM 4 ..", () -> {
            AheadPlanner x = read(with(ROOM, 4, REACH, 1), 1000, 2000, 3000, 4000);
            due("four are there", x.count(10), 4);
            due("the first of them", x.block(1000, 1), content(1000));
            x.read(5000);
            due("still four", x.count(10), 4);
            due("the first went", x.block(1000, 1), NONE);
            due("the second did not", x.block(2000, 1), content(2000));
        });
        says("I.", ".. 64 (16 at first)", () -> {
            AheadPlanner x = with(ROOM, 64, REACH, 1);
            x.reads(0, 100, 40);
            x.reads(4000, 100, 24);
            due("64 are there", x.count(10), 64);
            due("the first of them", x.cached(0), 0);
            due("the last of them", x.cached(63), 6300);
            x.read(9000);
            due("still 64", x.count(10), 64);
            due("the first went", x.block(0, 1), NONE);
            due("the second did not", x.cached(0), 100);
            due("the last of them", x.cached(63), 9000);
        });
        says("I.", "NEED 1 ..", () -> {
            AheadPlanner x = read(with(NEED, 1), 10);
            due("not by its first READ", x.stream(0, 4), 0);
            x.read(11);
            due("PROVED by a PAIR", x.stream(0, 4), 2);
        });
        says("I.", ".. 4 (2), FIRST", () -> {
            AheadPlanner x = read(with(NEED, 4), 10, 11, 12, 13);
            due("PROOF 3", x.stream(0, 3), 3);
            due("not PROVED", x.stream(0, 4), 0);
            x.read(14);
            due("PROOF 4", x.stream(0, 3), 4);
            due("PROVED", x.stream(0, 4), 2);
        });
    }

    private static void windowsAndReach() {
        says("I.", "FIRST 1 ..", () -> {
            AheadPlanner x = read(with(FIRST_WINDOW, 1), 10, 11, 12);
            due("WINDOW", x.stream(0, 4), 1);
            due("EDGE", x.stream(0, 5), 13);
        });
        says("I.", ".. 8 (2)", () -> {
            AheadPlanner x = read(with(FIRST_WINDOW, 8), 10, 11, 12);
            due("WINDOW", x.stream(0, 4), 8);
            due("EDGE", x.stream(0, 5), 20);
        });
        says("I.", "MOST 1 ..", () -> {
            AheadPlanner x = read(with(MOST, 1), 10, 11, 12);
            due("WINDOW", x.stream(0, 4), 1);
            due("MARKER", x.stream(0, 6), 13);
            x.read(13);
            due("a BATCH", x.count(9), 2);
            due("WINDOW stays", x.stream(0, 4), 1);
            due("EDGE", x.stream(0, 5), 14);
            due("LOG", x.count(31), 1);
        });
        says("I.", ".. 32 (8)", () -> {
            AheadPlanner x = with(ROOM, 64, FIRST_WINDOW, 8, MOST, 32);
            // 13 .. 20 by 12; by 13 WINDOW 16: .. 36; by 21 WINDOW 32: .. 53, as 32 are AHEAD then; MARKER 37.
            x.reads(10, 1, 12);
            due("WINDOW", x.stream(0, 4), 32);
            due("EDGE where half of ROOM are AHEAD", x.stream(0, 5), 53);
            due("MARKER", x.stream(0, 6), 37);
            x.reads(22, 1, 16);
            due("a BATCH at 37", x.count(9), 4);
            due("WINDOW stays", x.stream(0, 4), 32);
            due("LOG: 0 to 8, 16, 32", x.count(31), 3);
            due("the greatest", x.count(17), 32);
        });
        says("I.", "REACH 1 ..", () -> {
            due("1 is in REACH", read(with(REACH, 1), 10, 11).whose(0, 1), 3);
            due("-1 is in REACH", read(with(REACH, 1), 10, 9).whose(0, 1), 3);
            due("2 is not", read(with(REACH, 1), 10, 12).whose(0, 1), 4);
            due("-2 is not", read(with(REACH, 1), 10, 8).whose(0, 1), 4);
        });
        says("I.", ".. 200 (16)", () -> {
            due("200 is in REACH", read(with(REACH, 200), 1000, 1200).stream(0, 2), 200);
            due("-200 is in REACH", read(with(REACH, 200), 1000, 800).stream(0, 2), -200);
            due("201 is not", read(with(REACH, 200), 1000, 1201).whose(0, 1), 4);
            due("-201 is not", read(with(REACH, 200), 1000, 799).whose(0, 1), 4);
        });
    }

    private static void shareAndTable() {
        says("I.", "SHARE 0 ..", () -> {
            AheadPlanner x = with(SHARE, 0);
            x.advise(10, 1);
            due("nothing WASTED: not HELD", x.count(8), 0);
            due("FETCHED", x.count(5), 2);
            x.drop(12);
            x.read(11);
            due("one WASTED: HELD", x.count(8), 1);
        });
        says("I.", ".. 100 (30)", () -> {
            AheadPlanner x = with(SHARE, 100);
            x.advise(10, 1);
            x.drop(11);
            x.drop(12);
            due("all are WASTED", x.gain(2), 100);
            x.read(11);
            due("not HELD all the same", x.count(8), 0);
            due("FETCHED", x.count(5), 4);
        });
        says("I.", "TABLE 1 ..", () -> {
            AheadPlanner x = read(with(TABLE, 1), 10, 1000);
            due("one STREAM", x.count(12), 1);
            due("it is the latest", x.stream(0, 0), 1);
            due("no other place", x.stream(1, 0), MIN);
        });
        says("I.", ".. 6 (4)", () -> {
            AheadPlanner x = with(TABLE, 6);
            x.reads(0, 1000, 6);
            due("six STREAMS", x.count(12), 6);
            due("the last place", x.stream(5, 0), 5);
            x.read(7000);
            due("still six", x.count(12), 6);
            due("in the place of the first", x.stream(0, 0), 6);
            due("the second stays", x.stream(1, 0), 1);
        });
    }

    private static void sizeAndLag() {
        says("I.", "SIZE 1 ..", () -> {
            AheadPlanner x = with(SIZE, 1);
            due("0 is the only one", x.read(0), 13);
            due("1 is none", x.read(1), NONE);
            due("reads(0, 1, 40)", x.reads(0, 1, 40), 1);
            due("READS", x.count(0), 2);
            due("advise(0, 1)", x.advise(0, 1), 1);
            due("nothing to be FETCHED", x.count(5), 0);
            due("EDGE", x.stream(1, 5), 0);
            due("until(1)", x.until(1), NONE);
            due("idle(1)", x.idle(1), 0);
            due("forecast(20, 0)", x.forecast(20, 0), 0);
        });
        says("I.", ".. 10,000 (10,000)", () -> {
            AheadPlanner x = new AheadPlanner();
            due("9,999 is one", x.read(9_999), 181_857);
            due("10,000 is none", x.read(10_000), NONE);
        });
        says("I.", "LAG 0 ..", () -> {
            AheadPlanner x = read(with(LAG, 0), 10, 11, 12);
            due("DUE at once", x.block(13, 7), 0);
            x.read(13);
            due("not LATE", x.count(32), 0);
        });
        says("I.", ".. 8 (0)", () -> {
            AheadPlanner x = with(LAG, 8);
            x.advise(10, 1);
            due("8 are to come", x.block(11, 7), 8);
            x.reads(1000, 0, 7);
            due("1 is to come", x.block(11, 7), 1);
            x.read(11);
            due("LATE", x.count(32), 1);
            AheadPlanner y = with(LAG, 8);
            y.advise(10, 1);
            y.reads(1000, 0, 8);
            due("DUE", y.block(11, 7), 0);
            y.read(11);
            due("not LATE", y.count(32), 0);
        });
    }

    private static void theDisk() {
        says("I.", "BLOCKS 0 .. SIZE less 1", () -> {
            AheadPlanner x = with(SIZE, 100);
            due("-1", x.read(-1), NONE);
            due("100", x.read(100), NONE);
            due("MIN", x.read(MIN), NONE);
            due("MAX", x.read(MAX), NONE);
            due("0", x.read(0), 13);
            due("99", x.read(99), content(99));
        });
        says("I.", "(of BLOCK b at first (7,919 b and 13) modulo 1,000,003)", () -> {
            AheadPlanner x = new AheadPlanner();
            due("0", x.block(0, 0), 13);
            due("the last below the modulus", x.block(126, 0), 997_807);
            due("the first that wraps round", x.block(127, 0), 5_723);
            due("9,999", x.block(9_999, 0), 181_857);
            for (int b = 0; b < 10_000; b++) {
                if (b % 500 == 0) {
                    x = new AheadPlanner();
                }
                due("block(" + b + ", 0)", x.block(b, 0), content(b));
            }
        });
        says("I.", "BAD or not (not)", () -> {
            AheadPlanner x = new AheadPlanner();
            due("none of them", x.count(18), 0);
            due("0", x.block(0, 5), 0);
            due("9,999", x.block(9_999, 5), 0);
        });
    }

    private static void theCache() {
        says("I.", "The CACHE: ROOM BLOCKS at most", () -> {
            AheadPlanner x = with(ROOM, 5, REACH, 1);
            due("empty", x.count(10), 0);
            due("empty", x.cached(0), NONE);
            read(x, 100, 200, 300, 400, 500);
            due("full", x.count(10), 5);
            due("none went", x.cached(0), 100);
            x.read(600);
            due("no more than ROOM", x.count(10), 5);
            due("one went", x.cached(0), 200);
            x.read(300);
            due("by a HIT none goes", x.count(10), 5);
            due("nor is another there", x.cached(0), 200);
        });
        says("I.", "To PUT one, if there are ROOM, one goes", () -> {
            AheadPlanner x = with(ROOM, 6, REACH, 1);
            read(x, 100, 200, 300, 400);
            x.advise(10, 1);
            due("full by two AHEAD", x.count(10), 6);
            due("none went", x.block(100, 2), 1);
            x.advise(20, 1);
            due("one more by half of ROOM", x.count(11), 3);
            due("for it one went", x.block(100, 1), NONE);
            due("and one only", x.block(200, 2), 2);
        });
    }

    private static void stamps() {
        says("I.", "STAMPS are given one by one, from 1 on, each more by 1", () -> {
            AheadPlanner x = new AheadPlanner();
            due("none yet", x.count(15), 0);
            x.read(10);
            due("1", x.block(10, 2), 1);
            x.read(11);
            due("2", x.block(11, 2), 2);
            x.read(10);
            due("3, as it is READ", x.block(10, 2), 3);
            due("the latest", x.count(15), 3);
            x.advise(100, 1);
            due("4, AHEAD", x.block(101, 2), 4);
            due("5, AHEAD", x.block(102, 2), 5);
            x.bad(500, true);
            x.read(500);
            due("none by a READ that FAILS", x.count(15), 5);
            x.drop(102);
            due("none by drop()", x.count(15), 5);
        });
    }

    private static void whatGoesByStamp() {
        says("I.", "(never the BLOCK that is being READ)", () -> {
            // Being READ, 11 is TOUCHED once, the three others twice: it were the one to go.
            AheadPlanner x = with(ROOM, 4, POLICY, 2, NEED, 1, MOST, 1, REACH, 1);
            read(x, 500, 500, 600, 600, 10, 10, 11);
            due("FETCHED AHEAD", x.block(12, 3), 1);
            due("11 stays", x.block(11, 6), 1);
            due("500 went", x.block(500, 1), NONE);
            due("600 stays", x.block(600, 6), 2);
            // The same by a HIT: 12 is AHEAD, TOUCHED once by its READ.
            read(x, 10, 10, 11, 11, 12);
            due("12 is being READ and stays", x.block(12, 6), 1);
            due("13 came", x.block(13, 3), 1);
        });
        says("I.", "by POLICY 0 the one with the least STAMP", () -> {
            AheadPlanner x = read(with(ROOM, 4, REACH, 1), 100, 200, 300, 400, 100, 500);
            due("100 was READ again", x.block(100, 6), 2);
            due("200 went", x.block(200, 1), NONE);
            due("300 is the next", x.cached(0), 300);
        });
        says("I.", "If it is AHEAD, it is WASTED", () -> {
            AheadPlanner x = with(ROOM, 4, REACH, 1);
            read(x, 100);
            x.advise(10, 1);
            read(x, 200, 300);
            due("100 went, not AHEAD", x.block(100, 1), NONE);
            due("not WASTED", x.count(6), 0);
            x.read(400);
            due("11 went, AHEAD", x.block(11, 1), NONE);
            due("WASTED", x.count(6), 1);
        });
    }

    private static void whatGoesByAhead() {
        says("I.", "if more than a quarter of ROOM (downwards) are, else of all", () -> {
            for (int room = 4; room <= 11; room++) {
                int quarter = room < 8 ? 1 : 2;
                due("ROOM " + room + ", a quarter and one more AHEAD", firstToGo(room, quarter + 1), 1001);
                due("ROOM " + room + ", a quarter AHEAD", firstToGo(room, quarter), 100);
            }
            due("none AHEAD", firstToGo(8, 0), 100);
        });
    }

    /** By POLICY 1, with so many AHEAD behind one that was READ: 1001, if the first AHEAD goes, 100, if that one. */
    private static int firstToGo(int room, int ahead) {
        AheadPlanner x = with(ROOM, room, POLICY, 1, REACH, 1, FIRST_WINDOW, Math.max(1, ahead));
        x.read(100);
        if (ahead > 0) {
            x.advise(1000, 1);
        }
        for (int b = 2000; x.count(10) < room; b += 100) {
            x.read(b);
        }
        due("AHEAD", x.count(11), ahead);
        x.read(9000);
        return x.block(100, 1) == NONE ? 100 : x.block(1001, 1) == NONE ? 1001 : NONE;
    }

    private static void whatGoesByTouch() {
        says("I.", "by 2 of those TOUCHED least often that one", () -> {
            AheadPlanner x = read(with(ROOM, 4, POLICY, 2, REACH, 1), 100, 100, 200, 300, 300, 400, 500);
            due("of 200 and 400 the least STAMP", x.block(200, 1), NONE);
            due("400 stays", x.block(400, 6), 1);
            x.read(600);
            due("then 400", x.block(400, 1), NONE);
            due("100 has the least STAMP and stays", x.cached(0), 100);
        });
        says("I.", "the READ by which it is PUT is one", () -> {
            AheadPlanner x = read(new AheadPlanner(), 100);
            due("once", x.block(100, 6), 1);
            x.read(100);
            due("twice", x.block(100, 6), 2);
            x.drop(100);
            x.read(100);
            due("since it was PUT", x.block(100, 6), 1);
        });
    }

    private static void due() {
        says("I.", "is DUE once LAG READS (that did not FAIL) have gone by since", () -> {
            AheadPlanner x = with(LAG, 3);
            x.advise(10, 1);
            read(x, 500, 600);
            due("two have gone by", x.block(11, 7), 1);
            x.read(11);
            due("LATE", x.count(32), 1);
            due("by one", x.count(33), 1);
            due("three have gone by", x.block(12, 7), 0);
            x.read(12);
            due("DUE", x.count(32), 1);
            AheadPlanner y = with(LAG, 3);
            y.bad(700, true);
            y.advise(10, 1);
            read(y, 500, 600, 700, 700);
            due("those that FAIL don't go by", y.block(11, 7), 1);
            y.read(11);
            due("LATE all the same", y.count(32), 1);
        });
        says("I.", "(the one by which it was FETCHED is none of these)", () -> {
            AheadPlanner x = read(with(LAG, 1), 10, 11, 12);
            due("one is to come", x.block(13, 7), 1);
            x.read(13);
            due("LATE", x.count(32), 1);
            due("by one", x.count(33), 1);
        });
    }

    private static void late() {
        says("I.", "Each READ of it ahead of that is LATE: a HIT all the same", () -> {
            AheadPlanner x = with(LAG, 2);
            x.advise(10, 1);
            read(x, 12, 12, 12);
            due("two of three", x.count(32), 2);
            due("2 and 1 were to come", x.count(33), 3);
            due("three HITS", x.count(1), 3);
            due("one AHEAD", x.count(4), 1);
        });
        says("I.", "if it is still there, has twice its WINDOW, MOST at most", () -> {
            AheadPlanner x = with(LAG, 8, MOST, 7);
            x.advise(10, 1);
            x.read(12);
            due("twice", x.stream(0, 4), 4);
            x.read(12);
            due("MOST at most", x.stream(0, 4), 7);
            due("LOG", x.count(31), 3);
            x.read(12);
            due("stays", x.stream(0, 4), 7);
            due("no LOG of it", x.count(31), 3);
            AheadPlanner y = with(LAG, 8);
            y.advise(10, 1);
            y.stop(0);
            y.advise(1000, 1);
            y.read(12);
            due("LATE", y.count(32), 1);
            due("not the one that has its place now", y.stream(0, 4), 2);
            due("LOG", y.count(31), 2);
        });
    }

    private static void fetched() {
        says("I.", "FETCHED: what is of the DISK is PUT (not, if the BLOCK is BAD)", () -> {
            AheadPlanner x = new AheadPlanner();
            x.write(12, 77);
            x.bad(13, true);
            x.advise(10, 1);
            due("what is of the DISK", x.block(12, 1), 77);
            x.read(11);
            due("BAD: not by a BATCH", x.block(13, 1), NONE);
            due("BAD: not by IDLE", x.idle(1), 0);
            due("BAD: not by a READ", x.read(13), -2);
            due("not PUT", x.block(13, 1), NONE);
        });
    }

    private static void fails() {
        says("I.", "(if it is BAD, the READ FAILS: nothing else happens)", () -> {
            Consumer<AheadPlanner> run = SOMETHING.andThen(x -> x.bad(14, true)).andThen(x -> x.drop(14));
            changesNothingBut("read(14)", run, x -> due("read(14)", x.read(14), -2), "count(3)");
            AheadPlanner x = new AheadPlanner();
            run.accept(x);
            x.read(14);
            due("FAILED", x.count(3), 2);
        });
        says("I.", "a HIT, if it is in the CACHE; it is not AHEAD any more", () -> {
            AheadPlanner x = new AheadPlanner();
            x.advise(10, 1);
            x.bad(12, true);
            due("AHEAD", x.block(12, 3), 1);
            due("BAD, but a HIT", x.read(12), content(12));
            due("not FAILED", x.count(3), 0);
            due("not AHEAD", x.block(12, 3), 0);
            due("AHEAD", x.count(11), 1);
        });
    }

    private static void theTrace() {
        says("I.", "the TRACE has b behind (the last 400)", () -> {
            AheadPlanner x = new AheadPlanner();
            due("empty", x.count(16), 0);
            for (int i = 0; i < 10; i++) {
                x.reads(40 * i, 1, 40);
            }
            due("400", x.count(16), 400);
            due("the eldest", x.trace(399), 0);
            x.read(400);
            due("still 400", x.count(16), 400);
            due("the latest", x.trace(0), 400);
            due("the eldest", x.trace(399), 1);
            due("none behind", x.trace(400), NONE);
            for (int i = 0; i < 10; i++) {
                x.reads(1000 + 40 * i, 1, 40);
            }
            due("all others went", x.trace(399), 1000);
            due("the latest", x.trace(0), 1399);
        });
    }
}
