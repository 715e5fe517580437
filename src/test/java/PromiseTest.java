/** For each promise of the document answers worked out by hand: ordinary inputs, the edges, wrong inputs. */
public final class PromiseTest {
    private static final int MIN = Integer.MIN_VALUE;
    private static final int MAX = Integer.MAX_VALUE;
    private static int wrong;
    private static int promise;

    private static void due(String call, long got, long want) {
        if (got != want) {
            wrong++;
            System.out.println("promise " + promise + ": " + call + " answered " + got + ", due is " + want);
        }
    }

    private static void due(String call, boolean got, boolean want) {
        due(call, got ? 1 : 0, want ? 1 : 0);
    }

    /** A planner with terms told: pairs of what and v. */
    private static AheadPlanner with(int... terms) {
        AheadPlanner x = new AheadPlanner();
        for (int i = 0; i + 1 < terms.length; i += 2) {
            x.sets(terms[i], terms[i + 1]);
        }
        return x;
    }

    public static void main(String[] args) {
        aNewObject();
        sets();
        read();
        streamsAreFound();
        placesAreTaken();
        windowsGrow();
        batchesEnd();
        whatGoes();
        wasteHalves();
        batchesAreHeld();
        lateReads();
        joined();
        reads();
        idle();
        advise();
        write();
        bad();
        drop();
        stop();
        keepAndAgain();
        block();
        cached();
        stream();
        aheadOf();
        gain();
        log();
        piece();
        whose();
        mixed();
        trace();
        would();
        plan();
        replay();
        forecast();
        tune();
        best();
        misses();
        row();
        pace();
        until();
        ahead();
        habits();
        count();
        System.out.println(wrong == 0 ? "all promises hold" : wrong + " answers are not as due");
        if (wrong != 0) {
            System.exit(1);
        }
    }

    private static void aNewObject() {
        promise = 1;
        AheadPlanner x = new AheadPlanner();
        due("NONE", AheadPlanner.NONE, -1);
        int[] terms = {16, 2, 2, 8, 16, 30, 4, 10000, 0, 0};
        for (int what = 0; what <= 33; what++) {
            due("count(" + what + ")", x.count(what), what >= 20 && what <= 29 ? terms[what - 20] : 0);
        }
        due("block(0, 0)", x.block(0, 0), 13);
        due("block(9999, 0)", x.block(9999, 0), 181857);
        due("block(126, 0)", x.block(126, 0), 997807);
        due("block(127, 0)", x.block(127, 0), 5723);
        due("stream(0, 0)", x.stream(0, 0), MIN);
        due("trace(0)", x.trace(0), -1);
        due("cached(0)", x.cached(0), -1);
        due("again(0)", x.again(0), false);
    }

    private static void sets() {
        promise = 2;
        int[] low = {4, 1, 1, 1, 1, 0, 1, 1, 0, 0};
        int[] high = {64, 4, 8, 32, 200, 100, 6, 10000, 2, 8};
        int[] first = {16, 2, 2, 8, 16, 30, 4, 10000, 0, 0};
        for (int what = 0; what < 10; what++) {
            AheadPlanner x = new AheadPlanner();
            due("as it is " + what, x.sets(what, first[what]), false);
            due("below " + what, x.sets(what, low[what] - 1), false);
            due("above " + what, x.sets(what, high[what] + 1), false);
            due("least " + what, x.sets(what, low[what]), low[what] != first[what]);
            due("is least " + what, x.count(20 + what), low[what]);
            due("most " + what, x.sets(what, high[what]), true);
            due("is most " + what, x.count(20 + what), high[what]);
        }
        AheadPlanner x = new AheadPlanner();
        due("sets(-1, 1)", x.sets(-1, 1), false);
        due("sets(10, 1)", x.sets(10, 1), false);
        due("sets(MIN, MIN)", x.sets(MIN, MIN), false);
        x.reads(10, 1, 5);
        x.write(3, 5);
        x.bad(4, true);
        x.bad(600, true);
        x.keep(0);
        due("a wrong one leaves all", x.sets(0, 65), false);
        due("count(0)", x.count(0), 5);
        due("sets(7, 500)", x.sets(7, 500), true);
        for (int what = 0; what < 18; what++) {
            due("count as at first " + what, x.count(what), 0);
        }
        due("LOG as at first", x.count(31), 0);
        due("one BAD in SIZE", x.count(18), 1);
        due("CONTENT stays", x.block(3, 0), 5);
        due("beyond SIZE", x.block(600, 5), -1);
        x.sets(7, 601);
        due("come back", x.block(600, 5), 1);
        due("kept states stay", x.again(0), true);
        due("SIZE as kept", x.count(27), 10000);
        due("STREAMS as kept", x.count(14), 1);
        due("NUMBER from 0 on", with(1, 1).stream(0, 0), MIN);
    }

    private static void read() {
        promise = 3;
        AheadPlanner x = with(7, 200);
        due("read(-1)", x.read(-1), -1);
        due("read(200)", x.read(200), -1);
        due("read(MAX)", x.read(MAX), -1);
        due("nothing happened", x.count(15) + x.count(3) + x.count(14), 0);
        due("read(199)", x.read(199), (7919 * 199 + 13) % 1000003);
        due("a MISS", x.count(2), 1);
        due("read(199) again", x.read(199), (7919 * 199 + 13) % 1000003);
        due("a HIT", x.count(1), 1);
        due("STAMPS", x.count(15), 2);
        due("TOUCHED", x.block(199, 6), 2);
        x.bad(50, true);
        due("read(50)", x.read(50), -2);
        due("FAILED", x.count(3), 1);
        due("nothing else", x.count(0) * 100 + x.count(2) * 10 + x.count(14), 211);
        due("not in the TRACE", x.trace(0), 199);
        x.bad(199, true);
        due("BAD, but in the CACHE", x.read(199), (7919 * 199 + 13) % 1000003);
        due("HITS", x.count(1), 2);
    }

    private static void streamsAreFound() {
        promise = 3;
        AheadPlanner x = with(1, 4);
        x.read(100);
        x.read(117);
        due("farther than REACH: NEW", x.whose(0, 1), 4);
        x.read(110);
        due("the nearest is PAIR", x.whose(0, 0), 1);
        due("PAIR", x.whose(0, 1), 3);
        due("STRIDE", x.stream(1, 2), -7);
        due("PROOF", x.stream(1, 3), 1);
        due("EDGE as it was", x.stream(1, 5), 117);
        x.read(84);
        due("as far as REACH", x.stream(0, 2), -16);
        x.read(103);
        due("STEP", x.whose(0, 1) * 10 + x.whose(0, 0), 11);
        x.read(103);
        due("AGAIN", x.whose(0, 1) * 10 + x.whose(0, 0), 21);
        due("AGAIN is USED", x.stream(1, 7), x.count(15));
        due("AGAIN leaves PROOF", x.stream(1, 3), 2);
        // Two without a STRIDE, equally far: the first.
        AheadPlanner y = with(1, 4, 4, 3);
        y.read(10);
        y.read(16);
        y.read(13);
        due("of like ones the first", y.whose(0, 0), 0);
        // A STEP of a PROVED one goes ahead of an earlier one that is not.
        AheadPlanner z = with(1, 3);
        z.read(20);
        z.read(22);
        z.advise(23, 1);
        z.read(24);
        due("the first PROVED one", z.whose(0, 0), 1);
        // STEP goes ahead of AGAIN.
        AheadPlanner w = with(1, 4);
        w.read(10);
        w.read(40);
        w.read(42);
        w.read(11);
        w.read(12);
        w.read(44);
        due("LAST", w.stream(1, 1), 44);
        due("STEP PROOF", w.stream(1, 3), 2);
    }

    private static void placesAreTaken() {
        promise = 3;
        AheadPlanner x = with(6, 3);
        x.read(1000);
        x.read(2000);
        x.reads(3000, 1, 3);
        x.read(1000);
        x.read(4000);
        due("not PROVED, of least USED", x.stream(1, 1), 4000);
        due("NUMBER", x.stream(1, 0), 3);
        due("came", x.count(14), 4);
        due("there", x.count(12), 3);
        AheadPlanner y = with(6, 2, 1, 1);
        y.reads(1000, 1, 2);
        y.reads(2000, 1, 2);
        y.read(1002);
        y.read(5000);
        due("all PROVED: the least USED", y.stream(1, 1), 5000);
        due("not PROVED then", y.stream(1, 4), 0);
        due("what was FETCHED for it is AHEAD", y.block(2002, 3), 1);
        due("its NUMBER stays", y.block(2002, 4), 1);
    }

    private static void windowsGrow() {
        promise = 3;
        AheadPlanner x = with(0, 64, 2, 3, 3, 10);
        x.reads(0, 2, 3);
        due("FIRST", x.stream(0, 4), 3);
        due("EDGE", x.stream(0, 5), 10);
        due("MARKER", x.stream(0, 6), 6);
        x.read(6);
        due("twice", x.stream(0, 4), 6);
        due("EDGE goes on", x.stream(0, 5), 22);
        due("MARKER", x.stream(0, 6), 12);
        x.reads(8, 2, 2);
        due("no BATCH between", x.count(9), 2);
        x.read(12);
        due("MOST at most", x.stream(0, 4), 10);
        due("greatest", x.count(17), 10);
        due("FIRST above MOST", first(with(2, 8, 3, 2)), 2);
        AheadPlanner y = with(1, 1, 2, 1);
        y.reads(10, -1, 2);
        due("NEED 1: PROVED by a PAIR", y.stream(0, 4), 1);
        due("downwards", y.stream(0, 5), 8);
        AheadPlanner z = with(1, 4);
        z.reads(10, 1, 4);
        due("NEED 4: not yet", z.stream(0, 4), 0);
        z.read(14);
        due("NEED 4: PROVED", z.stream(0, 4), 2);
        due("PROOF", z.stream(0, 3), 4);
        z.reads(15, 1, 40);
        z.reads(55, 1, 40);
        z.reads(95, 1, 40);
        due("PROOF 99 at most", z.stream(0, 3), 99);
    }

    private static int first(AheadPlanner x) {
        x.reads(0, 1, 3);
        return x.stream(0, 4);
    }

    private static void batchesEnd() {
        promise = 3;
        AheadPlanner x = with(7, 14, 2, 8);
        x.reads(10, 1, 3);
        due("no BLOCK beyond", x.count(5), 1);
        due("EDGE", x.stream(0, 5), 13);
        x.read(13);
        due("no MARKER without one", x.stream(0, 6), -1);
        due("BATCHES all the same", x.count(9), 2);
        AheadPlanner y = with(2, 8);
        y.bad(15, true);
        y.reads(10, 1, 3);
        due("up to the BAD one", y.stream(0, 5), 14);
        y.reads(13, 1, 2);
        due("the BATCH of 13 is empty, as is that of 14", y.count(9) * 100 + y.count(5), 302);
        y.read(15);
        due("FAILED", y.count(3), 1);
        due("LAST stays", y.stream(0, 1), 14);
        AheadPlanner z = with(2, 8, 0, 9);
        z.reads(10, 1, 3);
        due("half of ROOM, downwards, are AHEAD", z.count(11), 4);
        // SHARED ones are not FETCHED; also BAD ones that are in the CACHE.
        AheadPlanner w = with(2, 4, 4, 1);
        w.read(14);
        w.bad(14, true);
        w.reads(10, 1, 3);
        due("SHARED", w.count(7), 1);
        due("FETCHED", w.count(5), 3);
        due("EDGE", w.stream(1, 5), 16);
        due("not AHEAD", w.block(14, 3), 0);
    }

    private static void whatGoes() {
        promise = 3;
        AheadPlanner x = with(0, 4, 4, 1);
        x.read(10);
        x.read(20);
        x.read(30);
        x.read(40);
        x.read(10);
        x.read(50);
        due("POLICY 0: the least STAMP", x.block(20, 1), -1);
        due("the one READ again stays", x.block(10, 6), 2);
        // POLICY 1: AHEAD ones first, if more than a quarter are.
        AheadPlanner y = with(0, 8, 8, 1, 2, 3, 4, 1);
        y.reads(10, 1, 3);
        y.read(100);
        y.read(200);
        due("full, 3 AHEAD", y.count(10) * 10 + y.count(11), 83);
        y.read(300);
        due("an AHEAD one goes", y.block(13, 1), -1);
        due("WASTED", y.count(6), 1);
        y.read(400);
        due("2 are not more than a quarter: of all", y.block(10, 1), -1);
        // POLICY 2: the least TOUCHED, then the least STAMP.
        AheadPlanner z = with(0, 4, 8, 2, 4, 1);
        z.read(10);
        z.read(10);
        z.read(20);
        z.read(30);
        z.read(30);
        z.read(40);
        z.read(50);
        due("of those TOUCHED once", z.block(20, 1), -1);
        z.read(60);
        due("then the next", z.block(40, 1), -1);
        due("TOUCHED twice stay", z.block(10, 6) + z.block(30, 6), 4);
        // The BLOCK being READ never goes, though it were the next by POLICY 2.
        AheadPlanner w = with(0, 4, 8, 2, 1, 1, 2, 2, 4, 1);
        w.read(500);
        w.read(500);
        w.read(600);
        w.read(600);
        w.read(10);
        w.read(10);
        w.read(11);
        due("the BLOCK being READ stays", w.block(11, 6), 1);
        due("500 went for 12", w.block(500, 1), -1);
        due("12 went for 13", w.block(12, 1), -1);
        due("others stay", w.block(600, 6) + w.block(10, 6), 4);
        due("one AHEAD", w.count(11) * 10 + w.count(6), 11);
    }

    private static void wasteHalves() {
        promise = 3;
        AheadPlanner x = with(0, 8, 2, 4, 4, 1, 5, 100);
        x.reads(10, 1, 3);
        due("full but for one", x.count(10), 7);
        for (int b = 100; b < 140; b += 10) {
            x.read(b);
        }
        due("none WASTED yet", x.count(6), 0);
        x.read(200);
        due("WASTED", x.count(6), 1);
        due("its own", x.stream(0, 11), 1);
        due("half", x.stream(0, 4), 2);
        x.read(300);
        x.read(400);
        due("1 at least", x.stream(0, 4), 1);
        due("LOG: no change from 1 to 1", x.count(31), 3);
        due("then", x.log(0, 3), 1);
        due("ahead", x.log(0, 2), 2);
        x.stop(0);
        x.read(500);
        due("WASTED of one that went", x.count(6), 4);
        // A BATCH that wastes its own goes on for as many as were to come.
        AheadPlanner y = with(0, 8, 8, 2, 2, 4, 3, 4, 1, 1, 5, 100, 4, 1);
        for (int b = 1000; b < 8000; b += 1000) {
            y.read(b);
            y.read(b);
        }
        y.read(10);
        y.read(11);
        due("FETCHED 4 times", y.count(5), 4);
        due("3 of them pushed out by the next", y.count(6), 3);
        due("WINDOW by halves", y.stream(0, 4) + y.stream(1, 4) + y.stream(2, 4) + y.stream(3, 4), 1);
        due("EDGE", y.stream(y.would(12, 2), 5), 15);
    }

    private static void batchesAreHeld() {
        promise = 3;
        AheadPlanner x = with(5, 50);
        x.reads(10, 1, 3);
        x.drop(13);
        due("WASTED 1 of 2", x.count(6) * 10 + x.count(5), 12);
        x.read(13);
        due("not above SHARE: no HELD", x.count(8), 0);
        AheadPlanner y = with(5, 49);
        y.reads(10, 1, 3);
        y.drop(13);
        y.read(13);
        due("above SHARE: HELD", y.count(8), 1);
        due("BATCHES with it", y.count(9), 2);
        due("MARKER none", y.stream(0, 6), -1);
        due("EDGE as it was", y.stream(0, 5), 14);
        due("WINDOW is twice what was left", y.stream(0, 4), 2);
        due("nothing FETCHED", y.count(5), 2);
        y.read(14);
        y.read(15);
        due("EDGE is LAST then", y.stream(0, 5), 15);
        due("HELD each time", y.count(8), 3);
        AheadPlanner z = with(5, 0);
        z.reads(10, 1, 4);
        due("SHARE 0, nothing WASTED", z.count(8), 0);
    }

    private static void lateReads() {
        promise = 3;
        AheadPlanner x = with(9, 3, 2, 1, 0, 64, 3, 32);
        x.reads(10, 1, 3);
        due("3 to come", x.block(13, 7), 3);
        due("by its READ: 0", x.block(12, 7), 0);
        x.read(13);
        due("LATE", x.count(32), 1);
        due("were to come", x.count(33), 3);
        due("twice by LATE, twice by MARKER", x.stream(0, 4), 4);
        due("a HIT all the same", x.count(1), 1);
        due("LOG", x.log(1, 2) * 1000 + x.log(1, 3) * 100 + x.log(0, 2) * 10 + x.log(0, 3), 1224);
        due("one has gone by", x.block(13, 7), 2);
        x.read(13);
        due("LATE though not AHEAD any more", x.count(32), 2);
        due("together", x.count(33), 5);
        due("WINDOW again twice", x.stream(0, 4), 8);
        due("HITS AHEAD once", x.count(4), 1);
        x.read(13);
        due("1 was to come", x.count(33), 6);
        x.read(13);
        due("DUE", x.count(32), 3);
        due("WINDOW", x.stream(0, 4), 16);
        // The STREAM is gone: LATE all the same.
        AheadPlanner y = with(9, 1);
        y.reads(10, 1, 3);
        y.stop(0);
        y.read(13);
        due("LATE without its STREAM", y.count(32), 1);
        due("LAG 0: never LATE", lateOf(with()), 0);
        AheadPlanner z = with(9, 2);
        z.bad(700, true);
        z.reads(10, 1, 3);
        z.read(700);
        due("READS that FAIL don't go by", z.block(13, 7), 2);
        z.read(500);
        due("others do", z.block(13, 7), 1);
        z.idle(1);
        due("FETCHED by IDLE now", z.block(14, 7), 1);
    }

    private static int lateOf(AheadPlanner x) {
        x.reads(10, 1, 20);
        return x.count(32);
    }

    private static void joined() {
        promise = 3;
        AheadPlanner x = with(1, 4, 4, 1);
        x.read(10);
        x.read(11);
        x.advise(12, 1);
        x.read(12);
        due("of the same LAST and STRIDE the greater NUMBER goes", x.count(19), 1);
        due("the READ's own stays", x.stream(0, 0), 0);
        due("the other is gone", x.stream(1, 0), MIN);
        AheadPlanner y = with(1, 4, 4, 1);
        y.advise(500, 5);
        y.advise(10, 1);
        y.stop(0);
        y.advise(9, 1);
        due("whose place is the first", y.stream(0, 0), 2);
        due("would(10, 2)", y.would(10, 2), -1);
        due("would(10, 0)", y.would(10, 0), 1);
        y.read(10);
        due("the READ's own goes", y.stream(0, 0), MIN);
        due("JOINED", y.count(19), 1);
        due("whose", y.whose(0, 0), 2);
        due("the elder stays", y.stream(1, 0), 1);
        // All others, by place, till the READ's own goes.
        AheadPlanner z = with(1, 4, 4, 1, 6, 4);
        z.advise(9, 1);
        z.advise(10, 1);
        z.advise(10, 1);
        z.advise(10, 2);
        z.read(10);
        due("both go", z.count(19), 2);
        due("another STRIDE stays", z.stream(3, 0), 3);
        // AGAIN joins, too.
        AheadPlanner w = with();
        w.advise(10, 3);
        w.advise(10, 3);
        due("not by advise", w.count(12), 2);
        w.read(10);
        due("behind AGAIN", w.count(12), 1);
    }

    private static void reads() {
        promise = 4;
        AheadPlanner x = with(7, 100);
        due("n 0", x.reads(10, 1, 0), -1);
        due("n 41", x.reads(10, 1, 41), -1);
        due("n 1", with().reads(10, 1, 1), 0);
        due("n MIN", x.reads(10, 1, MIN), -1);
        due("nothing READ", x.count(0), 0);
        due("n 40", x.reads(10, 1, 40), 37);
        due("READS", x.count(0), 40);
        due("others are passed", x.reads(98, 1, 5), 0);
        due("READS", x.count(0), 42);
        due("from below", x.reads(-2, 1, 3), 0);
        due("the last of it", x.trace(0), 0);
        due("by 0", x.reads(0, 0, 3), 3);
        due("sums beyond int are no BLOCKS", x.reads(2, MAX, 3), 0);
        due("READS", x.count(0), 47);
        due("from MIN", x.reads(MIN, MIN, 3), 0);
        due("READS", x.count(0), 47);
        x.bad(70, true);
        due("BAD ones FAIL", x.reads(70, 0, 2), 0);
        due("FAILED", x.count(3), 2);
        due("READS", x.count(0), 47);
    }

    private static void idle() {
        promise = 5;
        AheadPlanner x = with(2, 1, 0, 32);
        due("n 0", x.idle(0), -1);
        due("n 21", x.idle(21), -1);
        due("no STREAM", x.idle(20), 0);
        AheadPlanner y = with(2, 4, 0, 64);
        y.bad(17, true);
        y.advise(10, 1);
        y.read(11);
        due("WINDOW less AHEAD", y.stream(0, 4) - y.stream(0, 8), 3);
        due("the next is BAD", y.idle(20), 0);
        y.bad(17, false);
        due("n of them", y.idle(2), 2);
        due("EDGE", y.stream(0, 5), 18);
        due("MARKER stays", y.stream(0, 6), 15);
        due("by IDLE", y.count(30), 2);
        due("of AHEAD FETCHED", y.count(5), 8);
        due("its own", y.stream(0, 9), 8);
        due("for it", y.block(18, 4) * 10 + y.block(18, 3), 1);
        due("no BATCH", y.count(9), 2);
        due("till nothing lacks", y.idle(20), 1);
        y.drop(19);
        due("half of 8", y.stream(0, 4), 4);
        due("more AHEAD than WINDOW", y.idle(20), 0);
        // Two STREAMS: the one that lacks most, of like ones the first; one that can't is left out.
        AheadPlanner z = with(2, 4, 0, 64);
        z.bad(17, true);
        z.bad(106, true);
        z.advise(10, 1);
        z.read(11);
        z.advise(100, 1);
        z.read(101);
        z.bad(17, false);
        due("lacks", (z.stream(0, 4) - z.stream(0, 8)) * 10 + z.stream(1, 4) - z.stream(1, 8), 34);
        z.keep(0);
        due("106 is BAD: all for the other", z.idle(20), 3);
        due("EDGE of the other", z.stream(0, 5), 19);
        z.again(0);
        z.bad(106, false);
        z.idle(1);
        due("the one that lacks most", z.block(106, 3), 1);
        z.idle(1);
        due("of like ones the first", z.block(17, 3), 1);
        due("all the rest", z.idle(20), 5);
        // SHARE is not asked; where EDGE is not ahead of LAST, it goes on from LAST.
        AheadPlanner u = with(2, 2, 5, 0);
        u.advise(10, 1);
        u.drop(12);
        u.drop(11);
        u.reads(11, 1, 3);
        due("HELD", u.count(8), 3);
        due("EDGE is LAST", u.stream(0, 5), 13);
        due("IDLE", u.idle(20), 2);
        due("14", u.block(14, 3), 1);
        AheadPlanner w = with(0, 5, 2, 8);
        w.advise(10, 1);
        due("half of ROOM, downwards", w.idle(5), 0);
        due("AHEAD", w.count(11), 2);
        AheadPlanner v = with(7, 14, 2, 8);
        v.advise(10, 1);
        due("none beyond the DISK", v.idle(5), 0);
        due("FETCHED", v.count(5), 3);
    }

    private static void advise() {
        promise = 6;
        AheadPlanner x = with(7, 1000);
        due("no BLOCK", x.advise(1000, 1), -1);
        due("no BLOCK", x.advise(-1, 1), -1);
        due("STRIDE 0", x.advise(5, 0), -1);
        due("STRIDE 65", x.advise(5, 65), -1);
        due("STRIDE -65", x.advise(5, -65), -1);
        due("STRIDE MIN", x.advise(5, MIN), -1);
        due("nothing happened", x.count(14), 0);
        due("STRIDE 64", x.advise(5, 64), 0);
        int[] told = {0, 5, 64, 99, 2, 133, 69, 2, 2, 2, 0, 0};
        for (int what = 0; what < 12; what++) {
            due("stream(0, " + what + ")", x.stream(0, what), told[what]);
        }
        due("not READ", x.count(0) + x.count(16), 0);
        due("not in the CACHE", x.block(5, 1), -1);
        due("LOG", x.log(0, 3) * 100 + x.log(0, 2) * 10 + x.log(0, 0), 200);
        due("STRIDE -64", x.advise(130, -64), 1);
        due("one is SHARED? no", x.count(7), 0);
        due("EDGE", x.stream(1, 5), 2);
        due("BAD is fine", x.bad(700, true), true);
        due("as a BLOCK", x.advise(700, 1), 2);
        x.advise(800, 1);
        due("all PROVED: the least USED", x.advise(900, 1), 0);
    }

    private static void write() {
        promise = 7;
        AheadPlanner x = with(7, 100);
        due("no BLOCK", x.write(100, 1), -1);
        due("no BLOCK", x.write(-1, 1), -1);
        due("too much", x.write(5, 1000003), -1);
        due("too little", x.write(5, -1), -1);
        due("as it was", x.write(5, 0), 39608);
        due("what was written", x.write(5, 1000002), 0);
        due("on the DISK", x.block(5, 0), 1000002);
        due("not in the CACHE", x.block(5, 1), -1);
        due("READ", x.read(5), 1000002);
        due("while cached", x.write(5, 77), 1000002);
        due("in the CACHE, too", x.block(5, 1), 77);
        due("a HIT", x.read(5), 77);
        due("STAMPS stay by it", x.count(15), 2);
        x.bad(6, true);
        due("a BAD one", x.write(6, 8), 47527);
        due("stays BAD", x.block(6, 5), 1);
        due("with its CONTENT", x.block(6, 0), 8);
        x.bad(6, false);
        due("BAD no more", x.read(6), 8);
    }

    private static void bad() {
        promise = 8;
        AheadPlanner x = with(7, 100);
        due("no such", x.bad(100, true), false);
        due("no such", x.bad(-1, true), false);
        due("0", x.bad(0, true) && x.bad(99, true), true);
        x.sets(7, 99);
        due("99 is beyond SIZE", x.count(18), 1);
        x.sets(7, 100);
        due("and comes back", x.count(18), 2);
        due("no more", x.bad(0, false) && x.bad(99, false), true);
        due("it is so", x.bad(5, false), false);
        due("BAD", x.bad(5, true), true);
        due("it is so", x.bad(5, true), false);
        due("count", x.count(18), 1);
        due("block", x.block(5, 5), 1);
        due("FAILS", x.read(5), -2);
        due("no more", x.bad(5, false), true);
        due("READ", x.read(5), 39608);
        due("while cached", x.bad(5, true), true);
        due("stays cached", x.block(5, 1), 39608);
    }

    private static void drop() {
        promise = 9;
        AheadPlanner x = with(2, 4);
        due("not there", x.drop(10), false);
        due("no such", x.drop(-1), false);
        due("no such", x.drop(MAX), false);
        x.reads(10, 1, 3);
        due("a READ one", x.drop(10), true);
        due("gone", x.block(10, 1), -1);
        due("not WASTED", x.count(6), 0);
        due("again", x.drop(10), false);
        due("AHEAD", x.drop(14), true);
        due("WASTED", x.count(6), 1);
        due("its own", x.stream(0, 11), 1);
        due("half", x.stream(0, 4), 2);
        due("LOG", x.log(0, 0) * 100 + x.log(0, 2) * 10 + x.log(0, 3), 342);
        due("CACHE", x.count(10), 5);
        due("AHEAD", x.count(11), 3);
        x.stop(0);
        due("of a STREAM that is gone", x.drop(15), true);
        due("WASTED", x.count(6), 2);
    }

    private static void stop() {
        promise = 10;
        AheadPlanner x = new AheadPlanner();
        due("none", x.stop(0), -1);
        due("none", x.stop(-1), -1);
        due("none", x.stop(6), -1);
        due("none", x.stop(MAX), -1);
        x.read(500);
        x.reads(10, 1, 3);
        due("its NUMBER", x.stop(1), 1);
        due("gone", x.stream(1, 0), MIN);
        due("again", x.stop(1), -1);
        due("STREAMS", x.count(12), 1);
        due("came", x.count(14), 2);
        due("AHEAD stays", x.count(11), 2);
        due("NUMBER stays", x.block(13, 4), 1);
        x.read(900);
        due("the first free place, a new NUMBER", x.stream(1, 0), 2);
    }

    private static void keepAndAgain() {
        promise = 11;
        AheadPlanner x = with(0, 8);
        due("k -1", x.keep(-1), false);
        due("k 2", x.keep(2), false);
        x.reads(10, 1, 3);
        x.write(3, 4);
        due("k 0", x.keep(0), true);
        promise = 12;
        due("k 1: nothing kept", x.again(1), false);
        due("k -1", x.again(-1), false);
        due("k 2", x.again(2), false);
        due("nothing happens: READS", x.count(0), 3);
        due("nothing happens: the DISK", x.block(0, 0), 13);
        x.write(3, 5);
        x.bad(90, true);
        x.reads(13, 1, 20);
        due("k 1", x.keep(1), true);
        x.sets(7, 100);
        x.sets(1, 3);
        due("k 0", x.again(0), true);
        due("READS", x.count(0), 3);
        due("ROOM", x.count(20), 8);
        due("NEED", x.count(21), 2);
        due("SIZE", x.count(27), 10000);
        due("the DISK", x.block(3, 0), 4);
        due("BAD", x.count(18), 0);
        due("WINDOW", x.stream(0, 4), 2);
        due("EDGE", x.stream(0, 5), 14);
        due("CACHE", x.cached(0) * 100 + x.cached(4), 1014);
        due("not what came later", x.block(20, 1), -1);
        due("TRACE", x.trace(0), 12);
        due("LOG", x.count(31), 1);
        x.read(500);
        due("it stays kept", x.again(0), true);
        due("READS", x.count(0), 3);
        due("the other", x.again(1), true);
        due("READS", x.count(0), 23);
        due("BAD", x.count(18), 1);
        due("CONTENT", x.block(3, 0), 5);
        x.read(33);
        x.keep(1);
        x.read(34);
        x.again(1);
        due("kept anew", x.count(0), 24);
        AheadPlanner y = new AheadPlanner();
        due("a new object is kept", y.keep(1), true);
        due("k 0: nothing kept", y.again(0), false);
        y.write(9999, 1);
        y.read(9999);
        due("as it was at first", y.again(1), true);
        due("READS at first", y.count(0), 0);
        due("CONTENT at first", y.block(9999, 0), (7919 * 9999 + 13) % 1000003);
        due("not in the CACHE", y.block(9999, 1), -1);
    }

    private static void block() {
        promise = 13;
        AheadPlanner x = with(7, 100, 9, 4);
        x.reads(10, 1, 3);
        int[] read = {95041, 95041, 3, 0, -1, 0, 1, 0};
        int[] fetched = {102960, 102960, 4, 1, 0, 0, 0, 4};
        int[] other = {110879 + 7919 * 3, -1, -1, -1, -1, 0, -1, -1};
        for (int what = 0; what < 8; what++) {
            due("block(12, " + what + ")", x.block(12, what), read[what]);
            due("block(13, " + what + ")", x.block(13, what), fetched[what]);
            due("block(17, " + what + ")", x.block(17, what), other[what]);
        }
        due("what -1", x.block(12, -1), -1);
        due("what 8", x.block(12, 8), -1);
        due("no such", x.block(100, 0), -1);
        due("no such", x.block(-1, 5), -1);
        x.read(13);
        due("not AHEAD any more", x.block(13, 3), 0);
        due("NUMBER stays", x.block(13, 4), 0);
        due("STAMP", x.block(13, 2), 6);
        due("TOUCHED", x.block(13, 6), 1);
        due("to come", x.block(13, 7), 3);
        x.reads(50, 0, 5);
        due("DUE", x.block(13, 7), 0);
    }

    private static void cached() {
        promise = 14;
        AheadPlanner x = new AheadPlanner();
        x.read(50);
        x.read(90);
        x.read(20);
        x.read(50);
        due("0", x.cached(0), 90);
        due("1", x.cached(1), 20);
        due("2", x.cached(2), 50);
        due("3", x.cached(3), -1);
        due("-1", x.cached(-1), -1);
        due("MAX", x.cached(MAX), -1);
    }

    private static void stream() {
        promise = 15;
        AheadPlanner x = with(2, 4);
        x.reads(100, -2, 4);
        x.drop(90);
        // FIRST 4: 94, 92, 90, 88; MARKER 94: WINDOW 8, from 86 on up to 8 AHEAD: 86 .. 78; drop(90) halves it.
        int[] told = {0, 94, -2, 3, 4, 78, 86, 13, 7, 9, 1, 1};
        for (int what = 0; what < 12; what++) {
            due("stream(0, " + what + ")", x.stream(0, what), told[what]);
        }
        due("what -1", x.stream(0, -1), MIN);
        due("what 12", x.stream(0, 12), MIN);
        due("place 1", x.stream(1, 0), MIN);
        due("place -1", x.stream(-1, 0), MIN);
        due("place 6", x.stream(6, 0), MIN);
        due("place MAX", x.stream(MAX, 0), MIN);
        x.read(5000);
        int[] fresh = {1, 5000, 0, 0, 0, 5000, -1, 14, 0, 0, 0, 0};
        for (int what = 0; what < 12; what++) {
            due("stream(1, " + what + ")", x.stream(1, what), fresh[what]);
        }
    }

    private static void aheadOf() {
        promise = 16;
        AheadPlanner x = with(2, 4);
        x.advise(100, -3);
        due("0", x.aheadOf(0, 0), 97);
        due("3", x.aheadOf(0, 3), 88);
        due("4", x.aheadOf(0, 4), -1);
        due("-1", x.aheadOf(0, -1), -1);
        due("place 1", x.aheadOf(1, 0), -1);
        due("place -1", x.aheadOf(-1, 0), -1);
        due("place MAX", x.aheadOf(MAX, 0), -1);
        x.drop(94);
        due("1", x.aheadOf(0, 1), 91);
        x.read(97);
        due("from LAST on", x.aheadOf(0, 0), 91);
        x.read(4000);
        due("no STRIDE", x.aheadOf(1, 0), -1);
        // What is not before it is left out: EDGE runs on though 13 was never READ as AHEAD.
        AheadPlanner y = with(2, 4, 4, 1);
        y.advise(10, 1);
        y.advise(12, 1);
        y.drop(13);
        due("SHARED ones are the other's", y.aheadOf(1, 0), 15);
        due("the first has them", y.aheadOf(0, 2), 14);
    }

    private static void gain() {
        promise = 17;
        AheadPlanner x = new AheadPlanner();
        due("empty: 0", x.gain(0), 0);
        due("empty: 1", x.gain(1), -1);
        due("empty: 2", x.gain(2), -1);
        due("3", x.gain(3), MIN);
        due("-1", x.gain(-1), MIN);
        x.reads(10, 1, 10);
        due("7 HITS by reading ahead", x.gain(0), 7);
        int fetched = x.count(5);
        due("HITS AHEAD of a hundred", x.gain(1), 700 / fetched);
        x.drop(x.stream(0, 5));
        due("WASTED of a hundred", x.gain(2), 100 / fetched);
        // The TRACE READ anew: what was done beside it does not count.
        AheadPlanner y = new AheadPlanner();
        y.advise(9, 1);
        y.reads(10, 1, 3);
        due("advice is not READ anew", y.gain(0), 0);
        y.read(13);
        due("one", y.gain(0), 1);
        // misses() counts what FAILS now, replay() does not.
        y.bad(10, true);
        due("a READ that FAILS now", y.gain(0), 1);
    }

    private static void log() {
        promise = 18;
        AheadPlanner x = with(3, 3);
        due("empty", x.log(0, 0), -1);
        x.read(900);
        x.reads(10, 1, 5);
        int[] latest = {5, 1, 2, 3};
        int[] first = {4, 1, 0, 2};
        for (int what = 0; what < 4; what++) {
            due("log(0, " + what + ")", x.log(0, what), latest[what]);
            due("log(1, " + what + ")", x.log(1, what), first[what]);
        }
        due("2", x.log(2, 0), -1);
        due("-1", x.log(-1, 0), -1);
        due("what 4", x.log(0, 4), -1);
        due("what -1", x.log(0, -1), -1);
        due("no change, no row", x.count(31), 2);
        AheadPlanner y = with(1, 1, 2, 1, 3, 1);
        for (int i = 0; i < 45; i++) {
            y.reads(i * 100, 1, 2);
        }
        due("the last 40", y.count(31), 40);
        due("the latest", y.log(0, 1), 44);
        due("the eldest", y.log(39, 1), 5);
        due("none behind", y.log(40, 1), -1);
    }

    private static void piece() {
        promise = 19;
        AheadPlanner x = new AheadPlanner();
        due("empty", x.piece(-1, 0), 0);
        due("empty", x.piece(-1, 1), 0);
        due("empty", x.piece(0, 0), -1);
        x.reads(10, 1, 3);
        x.reads(12, 1, 2);
        x.reads(11, -1, 2);
        // 10 11 12 | 12 13 | 11 | 10
        due("pieces", x.piece(-1, 0), 4);
        due("the longest", x.piece(-1, 1), 3);
        due("first", x.piece(0, 0) * 100 + x.piece(0, 1), 310);
        due("second", x.piece(1, 0) * 100 + x.piece(1, 1), 212);
        due("last", x.piece(3, 0) * 100 + x.piece(3, 1), 110);
        due("4", x.piece(4, 0), -1);
        due("-2", x.piece(-2, 0), -1);
        due("what 2", x.piece(0, 2), -1);
        due("what 2", x.piece(-1, 2), -1);
        due("what -1", x.piece(-1, -1), -1);
    }

    private static void whose() {
        promise = 20;
        AheadPlanner x = new AheadPlanner();
        due("empty", x.whose(0, 0), -1);
        x.read(10);
        x.read(500);
        x.read(11);
        x.read(12);
        x.read(500);
        int[] numbers = {1, 0, 0, 1, 0};
        int[] kinds = {2, 1, 3, 4, 4};
        for (int i = 0; i < 5; i++) {
            due("whose(" + i + ", 0)", x.whose(i, 0), numbers[i]);
            due("whose(" + i + ", 1)", x.whose(i, 1), kinds[i]);
        }
        due("5", x.whose(5, 0), -1);
        due("-1", x.whose(-1, 0), -1);
        due("what 2", x.whose(0, 2), -1);
        due("what -1", x.whose(0, -1), -1);
        x.stop(0);
        due("as when it was READ", x.whose(1, 0), 0);
    }

    private static void mixed() {
        promise = 21;
        AheadPlanner x = new AheadPlanner();
        due("empty 0", x.mixed(0), 0);
        due("empty 1", x.mixed(1), 0);
        due("empty 2", x.mixed(2), 0);
        due("3", x.mixed(3), -1);
        due("-1", x.mixed(-1), -1);
        x.read(10);
        x.read(500);
        x.read(11);
        x.read(12);
        x.read(900);
        due("changes", x.mixed(0), 3);
        due("STREAMS", x.mixed(1), 3);
        due("most", x.mixed(2), 3);
    }

    private static void trace() {
        promise = 22;
        AheadPlanner x = new AheadPlanner();
        due("empty", x.trace(0), -1);
        for (int i = 0; i < 11; i++) {
            x.reads(i * 40, 1, 40);
        }
        due("the last 400", x.count(16), 400);
        due("READS", x.count(0), 440);
        due("latest", x.trace(0), 439);
        due("eldest", x.trace(399), 40);
        due("400", x.trace(400), -1);
        due("-1", x.trace(-1), -1);
    }

    private static void would() {
        promise = 23;
        AheadPlanner x = with(7, 1000, 0, 8, 4, 5);
        due("no such", x.would(1000, 0), -1);
        due("no such", x.would(-1, 0), -1);
        x.read(500);
        x.reads(10, 1, 3);
        x.bad(600, true);
        int[][] want = {
            {13, 1, 1, 1, 3, 0, 0}, {12, 2, 1, 1, 0, 0, 0}, {505, 3, 0, 0, 0, 0, 0}, {494, 4, 0, 2, 0, 0, 0},
            {600, 0, 0, -1, 0, 0, 0}, {500, 2, 1, 0, 0, 0, 0}};
        for (int[] w : want) {
            for (int what = 0; what < 6; what++) {
                due("would(" + w[0] + ", " + what + ")", x.would(w[0], what), w[what + 1]);
            }
        }
        due("what 6", x.would(13, 6), -1);
        due("what -1", x.would(13, -1), -1);
        due("on paper", x.count(0) * 100 + x.count(3) * 10 + x.count(14), 402);
        x.read(700);
        x.read(800);
        due("full", x.count(10), 8);
        x.read(500);
        x.reads(10, 1, 3);
        x.read(700);
        x.read(800);
        due("a MISS would waste", x.would(900, 5), 1);
        due("none WASTED now", x.count(6), 0);
        AheadPlanner y = with(2, 4, 4, 1);
        y.read(14);
        y.reads(10, 1, 2);
        due("SHARED", y.would(12, 4), 1);
        due("FETCHED", y.would(12, 3), 3);
    }

    private static void plan() {
        promise = 24;
        AheadPlanner x = with(2, 4, 4, 1);
        x.read(14);
        x.reads(10, 1, 2);
        due("0", x.plan(12, 0), 13);
        due("1", x.plan(12, 1), 15);
        due("2", x.plan(12, 2), 16);
        due("3", x.plan(12, 3), -1);
        due("-1", x.plan(12, -1), -1);
        due("no such", x.plan(10000, 0), -1);
        due("no such", x.plan(-1, 0), -1);
        due("another", x.plan(500, 0), -1);
        x.bad(12, true);
        due("FAILS", x.plan(12, 0), -1);
        due("on paper", x.count(0) * 10 + x.count(5), 30);
    }

    private static void replay() {
        promise = 25;
        AheadPlanner x = with(7, 1000);
        due("empty", x.replay(0, 16, 2), 0);
        x.advise(9, 1);
        x.reads(10, 1, 6);
        x.drop(11);
        due("MISSES", x.replay(1, 2, 2), 3);
        due("NEED 1", x.replay(1, 1, 2), 2);
        due("NEED 4", x.replay(1, 4, 2), 5);
        due("tells TERMS with v", x.replay(1, 4, 21), 4);
        due("other TERMS", x.replay(1, 4, 20), 16);
        due("NUMBER from 0 on", x.replay(1, 2, 14), 1);
        due("the TRACE", x.replay(1, 2, 16), 6);
        due("TABLE", x.replay(6, 1, 26), 1);
        due("SIZE as it is", x.replay(7, 1000, 0), 6);
        due("another SIZE", x.replay(7, 999, 0), MIN);
        due("no SIZE", x.replay(7, 10001, 0), MIN);
        due("no TERM", x.replay(10, 1, 0), MIN);
        due("no TERM", x.replay(-1, 1, 0), MIN);
        due("no v", x.replay(0, 3, 0), MIN);
        due("no v", x.replay(0, 65, 0), MIN);
        due("no what", x.replay(0, 16, 34), MIN);
        due("no what", x.replay(0, 16, -1), MIN);
        due("on paper", x.count(0) * 100 + x.count(21), 602);
        due("LATE by LAG 8: 13, 14, 15", x.replay(9, 8, 32), 3);
        due("8, 7 and 7 to come", x.replay(9, 8, 33), 22);
        x.bad(12, true);
        due("FAILS now: passed over", x.replay(1, 2, 3), 1);
        due("READS", x.replay(1, 2, 0), 5);
        due("BAD BLOCKS", x.replay(1, 2, 18), 1);
        due("by IDLE: none", x.replay(1, 2, 30), 0);
    }

    private static void forecast() {
        promise = 26;
        AheadPlanner x = with(7, 1000, 9, 1);
        due("none PROVED", x.forecast(5, 0), 0);
        x.read(500);
        x.reads(10, 1, 3);
        x.advise(995, 2);
        due("n 0", x.forecast(0, 0), -1);
        due("n 21", x.forecast(21, 0), -1);
        due("what 4", x.forecast(1, 4), -1);
        due("what -1", x.forecast(1, -1), -1);
        due("READS of one round", x.forecast(1, 0), 2);
        due("997, 999, then none", x.forecast(5, 0), 7);
        due("HITS", x.forecast(5, 1), 7);
        due("WASTED", x.forecast(5, 2), 0);
        due("LATE in the first round", x.forecast(1, 3), 1);
        due("on paper", x.count(0), 4);
        x.bad(15, true);
        due("those that FAIL are none", x.forecast(5, 0), 4);
        due("20 rounds", with().forecast(20, 0), 0);
    }

    private static void tune() {
        promise = 27;
        AheadPlanner x = new AheadPlanner();
        due("empty NEED", x.tune(0), 1);
        due("empty FIRST", x.tune(1), 1);
        due("empty MISSES", x.tune(2), 0);
        due("3", x.tune(3), -1);
        due("-1", x.tune(-1), -1);
        x.reads(10, 1, 6);
        due("NEED", x.tune(0), 1);
        due("FIRST", x.tune(1), 1);
        due("MISSES", x.tune(2), 2);
        // Pairs that lead nowhere push out what is READ again, but by a greater NEED they don't.
        AheadPlanner y = with(0, 4, 4, 2, 5, 100);
        for (int i = 0; i < 6; i++) {
            y.read(1000);
            y.read(2000);
            y.read(10 + 20 * i);
            y.read(11 + 20 * i);
        }
        due("NEED", y.tune(0), 2);
        due("FIRST", y.tune(1), 1);
        due("MISSES", y.tune(2), y.replay(1, 2, 2));
        due("as it was", y.count(21) * 10 + y.count(22), 22);
    }

    private static void best() {
        promise = 28;
        AheadPlanner x = new AheadPlanner();
        int[] low = {4, 1, 1, 1, 1, 0, 1, 1, 0, 0};
        for (int term = 0; term < 10; term++) {
            due("empty " + term, x.best(term, 0), term == 7 ? -1 : low[term]);
            due("empty MISSES " + term, x.best(term, 1), term == 7 ? -1 : 0);
        }
        due("no TERM", x.best(10, 0), -1);
        due("no TERM", x.best(-1, 0), -1);
        due("what 2", x.best(0, 2), -1);
        due("what -1", x.best(0, -1), -1);
        for (int round = 0; round < 3; round++) {
            for (int b = 0; b < 10; b++) {
                x.read(b * 100);
            }
        }
        due("ROOM for all ten", x.best(0, 0), 10);
        due("MISSES", x.best(0, 1), 10);
        AheadPlanner y = with(4, 1);
        y.reads(10, 7, 8);
        due("REACH", y.best(4, 0), 7);
        due("MISSES", y.best(4, 1), 3);
        due("NEED", y.best(1, 0), 1);
        due("as it was", y.count(24), 1);
    }

    private static void misses() {
        promise = 29;
        AheadPlanner x = new AheadPlanner();
        due("empty", x.misses(1, 0), 0);
        due("empty", x.misses(64, 1), 0);
        due("c 0", x.misses(0, 0), -1);
        due("c 65", x.misses(65, 1), -1);
        due("what 2", x.misses(1, 2), -1);
        due("what -1", x.misses(1, -1), -1);
        int[] blocks = {1, 2, 3, 4, 1, 2, 5, 1, 2, 3, 4, 5};
        for (int b : blocks) {
            x.read(b);
        }
        due("not READ for longest, of 3", x.misses(3, 0), 10);
        due("not READ for longest, of 4", x.misses(4, 0), 8);
        due("at best of 3", x.misses(3, 1), 7);
        due("at best of 4", x.misses(4, 1), 6);
        due("of 1", x.misses(1, 1), 12);
        due("of 64", x.misses(64, 0), 5);
        x.bad(5, true);
        due("BAD or not", x.misses(64, 0), 5);
    }

    private static void row() {
        promise = 30;
        AheadPlanner x = new AheadPlanner();
        due("empty", x.row(1, 0), -1);
        for (int b : new int[] {50, 10, 70, 12, 52, 9999, 14, 54, 56, 13, 0}) {
            x.read(b);
        }
        due("2", x.row(2, 0), 4);
        due("begins", x.row(2, 1), 50);
        due("1", x.row(1, 0), 2);
        due("1 begins with", x.row(1, 1), 12);
        due("of several the one that ends first", x.row(-1, 1), 14);
        due("9999", x.row(-9999, 0), 2);
        due("10000", x.row(10000, 0), 1);
        due("-10000 begins", x.row(-10000, 1), 50);
        due("d 0", x.row(0, 0), -1);
        due("d 10001", x.row(10001, 0), -1);
        due("d -10001", x.row(-10001, 0), -1);
        due("what 2", x.row(1, 2), -1);
        due("what -1", x.row(1, -1), -1);
        AheadPlanner y = new AheadPlanner();
        for (int b : new int[] {20, 30, 21, 31, 32, 22}) {
            y.read(b);
        }
        due("30 31 32 ends ahead of 20 21 22", y.row(1, 1), 30);
        due("how many", y.row(1, 0), 3);
    }

    private static void pace() {
        promise = 31;
        AheadPlanner x = new AheadPlanner();
        due("empty", x.pace(0), -1);
        x.read(10);
        due("all like: 1", x.pace(0), 1);
        due("how many", x.pace(1), 1);
        x.read(5);
        due("-5", x.pace(0), -5);
        x.read(10);
        due("5 is as long, and above 0", x.pace(0), 5);
        x.read(11);
        due("1 is the least without sign", x.pace(0), 1);
        due("how many", x.pace(1), 2);
        x.reads(1000, -64, 4);
        due("-64", x.pace(0), -64);
        due("how many", x.pace(1), 4);
        x.reads(3000, 65, 9);
        due("65 is beyond", x.pace(1), 4);
        due("what 2", x.pace(2), -1);
        due("what -1", x.pace(-1), -1);
    }

    private static void until() {
        promise = 32;
        AheadPlanner x = with(1, 4, 7, 200);
        due("none", x.until(0), -1);
        due("none", x.until(-1), -1);
        due("none", x.until(MAX), -1);
        x.read(10);
        due("no STRIDE", x.until(0), -1);
        x.read(12);
        due("3 more till it is PROVED", x.until(0), 3);
        x.bad(14, true);
        due("BAD ones like others", x.until(0), 3);
        AheadPlanner y = with(2, 4);
        y.advise(10, 1);
        due("the MARKER", y.until(0), 1);
        y.read(11);
        due("the next MARKER", y.until(0), 4);
        // Without a MARKER: where EDGE is not ahead of LAST.
        AheadPlanner z = with(5, 0, 2, 4);
        z.advise(10, 1);
        z.drop(14);
        z.read(11);
        due("HELD", z.count(8), 1);
        due("till EDGE", z.until(0), 3);
        AheadPlanner w = with(7, 13);
        w.advise(10, 1);
        w.read(11);
        due("12 is EDGE", w.until(0), 1);
        w.read(12);
        due("leaves the DISK", w.until(0), -1);
    }

    private static void ahead() {
        promise = 33;
        AheadPlanner x = new AheadPlanner();
        x.read(50);
        x.read(90);
        x.read(20);
        x.read(50);
        due("90", x.ahead(90), 0);
        due("20", x.ahead(20), 1);
        due("50", x.ahead(50), 2);
        due("not there", x.ahead(51), -1);
        due("no such", x.ahead(-1), -1);
        due("no such", x.ahead(MAX), -1);
    }

    private static void habits() {
        promise = 34;
        AheadPlanner x = new AheadPlanner();
        due("empty", x.habits(0), -1);
        due("empty", x.habits(4), -1);
        for (int b : new int[] {7, 8, 9, 7, 8, 3, 3}) {
            x.read(b);
        }
        due("unlike", x.habits(0), 4);
        due("none between", x.habits(1), 0);
        due("most often, the least", x.habits(2), 3);
        due("how often", x.habits(3), 2);
        due("behind the one ahead", x.habits(4), 3);
        x.read(9);
        due("between 9 and 9", x.habits(1), 4);
        x.read(100);
        due("READ once", x.habits(1), -1);
        due("5", x.habits(5), -1);
        due("-1", x.habits(-1), -1);
    }

    private static void count() {
        promise = 35;
        AheadPlanner x = with(0, 8, 2, 4, 5, 0, 9, 2, 6, 2);
        x.bad(100, true);
        x.bad(101, true);
        x.read(900);
        x.reads(10, 1, 4);
        x.read(100);
        x.drop(14);
        x.read(15);
        x.idle(1);
        // 900; 10 11 12; 12 fetches 13 14 15 16; 13 is LATE (2) and the MARKER: 17 only, then 4 are AHEAD;
        // drop(14) wastes one; 15 is no STEP: NEW in the place of 900, LATE (1).
        int[] want = {6, 2, 4, 1, 2, 6, 1, 0, 0, 2, 8, 3, 2, 1, 3, 12, 6, 8, 2, 0,
            8, 2, 4, 8, 16, 0, 2, 10000, 0, 2, 1, 4, 2, 3};
        for (int what = 0; what < want.length; what++) {
            due("count(" + what + ")", x.count(what), want[what]);
        }
        due("34", x.count(34), -1);
        due("-1", x.count(-1), -1);
        due("MIN", x.count(MIN), -1);
    }
}
