/** The boundary cases of "Terms", II.: streams, how they are found, batches, what joins, idle, advice, the log. */
public final class StreamsEdgeTest extends Edges {
    public static void main(String[] args) {
        places();
        step();
        again();
        pair();
        newInFreePlaces();
        newInPlacesOfOthers();
        proved();
        markers();
        edges();
        heldBatches();
        batchesAtTheDisksEnds();
        batchesAtBadBlocks();
        batchesAtHalfOfRoom();
        markersOfBatches();
        waste();
        joined();
        idleByLack();
        idleByNext();
        idleByRoom();
        advised();
        log();
        end();
    }

    private static void places() {
        says("II.", "in one of TABLE places (0 on)", () -> {
            AheadPlanner x = read(with(TABLE, 2), 1000, 2000, 3000);
            due("place 0", x.stream(0, 1), 3000);
            due("place 1", x.stream(1, 1), 2000);
            due("no place 2", x.stream(2, 1), MIN);
            due("no place -1", x.stream(-1, 1), MIN);
        });
        says("II.", "a NUMBER (0, 1, .. as they come)", () -> {
            AheadPlanner x = read(new AheadPlanner(), 1000);
            due("the first", x.stream(0, 0), 0);
            x.advise(2000, 1);
            due("the second", x.stream(1, 0), 1);
            x.stop(1);
            x.read(3000);
            due("no NUMBER comes again", x.stream(1, 0), 2);
        });
        says("II.", "STRIDE (0: none), PROOF, WINDOW (0: it is not PROVED), EDGE, MARKER (none)", () -> {
            AheadPlanner x = read(new AheadPlanner(), 0);
            int[] told = {0, 0, 0, 0, 0, 0, NONE, 1, 0, 0, 0, 0};
            for (int what = 0; what < told.length; what++) {
                due("stream(0, " + what + ")", x.stream(0, what), told[what]);
            }
            due("none PROVED", x.count(13), 0);
        });
        says("II.", "USED (the latest STAMP at the end of a READ that was its)", () -> {
            AheadPlanner x = read(new AheadPlanner(), 10, 11, 12);
            due("with those of the BATCH", x.stream(0, 7), 5);
            x.read(1000);
            due("not by another's", x.stream(0, 7), 5);
            x.drop(14);
            x.idle(1);
            due("not by IDLE", x.stream(0, 7), 5);
        });
    }

    private static void step() {
        says("II.", "By a READ of b, the first of these that is so", () -> {
            AheadPlanner x = read(with(), 10);
            x.advise(9, 1);
            x.read(10);
            due("STEP of the second ahead of AGAIN of the first", x.whose(0, 0) * 10 + x.whose(0, 1), 11);
            AheadPlanner y = with();
            y.advise(20, 2);
            y.read(21);
            y.read(22);
            due("STEP of the first ahead of PAIR of the second", y.whose(0, 0) * 10 + y.whose(0, 1), 1);
            AheadPlanner z = read(with(), 105);
            z.advise(110, 1);
            z.read(110);
            due("AGAIN of the second ahead of PAIR of the first", z.whose(0, 0) * 10 + z.whose(0, 1), 12);
            due("PAIR ahead of NEW", read(with(), 10, 26).count(14), 1);
            due("NEW, as it is none of these", read(with(), 10, 27).count(14), 2);
        });
        says("II.", "the first PROVED one, without the first", () -> {
            AheadPlanner x = read(with(NEED, 4, REACH, 2), 20, 22);
            x.advise(23, 1);
            x.read(24);
            due("PROVED, though it is the second", x.whose(0, 0), 1);
            AheadPlanner y = with();
            y.advise(22, 2);
            y.advise(23, 1);
            y.read(24);
            due("both PROVED: the first", y.whose(0, 0), 0);
            AheadPlanner z = read(with(NEED, 4, REACH, 2), 20, 22, 26, 25);
            due("two that are not PROVED, to 24", z.stream(0, 2) * 10 + z.stream(1, 2), 19);
            z.read(24);
            due("a STEP", z.whose(0, 1), 1);
            due("none PROVED: the first", z.whose(0, 0), 0);
            AheadPlanner w = read(with(NEED, 4, REACH, 2, FIRST_WINDOW, 1), 20, 22);
            w.advise(23, 1);
            w.read(24);
            due("PROVED by a WINDOW of 1, though it is the second", w.whose(0, 0), 1);
        });
        says("II.", "LAST is b, PROOF 1 more (99 at most)", () -> {
            AheadPlanner x = with();
            x.reads(0, 1, 40);
            x.reads(40, 1, 40);
            x.reads(80, 1, 19);
            due("98", x.stream(0, 3), 98);
            x.read(99);
            due("99", x.stream(0, 3), 99);
            x.read(100);
            due("99 at most", x.stream(0, 3), 99);
            due("LAST", x.stream(0, 1), 100);
        });
    }

    private static void again() {
        says("II.", "AGAIN: the first STREAM with LAST b: nothing but USED", () -> {
            AheadPlanner x = with();
            x.advise(10, 1);
            x.advise(10, 2);
            int[] before = streamsOf(x);
            x.read(10);
            due("AGAIN", x.whose(0, 1), 2);
            due("the first", x.whose(0, 0), 0);
            due("USED", x.stream(0, 7), x.count(15));
            int[] then = streamsOf(x);
            for (int i = 0; i < then.length; i++) {
                due("stream(" + i / 12 + ", " + i % 12 + ")", then[i], i == 7 ? x.count(15) : before[i]);
            }
            due("no BATCH", x.count(9), 2);
        });
    }

    private static int[] streamsOf(AheadPlanner x) {
        int[] told = new int[24];
        for (int i = 0; i < told.length; i++) {
            told[i] = x.stream(i / 12, i % 12);
        }
        return told;
    }

    private static void pair() {
        says("II.", "from whose LAST b is no farther than REACH", () -> {
            for (int reach : new int[] {1, 2, 16, 199, 200}) {
                for (int way = -1; way <= 1; way += 2) {
                    AheadPlanner x = read(with(REACH, reach), 1000, 1000 + way * reach);
                    due("as far as " + way * reach, x.whose(0, 1), 3);
                    due("STRIDE", x.stream(0, 2), way * reach);
                    due("PROOF", x.stream(0, 3), 1);
                    due("LAST", x.stream(0, 1), 1000 + way * reach);
                    due("farther", read(with(REACH, reach), 1000, 1000 + way * (reach + 1)).whose(0, 1), 4);
                }
            }
            due("not one with a STRIDE", read(with(), 10, 12, 13).whose(0, 1), 4);
        });
        says("II.", "the nearest one, of like ones the first", () -> {
            due("the nearest", read(with(REACH, 5), 100, 106, 104).whose(0, 0), 1);
            due("like ones", read(with(REACH, 3), 100, 106, 103).whose(0, 0), 0);
            due("like ones on the same side can't be; from above", read(with(REACH, 3), 106, 100, 103).whose(0, 0), 0);
            due("the nearest, though farther ones come first", read(with(REACH, 5), 106, 100, 102).whose(0, 0), 1);
        });
    }

    private static void newInFreePlaces() {
        says("II.", "NEW: a STREAM with LAST and EDGE b, PROOF 0, without a STRIDE, in the first free place", () -> {
            AheadPlanner x = read(with(), 1000, 2000, 3000);
            x.stop(2);
            x.stop(0);
            x.read(4000);
            due("0 was free", x.stream(0, 1), 4000);
            due("EDGE", x.stream(0, 5), 4000);
            due("PROOF", x.stream(0, 3), 0);
            due("STRIDE", x.stream(0, 2), 0);
            x.read(5000);
            due("then 2", x.stream(2, 1), 5000);
            x.read(6000);
            due("then 3, the last of TABLE", x.stream(3, 1), 6000);
            due("none went", x.stream(1, 1), 2000);
        });
        says("II.", "NEW: a STREAM with LAST and EDGE b, PROOF 0, without a STRIDE", () -> {
            // In the place of one that was PROVED nothing of it is left.
            AheadPlanner x = with(TABLE, 1, LAG, 8);
            x.advise(10, 1);
            x.read(11);
            x.drop(12);
            x.read(5000);
            int[] told = {1, 5000, 0, 0, 0, 5000, NONE, x.count(15), 0, 0, 0, 0};
            for (int what = 0; what < told.length; what++) {
                due("stream(0, " + what + ")", x.stream(0, what), told[what]);
            }
        });
    }

    private static void newInPlacesOfOthers() {
        says("II.", "if there is none, in that of the STREAM that is not PROVED of least USED", () -> {
            AheadPlanner x = with(TABLE, 3);
            x.advise(10, 1);
            read(x, 1000, 2000, 1000, 3000);
            due("the PROVED one stays, though least USED", x.stream(0, 1), 10);
            due("1000 was USED later", x.stream(1, 1), 1000);
            due("in the place of 2000", x.stream(2, 1), 3000);
            AheadPlanner y = read(with(TABLE, 2), 1000);
            y.advise(10, 1);
            y.read(3000);
            due("the only one that is not PROVED is the first", y.stream(0, 1), 3000);
            AheadPlanner z = with(TABLE, 2);
            z.advise(10, 1);
            read(z, 1000, 3000);
            due("the only one that is not PROVED is the last", z.stream(1, 1), 3000);
            AheadPlanner w = with(TABLE, 2, FIRST_WINDOW, 1);
            w.advise(10, 1);
            read(w, 1000, 3000);
            due("PROVED by a WINDOW of 1", w.stream(0, 1), 10);
            due("PROVED", w.count(13), 1);
            AheadPlanner v = read(with(TABLE, 2, FIRST_WINDOW, 1), 1000);
            v.advise(10, 1);
            read(v, 1000, 3000);
            due("PROVED by a WINDOW of 1, in the last place, and of least USED", v.stream(1, 1), 10);
        });
        says("II.", "if all are, of the one of least USED", () -> {
            AheadPlanner x = with(TABLE, 2);
            x.advise(10, 1);
            x.advise(1000, 1);
            x.keep(0);
            x.read(5000);
            due("the first is", x.stream(0, 1), 5000);
            due("the other stays", x.stream(1, 1), 1000);
            x.again(0);
            read(x, 10, 5000);
            due("the last is", x.stream(1, 1), 5000);
            due("the other stays", x.stream(0, 1), 10);
        });
    }

    private static void proved() {
        says("II.", "if it is not PROVED, and PROOF is NEED or more, it is", () -> {
            for (int need = 1; need <= 4; need++) {
                AheadPlanner x = with(NEED, need);
                x.reads(10, 1, need);
                due("NEED " + need + ", PROOF less by 1", x.stream(0, 4), 0);
                due("no BATCH", x.count(9), 0);
                x.read(10 + need);
                due("NEED " + need + ", PROOF as many", x.stream(0, 4), 2);
                due("PROOF", x.stream(0, 3), need);
                due("a BATCH", x.count(9), 1);
            }
        });
        says("II.", "WINDOW is FIRST (MOST, if that is less), EDGE is LAST, a BATCH", () -> {
            due("FIRST 7, MOST 8", read(with(FIRST_WINDOW, 7, MOST, 8), 10, 11, 12).stream(0, 4), 7);
            due("FIRST 8, MOST 8", read(with(FIRST_WINDOW, 8, MOST, 8), 10, 11, 12).stream(0, 4), 8);
            due("FIRST 8, MOST 7", read(with(FIRST_WINDOW, 8, MOST, 7), 10, 11, 12).stream(0, 4), 7);
            AheadPlanner x = with();
            x.bad(13, true);
            read(x, 10, 11);
            due("EDGE where it began", x.stream(0, 5), 10);
            x.read(12);
            due("EDGE is LAST, as the BATCH is empty", x.stream(0, 5), 12);
            due("PROVED", x.stream(0, 4), 2);
        });
    }

    private static void markers() {
        says("II.", "if b is its MARKER, WINDOW is twice it, MOST at most, and a BATCH", () -> {
            int[][] most = {{5, 5}, {6, 6}, {7, 6}};
            for (int[] m : most) {
                AheadPlanner x = with(FIRST_WINDOW, 3, MOST, m[0]);
                x.advise(10, 1);
                x.read(11);
                due("MOST " + m[0], x.stream(0, 4), m[1]);
                due("BATCHES", x.count(9), 2);
                x.read(12);
                due("no MARKER", x.stream(0, 4), m[1]);
                due("no BATCH", x.count(9), 2);
            }
        });
        says("II.", "MARKER, WINDOW is twice it", () -> {
            AheadPlanner x = with(SIZE, 2_000);
            x.advise(10, 1);
            x.advise(1000, 1);
            x.read(11);
            due("its own", x.stream(0, 4), 4);
            due("not that of another", x.stream(1, 4), 2);
            AheadPlanner y = with(REACH, 1);
            y.advise(10, 1);
            y.advise(9, 2);
            y.stop(0);
            y.read(11);
            due("a MARKER of one that is gone", y.stream(1, 4), 4);
            due("that was SHARED", y.count(7), 1);
        });
    }

    private static void edges() {
        says("II.", "if EDGE is not ahead of LAST (by the way of STRIDE), EDGE is LAST, and a BATCH", () -> {
            for (int way = -1; way <= 1; way += 2) {
                AheadPlanner x = with(SHARE, 0, FIRST_WINDOW, 3);
                x.advise(100, way);
                x.drop(100 + 3 * way);
                x.read(100 + way);
                due("HELD at the MARKER", x.count(8) * 10 + x.count(9), 12);
                due("EDGE as it was", x.stream(0, 5), 100 + 3 * way);
                x.read(100 + 2 * way);
                due("EDGE is ahead by one: no BATCH", x.count(9), 2);
                x.read(100 + 3 * way);
                due("EDGE is LAST: a BATCH", x.count(9), 3);
                x.read(100 + 4 * way);
                due("EDGE was behind: a BATCH", x.count(9), 4);
                due("EDGE is LAST", x.stream(0, 5), 100 + 4 * way);
                due("WINDOW is not twice it by that", x.stream(0, 4), 2);
            }
        });
    }

    private static void heldBatches() {
        says("II.", "If WASTED times 100 is above SHARE times AHEAD FETCHED (both so far), it is HELD", () -> {
            AheadPlanner all = with(FIRST_WINDOW, 1, SHARE, 99);
            all.advise(10, 1);
            all.drop(11);
            all.read(11);
            due("1 of 1, SHARE 99", all.count(8), 1);
            int[][] heldBy = {{25, 0}, {24, 1}, {26, 0}, {0, 1}, {100, 0}};
            for (int[] h : heldBy) {
                AheadPlanner x = with(FIRST_WINDOW, 4, SHARE, h[0]);
                x.advise(10, 1);
                x.drop(14);
                due("1 of 4", x.count(6) * 10 + x.count(5), 14);
                x.read(11);
                due("SHARE " + h[0], x.count(8), h[1]);
                due("FETCHED, if not HELD", x.count(5) > 4, h[1] == 0);
            }
            AheadPlanner y = with(SHARE, 0);
            y.advise(9_999, 1);
            y.read(500);
            y.advise(9_998, 1);
            due("nothing WASTED of nothing FETCHED", y.count(8), 0);
        });
        says("II.", "A BATCH: MARKER is none", () -> {
            AheadPlanner x = with(SHARE, 0);
            x.advise(10, 1);
            due("MARKER", x.stream(0, 6), 11);
            x.drop(12);
            x.read(11);
            due("HELD: none", x.stream(0, 6), NONE);
            AheadPlanner y = with(SIZE, 12);
            y.advise(10, 1);
            due("MARKER", y.stream(0, 6), 11);
            y.read(11);
            due("an empty BATCH: none", y.stream(0, 6), NONE);
            due("BATCHES", y.count(9), 2);
        });
    }

    private static void batchesAtTheDisksEnds() {
        says("II.", "Else up to WINDOW times: the BLOCK EDGE and STRIDE; it ends there, if that is no BLOCK", () -> {
            AheadPlanner x = with(SIZE, 20, FIRST_WINDOW, 4);
            due("place", x.advise(10, 1), 0);
            due("WINDOW times", x.stream(0, 5), 14);
            x.advise(17, 1);
            due("up to the last BLOCK", x.stream(1, 5), 19);
            due("FETCHED", x.stream(1, 9), 2);
            x.advise(1, -1);
            due("down to the first BLOCK", x.stream(2, 5), 0);
            due("FETCHED", x.stream(2, 9), 1);
            AheadPlanner y = with(SIZE, 20, FIRST_WINDOW, 4);
            y.advise(19, 1);
            due("none behind the last", y.stream(0, 5), 19);
            y.advise(0, -1);
            due("none ahead of the first", y.stream(1, 5), 0);
            y.advise(10, 9);
            due("19 is one", y.stream(2, 5), 19);
            y.advise(10, 10);
            due("20 is none", y.stream(3, 5), 10);
            due("FETCHED in all", y.count(5), 1);
            AheadPlanner z = with(SIZE, 20, FIRST_WINDOW, 4);
            z.advise(10, -10);
            due("0 is one", z.stream(0, 5), 0);
            z.advise(10, -11);
            due("-1 is none", z.stream(1, 5), 10);
        });
    }

    private static void batchesAtBadBlocks() {
        says("II.", "if it is BAD and not in the CACHE", () -> {
            AheadPlanner x = with(FIRST_WINDOW, 4);
            x.bad(13, true);
            x.advise(10, 1);
            due("ends ahead of it", x.stream(0, 5), 12);
            AheadPlanner y = read(with(FIRST_WINDOW, 4), 13);
            y.bad(13, true);
            y.advise(10, 1);
            due("BAD, but in the CACHE: goes on", y.stream(1, 5), 14);
            due("SHARED", y.count(7), 1);
            due("FETCHED", y.count(5), 3);
            AheadPlanner z = with(FIRST_WINDOW, 4);
            z.bad(11, true);
            z.advise(10, 1);
            due("BAD at once", z.stream(0, 5), 10);
            due("nothing FETCHED", z.count(5), 0);
        });
    }

    private static void batchesAtHalfOfRoom() {
        says("II.", "or if as many as half of ROOM (downwards) are AHEAD", () -> {
            for (int room = 4; room <= 15; room++) {
                AheadPlanner x = with(ROOM, room, FIRST_WINDOW, 8);
                x.advise(10, 1);
                due("ROOM " + room, x.count(11), room / 2);
                due("EDGE", x.stream(0, 5), 10 + room / 2);
                x.advise(1000, 1);
                due("none more", x.count(5), room / 2);
                due("EDGE of the other", x.stream(1, 5), 1000);
            }
            AheadPlanner y = with(ROOM, 64, FIRST_WINDOW, 8, TABLE, 6);
            for (int i = 1; i <= 5; i++) {
                y.advise(1000 * i, 1);
                due("ROOM 64", y.count(11), Math.min(32, 8 * i));
            }
            AheadPlanner z = read(with(ROOM, 4, FIRST_WINDOW, 8, REACH, 1), 13);
            z.advise(10, 1);
            due("it ends ahead of one that would be SHARED, too", z.count(7), 0);
            due("EDGE", z.stream(1, 5), 12);
        });
    }

    private static void markersOfBatches() {
        says("II.", "else it is EDGE then (MARKER, if it is the first of this BATCH)", () -> {
            AheadPlanner x = read(with(REACH, 1), 11);
            x.advise(10, 1);
            due("the first, though SHARED", x.stream(1, 6), 11);
            due("EDGE", x.stream(1, 5), 12);
            AheadPlanner y = with(FIRST_WINDOW, 1);
            y.advise(10, 1);
            due("the first is the last", y.stream(0, 6) * 100 + y.stream(0, 5), 1111);
        });
        says("II.", "if it is in the CACHE, it is SHARED, else it is FETCHED, AHEAD, for the STREAM", () -> {
            AheadPlanner x = with();
            x.advise(10, 1);
            x.advise(9, 1);
            due("11 is SHARED", x.count(7), 1);
            due("10 and 11, 12 are AHEAD", x.count(11), 3);
            due("11 is still for the first", x.block(11, 4), 0);
            due("10 is for the second", x.block(10, 4), 1);
            due("FETCHED for the second", x.stream(1, 9), 1);
        });
    }

    private static void waste() {
        says("II.", "has half its WINDOW (downwards, 1 at least", () -> {
            AheadPlanner x = with(FIRST_WINDOW, 7, SHARE, 100);
            x.advise(10, 1);
            x.drop(17);
            due("7 by 2", x.stream(0, 4), 3);
            x.drop(16);
            due("3 by 2", x.stream(0, 4), 1);
            x.drop(15);
            due("1 at least", x.stream(0, 4), 1);
            due("WASTED", x.stream(0, 11), 3);
            due("LOG", x.count(31), 3);
        });
        says("II.", "the STREAM for which it was FETCHED (if it is still there)", () -> {
            AheadPlanner x = with(FIRST_WINDOW, 4);
            x.advise(10, 1);
            x.advise(1000, 1);
            x.drop(1004);
            due("its own", x.stream(1, 4), 2);
            due("not another's", x.stream(0, 4), 4);
            x.stop(0);
            x.drop(14);
            due("WASTED", x.count(6), 2);
            due("its STREAM is not there", x.stream(1, 4), 2);
            x.advise(2000, 1);
            x.drop(13);
            due("nor is it the one in its place", x.stream(0, 4) * 10 + x.stream(0, 11), 40);
        });
        says("II.", "what is left of its BATCH is as many as were to come", () -> {
            // By POLICY 2 each that is FETCHED goes for the next one, as all others were READ twice.
            AheadPlanner x = with(ROOM, 8, POLICY, 2, FIRST_WINDOW, 4, SHARE, 0);
            for (int b = 1000; b <= 8000; b += 1000) {
                read(x, b, b);
            }
            int place = x.advise(10, 1);
            due("all four", x.count(5), 4);
            due("three of them WASTED", x.stream(place, 11), 3);
            due("EDGE", x.stream(place, 5), 14);
            due("WINDOW", x.stream(place, 4), 1);
            due("LOG: 4, 2, 1", x.count(31), 3);
            due("the last is there", x.block(14, 3), 1);
        });
    }

    private static void joined() {
        says("II.", "JOINED: behind a READ", () -> {
            AheadPlanner x = with();
            x.advise(10, 1);
            x.advise(10, 1);
            due("not by advise()", x.count(12) * 10 + x.count(19), 20);
            x.idle(1);
            x.read(5_000);
            due("not by a READ of another", x.count(12) * 10 + x.count(19), 30);
            x.read(10);
            due("behind AGAIN", x.count(12) * 10 + x.count(19), 21);
            due("the lesser NUMBER stays", x.stream(0, 0), 0);
        });
        says("II.", "the one of the greater NUMBER goes (nothing more, if that is the READ's own)", () -> {
            AheadPlanner x = with();
            x.advise(10, 1);
            x.advise(9, 1);
            x.advise(10, 1);
            x.read(10);
            due("a STEP of the second", x.whose(0, 0), 1);
            due("its own goes", x.stream(1, 0), MIN);
            due("the third stays", x.stream(2, 0), 2);
            due("JOINED", x.count(19), 1);
            AheadPlanner y = with();
            y.advise(500, 5);
            y.advise(9, 1);
            y.stop(0);
            y.advise(10, 1);
            y.advise(10, 1);
            y.read(10);
            due("both others go", y.count(19), 2);
            due("its own stays", y.stream(1, 0), 1);
            due("there are no others", y.count(12), 1);
        });
        says("II.", "of each other STREAM, by its place, that has the STRIDE (not 0) and the LAST", () -> {
            AheadPlanner x = with();
            x.advise(10, 2);
            x.advise(10, -1);
            x.advise(9, 1);
            x.advise(11, 1);
            x.read(10);
            due("other STRIDES, another LAST", x.count(19), 0);
            due("all are there", x.count(12), 4);
            AheadPlanner y = read(with(), 10);
            y.advise(9, 1);
            y.read(10);
            due("one without a STRIDE stays", y.count(12), 2);
            y.read(10);
            due("AGAIN of the one without", y.whose(0, 0), 0);
            due("none JOINED", y.count(19), 0);
        });
    }

    private static void idleByLack() {
        says("II.", "is most above how many BLOCKS in the CACHE are AHEAD for it (by 1 at least", () -> {
            AheadPlanner x = with();
            x.advise(10, 1);
            due("WINDOW as many as AHEAD", x.idle(1), 0);
            x.read(12);
            due("by 1", x.idle(20), 1);
            due("13", x.block(13, 3), 1);
            AheadPlanner y = with(FIRST_WINDOW, 4);
            y.advise(10, 1);
            y.drop(14);
            due("WINDOW less than AHEAD", y.stream(0, 4) * 10 + y.stream(0, 8), 23);
            due("none", y.idle(1), 0);
            AheadPlanner z = with(FIRST_WINDOW, 4);
            z.advise(10, 1);
            z.advise(1000, 1);
            read(z, 12, 1002, 1003);
            z.idle(1);
            due("the one that lacks 2", z.block(1005, 4), 1);
            z.idle(1);
            due("both lack 1: the first", z.block(15, 4), 0);
            due("and one more", z.idle(20), 1);
        });
        says("II.", "of the PROVED STREAMS", () -> {
            AheadPlanner x = read(with(NEED, 4), 10, 11, 12);
            due("not PROVED", x.idle(1), 0);
            due("without any", new AheadPlanner().idle(1), 0);
            AheadPlanner y = with();
            y.advise(10, 1);
            y.read(12);
            y.stop(0);
            due("stopped", y.idle(1), 0);
            AheadPlanner z = with(FIRST_WINDOW, 1, SIZE, 1_000);
            z.bad(11, true);
            z.advise(10, 1);
            z.bad(11, false);
            due("WINDOW 1, none AHEAD", z.idle(20), 1);
            due("11", z.block(11, 3), 1);
        });
    }

    private static void idleByNext() {
        says("II.", "whose next BLOCK (EDGE and STRIDE; LAST and STRIDE, if EDGE is not ahead of LAST) is one", () -> {
            int[][] ends = {{14, 0}, {15, 1}};
            for (int[] e : ends) {
                AheadPlanner x = with(SIZE, e[0], FIRST_WINDOW, 3);
                x.advise(10, 1);
                x.read(12);
                due("SIZE " + e[0], x.idle(20), e[1]);
                AheadPlanner y = with(SIZE, 100, FIRST_WINDOW, 3);
                y.advise(e[0] - 11, -1);
                y.read(e[0] - 13);
                due("from " + (e[0] - 11) + " down", y.idle(20), e[1]);
            }
            AheadPlanner z = with(SHARE, 0);
            z.advise(10, 1);
            z.drop(11);
            z.drop(12);
            read(z, 11, 12);
            due("EDGE is LAST", z.stream(0, 5), 12);
            due("IDLE", z.idle(1), 1);
            due("behind LAST", z.block(13, 3), 1);
            due("EDGE then", z.stream(0, 5), 13);
        });
        says("II.", "is not BAD and is not in the CACHE", () -> {
            AheadPlanner x = with();
            x.advise(10, 1);
            x.read(12);
            x.bad(13, true);
            due("BAD", x.idle(1), 0);
            x.bad(13, false);
            x.keep(0);
            x.read(13);
            due("in the CACHE", x.idle(1), 0);
            due("EDGE stays", x.stream(0, 5), 12);
            x.again(0);
            due("neither", x.idle(1), 1);
            // The one that lacks most can't: another is taken.
            AheadPlanner y = with(FIRST_WINDOW, 4);
            y.advise(10, 1);
            y.advise(1000, 1);
            read(y, 12, 1002, 1003);
            y.bad(1005, true);
            due("one for the first", y.idle(20), 1);
            due("15", y.block(15, 3), 1);
        });
    }

    private static void idleByRoom() {
        says("II.", "while fewer than half of ROOM are AHEAD", () -> {
            int[][] rooms = {{4, 1}, {5, 1}, {6, 2}, {7, 2}, {8, 3}, {16, 3}};
            for (int[] r : rooms) {
                // 12 is LATE: WINDOW 4, one of them is AHEAD.
                AheadPlanner x = with(ROOM, r[0], LAG, 8);
                x.advise(10, 1);
                x.read(12);
                due("lacks", x.stream(0, 4) - x.stream(0, 8), 3);
                due("ROOM " + r[0], x.idle(20), r[1]);
                due("AHEAD", x.count(11), 1 + r[1]);
            }
        });
        says("II.", "(MARKER stays; SHARE is not asked.)", () -> {
            AheadPlanner x = with(SHARE, 0);
            x.advise(10, 1);
            x.advise(1000, 1);
            x.drop(1002);
            x.read(12);
            due("above SHARE", x.count(6), 1);
            due("FETCHED all the same", x.idle(1), 1);
            due("MARKER", x.stream(0, 6), 11);
            due("none HELD", x.count(8), 0);
            due("no BATCH", x.count(9), 2);
        });
    }

    private static void advised() {
        says("II.", "and is PROVED: WINDOW FIRST (or MOST), EDGE is LAST, a BATCH; USED is the latest STAMP", () -> {
            AheadPlanner x = with(FIRST_WINDOW, 8, MOST, 3);
            x.advise(10, 1);
            due("MOST", x.stream(0, 4), 3);
            due("USED", x.stream(0, 7), 3);
            AheadPlanner y = read(with(), 500);
            y.advise(9_999, 1);
            due("an empty BATCH: EDGE", y.stream(1, 5), 9_999);
            due("PROVED", y.stream(1, 4), 2);
            due("USED", y.stream(1, 7), 1);
            due("no MARKER", y.stream(1, 6), NONE);
            due("BATCHES", y.count(9), 1);
            AheadPlanner z = with(SHARE, 0);
            z.advise(10, 1);
            z.drop(11);
            z.advise(1000, 1);
            due("HELD", z.count(8), 1);
            due("PROVED", z.stream(1, 4), 2);
            due("EDGE", z.stream(1, 5), 1000);
        });
        says("II.", "a STREAM is NEW as by a READ of a BLOCK, but has a STRIDE, PROOF 99", () -> {
            AheadPlanner x = read(with(TABLE, 2), 1000, 2000);
            due("full: in the place of the least USED", x.advise(10, 3), 0);
            due("NUMBER", x.stream(0, 0), 2);
            due("STRIDE", x.stream(0, 2), 3);
            due("PROOF", x.stream(0, 3), 99);
            due("then the other that is not PROVED", x.advise(20, 3), 1);
            due("all PROVED: the least USED", x.advise(30, 3), 0);
        });
    }

    private static void log() {
        says("II.", "The LOG: each change of a WINDOW to another one (also from 0), the last 40", () -> {
            AheadPlanner x = with(NEED, 1, FIRST_WINDOW, 1, MOST, 1);
            due("empty", x.log(0, 0), NONE);
            for (int i = 0; i < 40; i++) {
                x.reads(100 * i, 1, 2);
                due("rows", x.count(31), i + 1);
            }
            due("from 0", x.log(0, 2), 0);
            due("the first", x.log(39, 1), 0);
            due("none behind", x.log(40, 1), NONE);
            x.reads(4000, 1, 2);
            due("still 40", x.count(31), 40);
            due("the latest", x.log(0, 1), 40);
            due("the first went", x.log(39, 1), 1);
            due("none behind", x.log(40, 1), NONE);
            for (int i = 41; i < 90; i++) {
                x.reads(100 * i, 1, 2);
            }
            due("round and round", x.log(39, 1), 50);
            due("the latest", x.log(0, 1), 89);
        });
        says("II.", "READS so far (with the one that goes on), NUMBER, WINDOW ahead, then", () -> {
            AheadPlanner x = with();
            x.advise(100, 1);
            due("no READ so far", x.log(0, 0), 0);
            x.bad(700, true);
            read(x, 700, 500, 101);
            due("the second that did not FAIL", x.log(0, 0), 2);
            due("NUMBER", x.log(0, 1), 0);
            due("WINDOW ahead", x.log(0, 2), 2);
            due("then", x.log(0, 3), 4);
            x.drop(102);
            due("by drop()", x.log(0, 0) * 100 + x.log(0, 2) * 10 + x.log(0, 3), 242);
        });
        says("II.", "WRITTEN: a BLOCK has another CONTENT, in the CACHE, too", () -> {
            AheadPlanner x = with();
            x.advise(10, 1);
            x.write(11, 0);
            due("one AHEAD", x.block(11, 1), 0);
            due("on the DISK", x.block(11, 0), 0);
            due("not in the CACHE", x.write(500, 9) == content(500) && x.block(500, 1) == NONE, true);
            due("READ", x.read(11), 0);
        });
    }
}
