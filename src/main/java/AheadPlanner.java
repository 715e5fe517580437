import java.util.Arrays;

/** A planner that reads ahead through a cache of so many blocks; ../shared/DOC.md tells what each call answers. */
public final class AheadPlanner {
    public static final int NONE = -1;

    private static final int NOTHING = Integer.MIN_VALUE;
    private static final int FAILED_READ = -2;

    private static final int BLOCKS = 10_000;
    private static final int CONTENTS = 1_000_003;
    private static final int MOST_ROOM = 64;
    private static final int MOST_PLACES = 6;
    private static final int MOST_WINDOW = 32;
    private static final int MOST_PROOF = 99;
    private static final int MOST_ADVISED = 64;
    private static final int MOST_PACE = 64;
    private static final int TRACE_LENGTH = 400;
    private static final int LOG_LENGTH = 40;
    private static final int LOG_WIDTH = 4;
    private static final int KEPT = 2;

    // The terms, by their place in sets(), and from where to where each may be told.
    private static final int ROOM = 0;
    private static final int NEED = 1;
    private static final int FIRST = 2;
    private static final int MOST = 3;
    private static final int REACH = 4;
    private static final int SHARE = 5;
    private static final int TABLE = 6;
    private static final int SIZE = 7;
    private static final int POLICY = 8;
    private static final int LAG = 9;
    private static final int TERMS = 10;
    private static final int[] LOWEST = {4, 1, 1, 1, 1, 0, 1, 1, 0, 0};
    private static final int[] HIGHEST = {64, 4, 8, 32, 200, 100, 6, 10_000, 2, 8};
    private static final int[] AT_FIRST = {16, 2, 2, 8, 16, 30, 4, 10_000, 0, 0};

    private static final int AHEAD_FIRST = 1;
    private static final int BY_TOUCH = 2;

    // How a read's stream was found, as would() and whose() tell it.
    private static final int FAILS = 0;
    private static final int STEP = 1;
    private static final int AGAIN = 2;
    private static final int PAIR = 3;
    private static final int NEW = 4;

    // What count() tells; those without a row of their own are looked up where they stand.
    private static final int READS = 0;
    private static final int HITS = 1;
    private static final int MISSES = 2;
    private static final int FAILED = 3;
    private static final int HITS_AHEAD = 4;
    private static final int FETCHED_AHEAD = 5;
    private static final int WASTED = 6;
    private static final int SHARED = 7;
    private static final int HELD = 8;
    private static final int BATCHES = 9;
    private static final int IN_CACHE = 10;
    private static final int IN_CACHE_AHEAD = 11;
    private static final int STREAMS = 12;
    private static final int PROVED_STREAMS = 13;
    private static final int CAME = 14;
    private static final int LATEST_STAMP = 15;
    private static final int TRACED = 16;
    private static final int GREATEST_WINDOW = 17;
    private static final int BAD_BLOCKS = 18;
    private static final int JOINED = 19;
    private static final int FIRST_TERM = 20;
    private static final int BY_IDLE = 30;
    private static final int LOGGED = 31;
    private static final int LATE = 32;
    private static final int TO_COME = 33;
    private static final int COUNTS = 34;

    private final Disk disk;
    private final Engine now;
    private final Engine paper;
    private final Study study;
    private final Disk[] keptDisks;
    private final Engine[] keptEngines;
    private final boolean[] isKept;

    public AheadPlanner() {
        disk = new Disk();
        disk.format();
        now = new Engine(disk);
        paper = new Engine(disk);
        study = new Study(now.history);
        keptDisks = new Disk[KEPT];
        keptEngines = new Engine[KEPT];
        isKept = new boolean[KEPT];
        // Made here and used again: what a run makes is counted, and a run may keep at every call.
        for (int k = 0; k < KEPT; k++) {
            keptDisks[k] = new Disk();
            keptEngines[k] = new Engine(keptDisks[k]);
        }
    }

    public boolean sets(int what, int v) {
        if (!isTermValue(what, v) || now.term(what) == v) {
            return false;
        }
        now.setTerm(what, v);
        now.restart();
        return true;
    }

    public int read(int block) {
        int kind = now.take(block);
        if (kind == NONE) {
            return NONE;
        }
        return kind == FAILS ? FAILED_READ : disk.contentOf(block);
    }

    public int reads(int from, int by, int n) {
        if (n < 1 || n > 40) {
            return NONE;
        }
        int before = now.counts[HITS];
        for (int k = 0; k < n; k++) {
            // A long, so that a sum beyond int does not come back as a block.
            long block = from + (long) k * by;
            if (block >= 0 && block < now.term(SIZE)) {
                now.take((int) block);
            }
        }
        return now.counts[HITS] - before;
    }

    public int idle(int n) {
        if (n < 1 || n > 20) {
            return NONE;
        }
        int fetched = 0;
        while (fetched < n && now.idleOnce()) {
            fetched++;
        }
        return fetched;
    }

    public int advise(int block, int stride) {
        if (!now.hasBlock(block) || stride == 0 || stride < -MOST_ADVISED || stride > MOST_ADVISED) {
            return NONE;
        }
        return now.follow(block, stride);
    }

    public int write(int block, int content) {
        if (!now.hasBlock(block) || content < 0 || content >= CONTENTS) {
            return NONE;
        }
        int was = disk.contentOf(block);
        disk.setContent(block, content);
        return was;
    }

    public boolean bad(int block, boolean is) {
        if (!now.hasBlock(block) || disk.isBad(block) == is) {
            return false;
        }
        disk.turn(block);
        return true;
    }

    public boolean drop(int block) {
        int slot = now.cache.slotOf(block);
        if (slot == NONE) {
            return false;
        }
        int owner = now.cache.takeOut(slot);
        if (owner != NONE) {
            now.waste(owner);
        }
        return true;
    }

    public int stop(int place) {
        Stream gone = now.streamAt(place);
        if (gone == null) {
            return NONE;
        }
        int number = gone.number;
        gone.leave();
        return number;
    }

    public boolean keep(int k) {
        if (k < 0 || k >= KEPT) {
            return false;
        }
        keptDisks[k].copyFrom(disk);
        keptEngines[k].copyFrom(now);
        isKept[k] = true;
        return true;
    }

    public boolean again(int k) {
        if (k < 0 || k >= KEPT || !isKept[k]) {
            return false;
        }
        disk.copyFrom(keptDisks[k]);
        now.copyFrom(keptEngines[k]);
        return true;
    }

    public int block(int block, int what) {
        if (!now.hasBlock(block)) {
            return NONE;
        }
        if (what == 0) {
            return disk.contentOf(block);
        }
        if (what == 5) {
            return disk.isBad(block) ? 1 : 0;
        }
        int slot = now.cache.slotOf(block);
        if (slot == NONE) {
            return NONE;
        }
        switch (what) {
            case 1: return disk.contentOf(block);
            case 2: return now.cache.stamps[slot];
            case 3: return now.cache.waiting[slot] ? 1 : 0;
            case 4: return now.cache.owners[slot];
            case 6: return now.cache.touched[slot];
            case 7: return now.cache.toCome(slot, now.counts[READS], now.term(LAG));
            default: return NONE;
        }
    }

    public int cached(int i) {
        return now.cache.blockByStamp(i);
    }

    public int stream(int place, int what) {
        Stream told = now.streamAt(place);
        if (told == null) {
            return NOTHING;
        }
        return what == 8 ? now.cache.waitingFor(told.number) : told.tell(what);
    }

    public int aheadOf(int place, int i) {
        Stream told = now.streamAt(place);
        if (told == null || told.stride == 0) {
            return NONE;
        }
        return now.cache.waitingBeyond(told, i);
    }

    public int gain(int what) {
        if (what == 0) {
            int plain = study.missesOfLatest(now.term(ROOM));
            replayWith(ROOM, now.term(ROOM), ROOM, now.term(ROOM));
            return plain - paper.counts[MISSES];
        }
        if (what != 1 && what != 2) {
            return NOTHING;
        }
        int fetched = now.counts[FETCHED_AHEAD];
        if (fetched == 0) {
            return NONE;
        }
        return (what == 1 ? now.counts[HITS_AHEAD] : now.counts[WASTED]) * 100 / fetched;
    }

    public int log(int i, int what) {
        return now.log.tell(i, what);
    }

    public int piece(int i, int what) {
        if (what != 0 && what != 1) {
            return NONE;
        }
        if (i == NONE) {
            return what == 0 ? study.pieces() : study.longestPiece();
        }
        int start = study.pieceStart(i);
        if (start == NONE) {
            return NONE;
        }
        return what == 0 ? study.pieceLength(start) : now.history.blockAt(start);
    }

    public int whose(int i, int what) {
        int at = now.history.fromLatest(i);
        if (at == NONE) {
            return NONE;
        }
        switch (what) {
            case 0: return now.history.numberAt(at);
            case 1: return now.history.kindAt(at);
            default: return NONE;
        }
    }

    public int mixed(int what) {
        switch (what) {
            case 0: return study.changesOfStream();
            case 1: return study.streamsRead();
            case 2: return study.mostOfOneStream();
            default: return NONE;
        }
    }

    public int trace(int i) {
        return now.history.blockAt(now.history.fromLatest(i));
    }

    public int would(int block, int what) {
        if (!now.hasBlock(block) || what < 0 || what > 5) {
            return NONE;
        }
        paper.copyFrom(now);
        int kind = paper.take(block);
        switch (what) {
            case 0: return kind;
            case 1: return paper.counts[HITS] - now.counts[HITS];
            case 2: return paper.ownPlace;
            case 3: return paper.counts[FETCHED_AHEAD] - now.counts[FETCHED_AHEAD];
            case 4: return paper.counts[SHARED] - now.counts[SHARED];
            default: return paper.counts[WASTED] - now.counts[WASTED];
        }
    }

    public int plan(int block, int i) {
        if (!now.hasBlock(block)) {
            return NONE;
        }
        paper.copyFrom(now);
        paper.take(block);
        return paper.plannedAt(i);
    }

    public int replay(int term, int v, int what) {
        if (!isTermValue(term, v) || what < 0 || what >= COUNTS) {
            return NOTHING;
        }
        if (term == SIZE && v != now.term(SIZE)) {
            return NOTHING;
        }
        replayWith(term, v, term, v);
        return paper.counted(what);
    }

    public int forecast(int n, int what) {
        if (n < 1 || n > 20 || what < 0 || what > 3) {
            return NONE;
        }
        paper.copyFrom(now);
        for (int round = 0; round < n; round++) {
            for (int place = 0; place < MOST_PLACES; place++) {
                Stream next = paper.streamAt(place);
                if (next != null && next.window > 0) {
                    paper.take(next.last + next.stride);
                }
            }
        }
        int told = what == 0 ? READS : what == 1 ? HITS : what == 2 ? WASTED : LATE;
        return paper.counts[told] - now.counts[told];
    }

    public int tune(int what) {
        if (what < 0 || what > 2) {
            return NONE;
        }
        int bestNeed = NONE;
        int bestFirst = NONE;
        int fewest = Integer.MAX_VALUE;
        for (int need = LOWEST[NEED]; need <= HIGHEST[NEED]; need++) {
            for (int first = LOWEST[FIRST]; first <= HIGHEST[FIRST]; first++) {
                replayWith(NEED, need, FIRST, first);
                if (paper.counts[MISSES] < fewest) {
                    fewest = paper.counts[MISSES];
                    bestNeed = need;
                    bestFirst = first;
                }
            }
        }
        return what == 0 ? bestNeed : what == 1 ? bestFirst : fewest;
    }

    public int best(int term, int what) {
        if (term < 0 || term >= TERMS || term == SIZE || what < 0 || what > 1) {
            return NONE;
        }
        int bestValue = NONE;
        int fewest = Integer.MAX_VALUE;
        for (int v = LOWEST[term]; v <= HIGHEST[term]; v++) {
            replayWith(term, v, term, v);
            if (paper.counts[MISSES] < fewest) {
                fewest = paper.counts[MISSES];
                bestValue = v;
            }
        }
        return what == 0 ? bestValue : fewest;
    }

    public int misses(int c, int what) {
        if (c < 1 || c > MOST_ROOM) {
            return NONE;
        }
        switch (what) {
            case 0: return study.missesOfLatest(c);
            case 1: return study.missesAtBest(c);
            default: return NONE;
        }
    }

    public int row(int d, int what) {
        if (d == 0 || d < -BLOCKS || d > BLOCKS || what < 0 || what > 1 || now.history.length == 0) {
            return NONE;
        }
        int length = study.longestRow(d);
        return what == 0 ? length : study.rowStart;
    }

    public int pace(int what) {
        if (what < 0 || what > 1 || now.history.length == 0) {
            return NONE;
        }
        int bestStep = NONE;
        int longest = 0;
        // 1, -1, 2, -2, ..: the first of like ones is the one to tell.
        for (int turn = 2; turn <= 2 * MOST_PACE + 1; turn++) {
            int step = turn % 2 == 0 ? turn / 2 : -(turn / 2);
            int length = study.longestRow(step);
            if (length > longest) {
                longest = length;
                bestStep = step;
            }
        }
        return what == 0 ? bestStep : longest;
    }

    public int until(int place) {
        Stream told = now.streamAt(place);
        if (told == null || told.stride == 0) {
            return NONE;
        }
        int block = told.last;
        for (int steps = 1; steps <= BLOCKS; steps++) {
            block += told.stride;
            if (!now.hasBlock(block)) {
                return NONE;
            }
            boolean batch = told.window == 0
                    ? told.proof + steps >= now.term(NEED)
                    : block == told.marker || !told.edgeIsBeyond(block);
            if (batch) {
                return steps;
            }
        }
        return NONE;
    }

    public int ahead(int block) {
        int slot = now.cache.slotOf(block);
        return slot == NONE ? NONE : now.cache.rankOf(slot);
    }

    public int habits(int what) {
        if (now.history.length == 0) {
            return NONE;
        }
        switch (what) {
            case 0: return study.unlikeBlocks();
            case 1: return study.sinceLatestBlock();
            case 2: return study.favourite();
            case 3: return study.timesRead(study.favourite());
            case 4: return now.history.length - study.pieces();
            default: return NONE;
        }
    }

    public int count(int what) {
        return now.counted(what);
    }

    private static boolean isTermValue(int term, int v) {
        return term >= 0 && term < TERMS && v >= LOWEST[term] && v <= HIGHEST[term];
    }

    /** Reads the trace anew on paper, with two terms told otherwise (or one, told twice). */
    private void replayWith(int term, int v, int otherTerm, int w) {
        paper.copyTerms(now);
        paper.setTerm(term, v);
        paper.setTerm(otherTerm, w);
        paper.restart();
        for (int at = 0; at < now.history.length; at++) {
            paper.take(now.history.blockAt(at));
        }
    }

    /** The content of every block, and which of them are bad. */
    private static final class Disk {
        // A bad block's cell is -1 less its content: one row to keep instead of two.
        final int[] cells = new int[BLOCKS];

        /** Gives each block its first content; a kept disk has all of it copied instead. */
        void format() {
            for (int b = 0; b < BLOCKS; b++) {
                cells[b] = (7_919 * b + 13) % CONTENTS;
            }
        }

        int contentOf(int block) {
            if (block < 0 || block >= BLOCKS) {
                return NONE;
            }
            return cells[block] < 0 ? -1 - cells[block] : cells[block];
        }

        boolean isBad(int block) {
            return block >= 0 && block < BLOCKS && cells[block] < 0;
        }

        void setContent(int block, int content) {
            if (block >= 0 && block < BLOCKS) {
                cells[block] = cells[block] < 0 ? -1 - content : content;
            }
        }

        void turn(int block) {
            if (block >= 0 && block < BLOCKS) {
                cells[block] = -1 - cells[block];
            }
        }

        int badBelow(int size) {
            int found = 0;
            for (int b = 0; b < size && b < BLOCKS; b++) {
                if (cells[b] < 0) {
                    found++;
                }
            }
            return found;
        }

        void copyFrom(Disk other) {
            System.arraycopy(other.cells, 0, cells, 0, BLOCKS);
        }
    }

    /** The cached blocks, in slots without an order; what a block holds is on the disk, as a write changes both. */
    private static final class Cache {
        final int[] blocks = new int[MOST_ROOM];
        final int[] stamps = new int[MOST_ROOM];
        final int[] touched = new int[MOST_ROOM];
        // The number of the stream for which a block was fetched, and the reads by then.
        final int[] owners = new int[MOST_ROOM];
        final int[] fetchedAt = new int[MOST_ROOM];
        // Whether a block is ahead: fetched, and not read since.
        final boolean[] waiting = new boolean[MOST_ROOM];
        // Of each block its slot and 1; 0 if it is not cached.
        final int[] where = new int[BLOCKS];
        int size;
        int waitingSize;
        int stamp;

        int slotOf(int block) {
            return block < 0 || block >= BLOCKS ? NONE : where[block] - 1;
        }

        void mark(int block, int value) {
            if (block >= 0 && block < BLOCKS) {
                where[block] = value;
            }
        }

        void put(int block, int owner, int reads) {
            if (size < 0 || size >= MOST_ROOM) {
                return;
            }
            boolean isAhead = owner != NONE;
            stamp++;
            blocks[size] = block;
            stamps[size] = stamp;
            touched[size] = isAhead ? 0 : 1;
            owners[size] = owner;
            fetchedAt[size] = reads;
            waiting[size] = isAhead;
            if (isAhead) {
                waitingSize++;
            }
            size++;
            mark(block, size);
        }

        /** Sees a cached block read; true if it was ahead till then. */
        boolean touch(int slot) {
            if (slot < 0 || slot >= size) {
                return false;
            }
            stamp++;
            stamps[slot] = stamp;
            touched[slot]++;
            boolean wasAhead = waiting[slot];
            if (wasAhead) {
                waiting[slot] = false;
                waitingSize--;
            }
            return wasAhead;
        }

        /** Lets one go if the room is full; the owner of what went to waste by it. */
        int makeRoom(int room, int policy, int beingRead) {
            if (size < room) {
                return NONE;
            }
            boolean aheadOnly = policy == AHEAD_FIRST && waitingSize > room / 4;
            int victim = NONE;
            long least = Long.MAX_VALUE;
            for (int slot = 0; slot < size; slot++) {
                if (blocks[slot] == beingRead || aheadOnly && !waiting[slot]) {
                    continue;
                }
                // One touch more weighs above every stamp.
                long weight = stamps[slot] + (policy == BY_TOUCH ? (long) touched[slot] << 32 : 0);
                if (weight < least) {
                    least = weight;
                    victim = slot;
                }
            }
            return takeOut(victim);
        }

        /** Empties a slot; the owner of its block if that was ahead, as it is wasted then. */
        int takeOut(int slot) {
            if (slot < 0 || slot >= size) {
                return NONE;
            }
            int wastedFor = NONE;
            if (waiting[slot]) {
                wastedFor = owners[slot];
                waitingSize--;
            }
            mark(blocks[slot], 0);
            size--;
            if (slot != size) {
                blocks[slot] = blocks[size];
                stamps[slot] = stamps[size];
                touched[slot] = touched[size];
                owners[slot] = owners[size];
                fetchedAt[slot] = fetchedAt[size];
                waiting[slot] = waiting[size];
                mark(blocks[slot], slot + 1);
            }
            return wastedFor;
        }

        /** How many reads are to come till a block is due, if so many have gone by. */
        int toCome(int slot, int reads, int lag) {
            if (slot < 0 || slot >= size || owners[slot] == NONE) {
                return 0;
            }
            return Math.max(0, lag - (reads - fetchedAt[slot]));
        }

        int waitingFor(int owner) {
            int found = 0;
            for (int slot = 0; slot < size; slot++) {
                if (isWaitingFor(slot, owner)) {
                    found++;
                }
            }
            return found;
        }

        boolean isWaitingFor(int slot, int owner) {
            return slot >= 0 && slot < size && waiting[slot] && owners[slot] == owner;
        }

        /** The i-th block that is ahead for a stream and beyond what it read last, the nearest first. */
        int waitingBeyond(Stream of, int i) {
            for (int slot = 0; slot < size; slot++) {
                int far = of.wayTo(blocks[slot]);
                if (far <= 0 || !isWaitingFor(slot, of.number)) {
                    continue;
                }
                int nearer = 0;
                for (int other = 0; other < size; other++) {
                    int way = of.wayTo(blocks[other]);
                    if (way > 0 && way < far && isWaitingFor(other, of.number)) {
                        nearer++;
                    }
                }
                if (nearer == i) {
                    return blocks[slot];
                }
            }
            return NONE;
        }

        int rankOf(int slot) {
            int less = 0;
            if (slot >= 0 && slot < size) {
                for (int other = 0; other < size; other++) {
                    if (stamps[other] < stamps[slot]) {
                        less++;
                    }
                }
            }
            return less;
        }

        int blockByStamp(int i) {
            for (int slot = 0; slot < size; slot++) {
                if (rankOf(slot) == i) {
                    return blocks[slot];
                }
            }
            return NONE;
        }

        void clear() {
            for (int slot = 0; slot < size; slot++) {
                mark(blocks[slot], 0);
            }
            size = 0;
            waitingSize = 0;
            stamp = 0;
        }

        void copyFrom(Cache other) {
            clear();
            size = other.size;
            waitingSize = other.waitingSize;
            stamp = other.stamp;
            System.arraycopy(other.blocks, 0, blocks, 0, MOST_ROOM);
            System.arraycopy(other.stamps, 0, stamps, 0, MOST_ROOM);
            System.arraycopy(other.touched, 0, touched, 0, MOST_ROOM);
            System.arraycopy(other.owners, 0, owners, 0, MOST_ROOM);
            System.arraycopy(other.fetchedAt, 0, fetchedAt, 0, MOST_ROOM);
            for (int slot = 0; slot < size && slot < MOST_ROOM; slot++) {
                waiting[slot] = other.waiting[slot];
                mark(blocks[slot], slot + 1);
            }
        }
    }

    /** One place for a stream; it is free while there is no number. */
    private static final class Stream {
        int number = NONE;
        int last;
        int stride;
        int proof;
        int window;
        int edge;
        int marker = NONE;
        int used;
        int fetched;
        int hits;
        int wasted;

        void begin(int newNumber, int block) {
            number = newNumber;
            last = block;
            stride = 0;
            proof = 0;
            window = 0;
            edge = block;
            marker = NONE;
            used = 0;
            fetched = 0;
            hits = 0;
            wasted = 0;
        }

        void leave() {
            number = NONE;
        }

        void step(int block) {
            last = block;
            proof = Math.min(MOST_PROOF, proof + 1);
        }

        void pair(int block) {
            stride = block - last;
            proof = 1;
            last = block;
        }

        /** How far a block lies from what was read last, by the way of the stride. */
        int wayTo(int block) {
            return stride < 0 ? last - block : block - last;
        }

        boolean edgeIsBeyond(int block) {
            return stride < 0 ? edge < block : edge > block;
        }

        int tell(int what) {
            switch (what) {
                case 0: return number;
                case 1: return last;
                case 2: return stride;
                case 3: return proof;
                case 4: return window;
                case 5: return edge;
                case 6: return marker;
                case 7: return used;
                case 9: return fetched;
                case 10: return hits;
                case 11: return wasted;
                default: return NOTHING;
            }
        }

        void copyFrom(Stream other) {
            begin(other.number, other.last);
            stride = other.stride;
            proof = other.proof;
            window = other.window;
            edge = other.edge;
            marker = other.marker;
            used = other.used;
            fetched = other.fetched;
            hits = other.hits;
            wasted = other.wasted;
        }
    }

    /** The trace: the latest reads with whose they were, in a ring; place 0 is the eldest. */
    private static final class History {
        final int[] blocks = new int[TRACE_LENGTH];
        final int[] numbers = new int[TRACE_LENGTH];
        final int[] kinds = new int[TRACE_LENGTH];
        int eldest;
        int length;

        void add(int block, int number, int kind) {
            int cell = (eldest + length) % TRACE_LENGTH;
            if (cell < 0) {
                return;
            }
            blocks[cell] = block;
            numbers[cell] = number;
            kinds[cell] = kind;
            if (length < TRACE_LENGTH) {
                length++;
            } else {
                eldest = (eldest + 1) % TRACE_LENGTH;
            }
        }

        int cellOf(int at) {
            return at < 0 || at >= length ? NONE : (eldest + at) % TRACE_LENGTH;
        }

        int fromLatest(int i) {
            return i < 0 || i >= length ? NONE : length - 1 - i;
        }

        int blockAt(int at) {
            int cell = cellOf(at);
            return cell < 0 ? NONE : blocks[cell];
        }

        int numberAt(int at) {
            int cell = cellOf(at);
            return cell < 0 ? NONE : numbers[cell];
        }

        int kindAt(int at) {
            int cell = cellOf(at);
            return cell < 0 ? NONE : kinds[cell];
        }

        void clear() {
            eldest = 0;
            length = 0;
        }

        void copyFrom(History other) {
            eldest = other.eldest;
            length = other.length;
            System.arraycopy(other.blocks, 0, blocks, 0, TRACE_LENGTH);
            System.arraycopy(other.numbers, 0, numbers, 0, TRACE_LENGTH);
            System.arraycopy(other.kinds, 0, kinds, 0, TRACE_LENGTH);
        }
    }

    /** The latest changes of windows, in a ring of rows of four. */
    private static final class WindowLog {
        final int[] cells = new int[LOG_LENGTH * LOG_WIDTH];
        int next;
        int length;

        void add(int reads, int number, int before, int then) {
            int cell = next * LOG_WIDTH;
            if (cell < 0 || cell + LOG_WIDTH > cells.length) {
                return;
            }
            cells[cell] = reads;
            cells[cell + 1] = number;
            cells[cell + 2] = before;
            cells[cell + 3] = then;
            next = (next + 1) % LOG_LENGTH;
            if (length < LOG_LENGTH) {
                length++;
            }
        }

        int tell(int i, int what) {
            if (i < 0 || i >= length || what < 0 || what >= LOG_WIDTH) {
                return NONE;
            }
            int cell = (next + LOG_LENGTH - 1 - i) % LOG_LENGTH * LOG_WIDTH + what;
            return cell < 0 || cell >= cells.length ? NONE : cells[cell];
        }

        void clear() {
            next = 0;
            length = 0;
        }

        void copyFrom(WindowLog other) {
            next = other.next;
            length = other.length;
            System.arraycopy(other.cells, 0, cells, 0, cells.length);
        }
    }

    /** All that reads change, over a disk that they don't: one for what is so, one for what is on paper. */
    private static final class Engine {
        final Disk disk;
        final int[] terms;
        final int[] counts;
        final Cache cache;
        final Stream[] streams;
        final History history;
        final WindowLog log;
        // What the latest read fetched ahead, in order, and the place of its stream.
        final int[] planned;
        int plannedSize;
        int ownPlace;

        Engine(Disk onDisk) {
            disk = onDisk;
            terms = new int[TERMS];
            System.arraycopy(AT_FIRST, 0, terms, 0, TERMS);
            counts = new int[COUNTS];
            cache = new Cache();
            streams = new Stream[MOST_PLACES];
            for (int place = 0; place < MOST_PLACES; place++) {
                streams[place] = new Stream();
            }
            history = new History();
            log = new WindowLog();
            planned = new int[MOST_WINDOW];
            ownPlace = NONE;
        }

        int term(int which) {
            return which < 0 || which >= TERMS ? NONE : terms[which];
        }

        void setTerm(int which, int v) {
            if (isTermValue(which, v)) {
                terms[which] = v;
            }
        }

        boolean hasBlock(int block) {
            return block >= 0 && block < terms[SIZE];
        }

        Stream streamAt(int place) {
            if (place < 0 || place >= MOST_PLACES || streams[place].number == NONE) {
                return null;
            }
            return streams[place];
        }

        void restart() {
            Arrays.fill(counts, 0);
            cache.clear();
            for (int place = 0; place < MOST_PLACES; place++) {
                streams[place].leave();
            }
            history.clear();
            log.clear();
            plannedSize = 0;
            ownPlace = NONE;
        }

        void copyTerms(Engine other) {
            System.arraycopy(other.terms, 0, terms, 0, TERMS);
        }

        void copyFrom(Engine other) {
            copyTerms(other);
            System.arraycopy(other.counts, 0, counts, 0, COUNTS);
            cache.copyFrom(other.cache);
            for (int place = 0; place < MOST_PLACES; place++) {
                streams[place].copyFrom(other.streams[place]);
            }
            history.copyFrom(other.history);
            log.copyFrom(other.log);
            plannedSize = 0;
            ownPlace = NONE;
        }

        /** Reads a block; how its stream was found, NONE if there is no such block. */
        int take(int block) {
            plannedSize = 0;
            ownPlace = NONE;
            if (!hasBlock(block)) {
                return NONE;
            }
            int slot = cache.slotOf(block);
            if (slot == NONE && disk.isBad(block)) {
                counts[FAILED]++;
                return FAILS;
            }
            counts[READS]++;
            if (slot == NONE) {
                admit(block);
            } else {
                hit(slot);
            }
            int kind = findStream(block);
            Stream own = streamAt(ownPlace);
            if (own == null) {
                return kind;
            }
            if ((kind == STEP || kind == PAIR) && asksForBatch(own)) {
                runBatch(own, block);
            }
            own.used = cache.stamp;
            history.add(block, own.number, kind);
            joinOthers(own);
            return kind;
        }

        void admit(int block) {
            counts[MISSES]++;
            int wastedFor = cache.makeRoom(terms[ROOM], terms[POLICY], block);
            if (wastedFor != NONE) {
                waste(wastedFor);
            }
            cache.put(block, NONE, counts[READS]);
        }

        void hit(int slot) {
            if (slot < 0 || slot >= cache.size) {
                return;
            }
            counts[HITS]++;
            Stream owner = streamOf(cache.owners[slot]);
            if (cache.touch(slot)) {
                counts[HITS_AHEAD]++;
                if (owner != null) {
                    owner.hits++;
                }
            }
            // The read that goes on has not gone by.
            int toCome = cache.toCome(slot, counts[READS] - 1, terms[LAG]);
            if (toCome > 0) {
                counts[LATE]++;
                counts[TO_COME] += toCome;
                if (owner != null) {
                    changeWindow(owner, 2 * owner.window);
                }
            }
        }

        Stream streamOf(int number) {
            for (int place = 0; number != NONE && place < MOST_PLACES; place++) {
                if (streams[place].number == number) {
                    return streams[place];
                }
            }
            return null;
        }

        void changeWindow(Stream of, int wanted) {
            int then = Math.min(terms[MOST], wanted);
            if (then != of.window) {
                log.add(counts[READS], of.number, of.window, then);
                of.window = then;
                counts[GREATEST_WINDOW] = Math.max(counts[GREATEST_WINDOW], then);
            }
        }

        void waste(int wastedFor) {
            counts[WASTED]++;
            Stream owner = streamOf(wastedFor);
            if (owner != null) {
                owner.wasted++;
                changeWindow(owner, Math.max(1, owner.window / 2));
            }
        }

        /** Finds the stream of a read and has it go there; how it was found. */
        int findStream(int block) {
            ownPlace = steppingPlace(block);
            Stream stepping = streamAt(ownPlace);
            if (stepping != null) {
                stepping.step(block);
                return STEP;
            }
            ownPlace = placeWithLast(block);
            if (ownPlace != NONE) {
                return AGAIN;
            }
            ownPlace = pairingPlace(block);
            Stream pairing = streamAt(ownPlace);
            if (pairing != null) {
                pairing.pair(block);
                return PAIR;
            }
            ownPlace = openPlace();
            settle(ownPlace, block);
            return NEW;
        }

        int steppingPlace(int block) {
            int found = NONE;
            for (int place = 0; place < MOST_PLACES; place++) {
                Stream s = streams[place];
                if (s.number == NONE || s.stride == 0 || s.last + s.stride != block) {
                    continue;
                }
                if (s.window > 0) {
                    return place;
                }
                if (found == NONE) {
                    found = place;
                }
            }
            return found;
        }

        int placeWithLast(int block) {
            for (int place = 0; place < MOST_PLACES; place++) {
                if (streams[place].number != NONE && streams[place].last == block) {
                    return place;
                }
            }
            return NONE;
        }

        int pairingPlace(int block) {
            int found = NONE;
            int nearest = terms[REACH] + 1;
            for (int place = 0; place < MOST_PLACES; place++) {
                Stream s = streams[place];
                int far = Math.abs(block - s.last);
                if (s.number != NONE && s.stride == 0 && far < nearest) {
                    found = place;
                    nearest = far;
                }
            }
            return found;
        }

        /** Where a new stream goes: a free place, else one that is not proved, else any; the least used. */
        int openPlace() {
            int found = 0;
            for (int place = 0; place < terms[TABLE] && place < MOST_PLACES; place++) {
                Stream s = streams[place];
                if (s.number == NONE) {
                    return place;
                }
                boolean proved = s.window > 0;
                boolean foundProved = streams[found].window > 0;
                if (proved == foundProved ? s.used < streams[found].used : foundProved) {
                    found = place;
                }
            }
            return found;
        }

        void settle(int place, int block) {
            if (place >= 0 && place < MOST_PLACES) {
                streams[place].begin(counts[CAME], block);
                counts[CAME]++;
            }
        }

        /** Whether a stream that went on asks for a batch; proves it, or doubles its window, on the way. */
        boolean asksForBatch(Stream own) {
            if (own.window == 0) {
                if (own.proof < terms[NEED]) {
                    return false;
                }
                changeWindow(own, terms[FIRST]);
                own.edge = own.last;
                return true;
            }
            if (own.last == own.marker) {
                changeWindow(own, 2 * own.window);
                return true;
            }
            if (own.edgeIsBeyond(own.last)) {
                return false;
            }
            own.edge = own.last;
            return true;
        }

        void runBatch(Stream own, int beingRead) {
            own.marker = NONE;
            counts[BATCHES]++;
            if (counts[WASTED] * 100 > terms[SHARE] * counts[FETCHED_AHEAD]) {
                counts[HELD]++;
                return;
            }
            // The window as it is now: what goes to waste meanwhile does not shorten this batch.
            int times = own.window;
            for (int i = 0; i < times && mayGoTo(own.edge + own.stride); i++) {
                own.edge += own.stride;
                if (i == 0) {
                    own.marker = own.edge;
                }
                if (cache.slotOf(own.edge) != NONE) {
                    counts[SHARED]++;
                } else {
                    fetchFor(own, own.edge, beingRead);
                }
            }
        }

        boolean mayGoTo(int block) {
            if (!hasBlock(block) || cache.waitingSize >= terms[ROOM] / 2) {
                return false;
            }
            return cache.slotOf(block) != NONE || !disk.isBad(block);
        }

        void fetchFor(Stream own, int block, int beingRead) {
            int wastedFor = cache.makeRoom(terms[ROOM], terms[POLICY], beingRead);
            if (wastedFor != NONE) {
                waste(wastedFor);
            }
            cache.put(block, own.number, counts[READS]);
            counts[FETCHED_AHEAD]++;
            own.fetched++;
            if (plannedSize >= 0 && plannedSize < planned.length) {
                planned[plannedSize] = block;
                plannedSize++;
            }
        }

        int plannedAt(int i) {
            return i < 0 || i >= plannedSize || i >= planned.length ? NONE : planned[i];
        }

        void joinOthers(Stream own) {
            for (int place = 0; place < MOST_PLACES && own.number != NONE; place++) {
                Stream other = streams[place];
                if (other == own || other.number == NONE || own.stride == 0
                        || other.stride != own.stride || other.last != own.last) {
                    continue;
                }
                counts[JOINED]++;
                if (other.number > own.number) {
                    other.leave();
                } else {
                    own.leave();
                    ownPlace = NONE;
                }
            }
        }

        /** Follows a stream that was told of, as if it were proved; its place. */
        int follow(int block, int stride) {
            int place = openPlace();
            settle(place, block);
            Stream told = streamAt(place);
            if (told == null) {
                return NONE;
            }
            told.stride = stride;
            told.proof = MOST_PROOF;
            changeWindow(told, terms[FIRST]);
            runBatch(told, NONE);
            told.used = cache.stamp;
            return place;
        }

        /** Fetches one block for the stream that lacks most; false if there is none. */
        boolean idleOnce() {
            if (cache.waitingSize >= terms[ROOM] / 2) {
                return false;
            }
            Stream neediest = null;
            int most = 0;
            for (int place = 0; place < MOST_PLACES; place++) {
                Stream s = streams[place];
                if (s.number == NONE || s.window == 0) {
                    continue;
                }
                int lacks = s.window - cache.waitingFor(s.number);
                int next = nextToFetch(s);
                if (lacks > most && hasBlock(next) && !disk.isBad(next) && cache.slotOf(next) == NONE) {
                    most = lacks;
                    neediest = s;
                }
            }
            if (neediest == null) {
                return false;
            }
            int block = nextToFetch(neediest);
            neediest.edge = block;
            fetchFor(neediest, block, NONE);
            counts[BY_IDLE]++;
            return true;
        }

        int nextToFetch(Stream s) {
            return (s.edgeIsBeyond(s.last) ? s.edge : s.last) + s.stride;
        }

        int counted(int what) {
            switch (what) {
                case IN_CACHE: return cache.size;
                case IN_CACHE_AHEAD: return cache.waitingSize;
                case STREAMS: return streamsThere(0);
                case PROVED_STREAMS: return streamsThere(1);
                case LATEST_STAMP: return cache.stamp;
                case TRACED: return history.length;
                case BAD_BLOCKS: return disk.badBelow(terms[SIZE]);
                case LOGGED: return log.length;
                default: break;
            }
            if (what >= FIRST_TERM && what < FIRST_TERM + TERMS) {
                return terms[what - FIRST_TERM];
            }
            return what < 0 || what >= COUNTS ? NONE : counts[what];
        }

        int streamsThere(int leastWindow) {
            int found = 0;
            for (int place = 0; place < MOST_PLACES; place++) {
                if (streams[place].number != NONE && streams[place].window >= leastWindow) {
                    found++;
                }
            }
            return found;
        }
    }

    /** What can be told of a trace alone. */
    private static final class Study {
        final History history;
        // A number of each block; all 0 between the calls.
        final int[] tally = new int[BLOCKS];
        // Of each read when its block is read again.
        final int[] nextRead = new int[TRACE_LENGTH];
        final int[] held = new int[MOST_ROOM];
        final int[] turns = new int[MOST_ROOM];
        int rowStart;

        Study(History of) {
            history = of;
        }

        int tallyOf(int block) {
            return block < 0 || block >= BLOCKS ? 0 : tally[block];
        }

        void setTally(int block, int value) {
            if (block >= 0 && block < BLOCKS) {
                tally[block] = value;
            }
        }

        void clearTally() {
            for (int at = 0; at < history.length; at++) {
                setTally(history.blockAt(at), 0);
            }
        }

        boolean startsPiece(int at) {
            return at == 0 || history.blockAt(at) != history.blockAt(at - 1) + 1;
        }

        int pieces() {
            int found = 0;
            for (int at = 0; at < history.length; at++) {
                if (startsPiece(at)) {
                    found++;
                }
            }
            return found;
        }

        int pieceStart(int i) {
            int found = 0;
            for (int at = 0; at < history.length; at++) {
                if (startsPiece(at)) {
                    if (found == i) {
                        return at;
                    }
                    found++;
                }
            }
            return NONE;
        }

        int pieceLength(int start) {
            int end = start + 1;
            while (end < history.length && !startsPiece(end)) {
                end++;
            }
            return end - start;
        }

        int longestPiece() {
            int longest = 0;
            int length = 0;
            for (int at = 0; at < history.length; at++) {
                length = startsPiece(at) ? 1 : length + 1;
                longest = Math.max(longest, length);
            }
            return longest;
        }

        int changesOfStream() {
            int changes = 0;
            for (int at = 1; at < history.length; at++) {
                if (history.numberAt(at) != history.numberAt(at - 1)) {
                    changes++;
                }
            }
            return changes;
        }

        int readsOfStream(int number, int from) {
            int found = 0;
            for (int at = from; at < history.length; at++) {
                if (history.numberAt(at) == number) {
                    found++;
                }
            }
            return found;
        }

        int streamsRead() {
            int found = 0;
            for (int at = 0; at < history.length; at++) {
                // Each stream is counted at its latest read.
                if (readsOfStream(history.numberAt(at), at + 1) == 0) {
                    found++;
                }
            }
            return found;
        }

        int mostOfOneStream() {
            int most = 0;
            for (int at = 0; at < history.length; at++) {
                most = Math.max(most, readsOfStream(history.numberAt(at), at));
            }
            return most;
        }

        int unlikeBlocks() {
            int found = 0;
            for (int at = 0; at < history.length; at++) {
                int block = history.blockAt(at);
                if (tallyOf(block) == 0) {
                    found++;
                    setTally(block, 1);
                }
            }
            clearTally();
            return found;
        }

        int sinceLatestBlock() {
            int latest = history.length - 1;
            for (int at = latest - 1; at >= 0; at--) {
                if (history.blockAt(at) == history.blockAt(latest)) {
                    return latest - at - 1;
                }
            }
            return NONE;
        }

        int favourite() {
            int found = NONE;
            int most = 0;
            for (int at = 0; at < history.length; at++) {
                int block = history.blockAt(at);
                setTally(block, tallyOf(block) + 1);
            }
            for (int at = 0; at < history.length; at++) {
                int block = history.blockAt(at);
                int times = tallyOf(block);
                if (times > most || times == most && block < found) {
                    found = block;
                    most = times;
                }
            }
            clearTally();
            return found;
        }

        int timesRead(int block) {
            int times = 0;
            for (int at = 0; at < history.length; at++) {
                if (history.blockAt(at) == block) {
                    times++;
                }
            }
            return times;
        }

        /** The length of the longest row of steps of d; its first block is in rowStart then. */
        int longestRow(int d) {
            int longest = 0;
            for (int at = 0; at < history.length; at++) {
                int block = history.blockAt(at);
                // A later row that ends in a block is never shorter than an earlier one.
                int length = tallyOf(block - d) + 1;
                setTally(block, length);
                if (length > longest) {
                    longest = length;
                    rowStart = block - (length - 1) * d;
                }
            }
            clearTally();
            return longest;
        }

        int slotHolding(int block, int size) {
            for (int slot = 0; slot < size && slot < MOST_ROOM; slot++) {
                if (held[slot] == block) {
                    return slot;
                }
            }
            return NONE;
        }

        void hold(int slot, int block, int turn) {
            if (slot >= 0 && slot < MOST_ROOM) {
                held[slot] = block;
                turns[slot] = turn;
            }
        }

        /** Misses by a cache of c from which the one goes that was not read for longest. */
        int missesOfLatest(int c) {
            int found = 0;
            int size = 0;
            for (int at = 0; at < history.length; at++) {
                int block = history.blockAt(at);
                int slot = slotHolding(block, size);
                if (slot == NONE) {
                    found++;
                    slot = size < c ? size : longestUnread(size);
                    size = Math.min(c, size + 1);
                }
                hold(slot, block, at);
            }
            return found;
        }

        int longestUnread(int size) {
            int found = 0;
            for (int slot = 1; slot < size && slot < MOST_ROOM; slot++) {
                if (turns[slot] < turns[found]) {
                    found = slot;
                }
            }
            return found;
        }

        /** Misses by a cache of c from which the one goes that is read again last. */
        int missesAtBest(int c) {
            lookAhead();
            int found = 0;
            int size = 0;
            for (int at = 0; at < history.length && at < TRACE_LENGTH; at++) {
                int block = history.blockAt(at);
                int slot = slotHolding(block, size);
                if (slot == NONE) {
                    found++;
                    slot = size < c ? size : lastReadAgain(size);
                    size = Math.min(c, size + 1);
                }
                hold(slot, block, nextRead[at]);
            }
            return found;
        }

        void lookAhead() {
            for (int at = Math.min(history.length, TRACE_LENGTH) - 1; at >= 0; at--) {
                int block = history.blockAt(at);
                int seen = tallyOf(block);
                nextRead[at] = seen == 0 ? Integer.MAX_VALUE : seen;
                setTally(block, at + 1);
            }
            clearTally();
        }

        int lastReadAgain(int size) {
            int found = 0;
            for (int slot = 1; slot < size && slot < MOST_ROOM; slot++) {
                if (turns[slot] > turns[found] || turns[slot] == turns[found] && held[slot] < held[found]) {
                    found = slot;
                }
            }
            return found;
        }
    }
}
