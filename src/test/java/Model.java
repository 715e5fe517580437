import java.util.ArrayList;
import java.util.Arrays;
import java.util.Comparator;
import java.util.HashMap;
import java.util.HashSet;
import java.util.List;
import java.util.Map;
import java.util.TreeMap;

/**
 * The document once more, in the plainest words that the Java library has, to hold the class against.
 * It copies everything for what is on paper, and looks for everything by going through lists.
 */
final class Model {
    static final int NONE = -1;
    static final int MIN = Integer.MIN_VALUE;
    static final int[] LOW = {4, 1, 1, 1, 1, 0, 1, 1, 0, 0};
    static final int[] HIGH = {64, 4, 8, 32, 200, 100, 6, 10000, 2, 8};

    static final class Held {
        int block;
        int stamp;
        boolean ahead;
        int number = NONE;
        int touched;
        int readsThen;

        Held copy() {
            Held h = new Held();
            h.block = block;
            h.stamp = stamp;
            h.ahead = ahead;
            h.number = number;
            h.touched = touched;
            h.readsThen = readsThen;
            return h;
        }
    }

    static final class Str {
        int number;
        int last;
        int stride;
        int proof;
        int window;
        int edge;
        int marker = NONE;
        int used;
        int fetched;
        int hits;
        int wasted;

        Str copy() {
            Str s = new Str();
            s.number = number;
            s.last = last;
            s.stride = stride;
            s.proof = proof;
            s.window = window;
            s.edge = edge;
            s.marker = marker;
            s.used = used;
            s.fetched = fetched;
            s.hits = hits;
            s.wasted = wasted;
            return s;
        }

        boolean edgeAhead() {
            return (long) (edge - last) * stride > 0;
        }
    }

    int[] t = {16, 2, 2, 8, 16, 30, 4, 10000, 0, 0};
    Map<Integer, Integer> written = new HashMap<>();
    HashSet<Integer> bads = new HashSet<>();
    TreeMap<Integer, Held> cache = new TreeMap<>();
    Str[] places = new Str[6];
    List<int[]> trace = new ArrayList<>();
    List<int[]> log = new ArrayList<>();
    int stamp;
    int reads;
    int hits;
    int missed;
    int failed;
    int hitsAhead;
    int aheadFetched;
    int wasted;
    int shared;
    int held;
    int batches;
    int came;
    int greatest;
    int joined;
    int byIdle;
    int late;
    int toCome;
    Model[] kept = new Model[2];
    // what the latest READ did
    List<Integer> planned = new ArrayList<>();
    Str own;
    int kind;

    Model copy() {
        Model m = new Model();
        m.become(this);
        return m;
    }

    void become(Model o) {
        t = o.t.clone();
        written = new HashMap<>(o.written);
        bads = new HashSet<>(o.bads);
        cache = new TreeMap<>();
        for (Held h : o.cache.values()) {
            cache.put(h.block, h.copy());
        }
        for (int i = 0; i < 6; i++) {
            places[i] = o.places[i] == null ? null : o.places[i].copy();
        }
        trace = new ArrayList<>(o.trace);
        log = new ArrayList<>(o.log);
        stamp = o.stamp;
        reads = o.reads;
        hits = o.hits;
        missed = o.missed;
        failed = o.failed;
        hitsAhead = o.hitsAhead;
        aheadFetched = o.aheadFetched;
        wasted = o.wasted;
        shared = o.shared;
        held = o.held;
        batches = o.batches;
        came = o.came;
        greatest = o.greatest;
        joined = o.joined;
        byIdle = o.byIdle;
        late = o.late;
        toCome = o.toCome;
    }

    void atFirst() {
        Model fresh = new Model();
        fresh.t = t;
        fresh.written = written;
        fresh.bads = bads;
        become(fresh);
    }

    boolean is(long b) {
        return b >= 0 && b < t[7];
    }

    int content(int b) {
        return written.getOrDefault(b, (int) ((7919L * b + 13) % 1000003));
    }

    int aheads() {
        return (int) cache.values().stream().filter(h -> h.ahead).count();
    }

    int aheadFor(int number) {
        return (int) cache.values().stream().filter(h -> h.ahead && h.number == number).count();
    }

    Str byNumber(int number) {
        for (Str s : places) {
            if (s != null && s.number == number) {
                return s;
            }
        }
        return null;
    }

    void window(Str s, int w) {
        if (s.window != w) {
            log.add(0, new int[] {reads, s.number, s.window, w});
            if (log.size() > 40) {
                log.remove(40);
            }
        }
        s.window = w;
        greatest = Math.max(greatest, w);
    }

    void goes(Held h) {
        cache.remove(h.block);
        if (h.ahead) {
            wasted++;
            Str s = byNumber(h.number);
            if (s != null) {
                s.wasted++;
                window(s, s.window / 2 < 1 ? 1 : s.window / 2);
            }
        }
    }

    Held put(int b, int beingRead) {
        if (cache.size() == t[0]) {
            List<Held> may = new ArrayList<>(cache.values());
            may.removeIf(h -> h.block == beingRead);
            may.sort(Comparator.comparingInt(h -> h.stamp));
            if (t[8] == 1 && aheads() > t[0] / 4) {
                may.removeIf(h -> !h.ahead);
            }
            if (t[8] == 2) {
                may.sort(Comparator.comparingInt(h -> h.touched));
            }
            goes(may.get(0));
        }
        Held h = new Held();
        h.block = b;
        h.stamp = ++stamp;
        h.readsThen = reads;
        cache.put(b, h);
        return h;
    }

    void fetchAhead(Str s, int b, int beingRead) {
        Held h = put(b, beingRead);
        h.ahead = true;
        h.number = s.number;
        s.fetched++;
        aheadFetched++;
        planned.add(b);
    }

    void batch(Str s, int beingRead) {
        s.marker = NONE;
        batches++;
        if (wasted * 100 > t[5] * aheadFetched) {
            held++;
            return;
        }
        int left = s.window;
        boolean first = true;
        while (left-- > 0) {
            int b = s.edge + s.stride;
            boolean in = cache.containsKey(b);
            if (!is(b) || bads.contains(b) && !in || aheads() >= t[0] / 2) {
                return;
            }
            s.edge = b;
            if (first) {
                s.marker = b;
            }
            first = false;
            if (in) {
                shared++;
            } else {
                fetchAhead(s, b, beingRead);
            }
        }
    }

    int newPlace() {
        for (int i = 0; i < t[6]; i++) {
            if (places[i] == null) {
                return i;
            }
        }
        List<Integer> order = new ArrayList<>();
        for (int i = 0; i < t[6]; i++) {
            order.add(i);
        }
        order.sort(Comparator.comparingInt((Integer i) -> places[i].window == 0 ? 0 : 1)
                .thenComparingInt(i -> places[i].used));
        return order.get(0);
    }

    int born(int b) {
        int place = newPlace();
        Str s = new Str();
        s.number = came++;
        s.last = b;
        s.edge = b;
        places[place] = s;
        return place;
    }

    Str stepper(int b) {
        List<Str> all = new ArrayList<>();
        for (Str s : places) {
            if (s != null && s.stride != 0 && s.last + s.stride == b) {
                all.add(s);
            }
        }
        for (Str s : all) {
            if (s.window != 0) {
                return s;
            }
        }
        return all.isEmpty() ? null : all.get(0);
    }

    Str withLast(int b) {
        for (Str s : places) {
            if (s != null && s.last == b) {
                return s;
            }
        }
        return null;
    }

    Str pairer(int b) {
        for (int far = 1; far <= t[4]; far++) {
            for (Str s : places) {
                if (s != null && s.stride == 0 && Math.abs(b - s.last) == far) {
                    return s;
                }
            }
        }
        return null;
    }

    /** NONE: no such block, else how it was found, 0 if it fails. */
    int doRead(int b) {
        planned.clear();
        own = null;
        kind = NONE;
        if (!is(b)) {
            return NONE;
        }
        Held h = cache.get(b);
        if (h == null && bads.contains(b)) {
            failed++;
            return kind = 0;
        }
        int goneBy = reads;
        reads++;
        if (h == null) {
            missed++;
            put(b, b).touched = 1;
        } else {
            hits++;
            Str s = h.number == NONE ? null : byNumber(h.number);
            if (h.ahead) {
                hitsAhead++;
                if (s != null) {
                    s.hits++;
                }
            }
            h.ahead = false;
            h.stamp = ++stamp;
            h.touched++;
            if (h.number != NONE && goneBy - h.readsThen < t[9]) {
                late++;
                toCome += t[9] - (goneBy - h.readsThen);
                if (s != null) {
                    window(s, Math.min(t[3], 2 * s.window));
                }
            }
        }
        follow(b);
        own.used = stamp;
        trace.add(0, new int[] {b, own.number, kind});
        if (trace.size() > 400) {
            trace.remove(400);
        }
        join();
        return kind;
    }

    private void follow(int b) {
        if ((own = stepper(b)) != null) {
            kind = 1;
            own.last = b;
            own.proof = Math.min(99, own.proof + 1);
        } else if ((own = withLast(b)) != null) {
            kind = 2;
            return;
        } else if ((own = pairer(b)) != null) {
            kind = 3;
            own.stride = b - own.last;
            own.proof = 1;
            own.last = b;
        } else {
            kind = 4;
            own = places[born(b)];
            return;
        }
        if (own.window == 0) {
            if (own.proof >= t[1]) {
                window(own, Math.min(t[2], t[3]));
                own.edge = own.last;
                batch(own, b);
            }
        } else if (b == own.marker) {
            window(own, Math.min(t[3], 2 * own.window));
            batch(own, b);
        } else if (!own.edgeAhead()) {
            own.edge = own.last;
            batch(own, b);
        }
    }

    private void join() {
        for (int i = 0; i < 6; i++) {
            Str o = places[i];
            if (o == null || o == own || own.stride == 0 || o.stride != own.stride || o.last != own.last) {
                continue;
            }
            joined++;
            if (o.number < own.number) {
                places[Arrays.asList(places).indexOf(own)] = null;
                return;
            }
            places[i] = null;
        }
    }

    boolean idleOne() {
        if (aheads() >= t[0] / 2) {
            return false;
        }
        Str best = null;
        int bestNext = NONE;
        int bestLack = 0;
        for (Str s : places) {
            if (s == null || s.window == 0) {
                continue;
            }
            int next = s.edgeAhead() ? s.edge + s.stride : s.last + s.stride;
            int lack = s.window - aheadFor(s.number);
            if (is(next) && !bads.contains(next) && !cache.containsKey(next) && lack > bestLack) {
                best = s;
                bestNext = next;
                bestLack = lack;
            }
        }
        if (best == null) {
            return false;
        }
        fetchAhead(best, bestNext, NONE);
        best.edge = bestNext;
        byIdle++;
        return true;
    }

    // The face.

    boolean sets(int what, int v) {
        if (what < 0 || what > 9 || v < LOW[what] || v > HIGH[what] || t[what] == v) {
            return false;
        }
        t[what] = v;
        atFirst();
        return true;
    }

    int read(int b) {
        int k = doRead(b);
        return k == NONE ? NONE : k == 0 ? -2 : content(b);
    }

    int reads(int from, int by, int n) {
        if (n < 1 || n > 40) {
            return NONE;
        }
        int before = hits;
        for (int i = 0; i < n; i++) {
            long b = (long) from + (long) by * i;
            if (is(b)) {
                doRead((int) b);
            }
        }
        return hits - before;
    }

    int idle(int n) {
        if (n < 1 || n > 20) {
            return NONE;
        }
        for (int i = 0; i < n; i++) {
            if (!idleOne()) {
                return i;
            }
        }
        return n;
    }

    int advise(int b, int stride) {
        if (!is(b) || stride == 0 || Math.abs((long) stride) > 64) {
            return NONE;
        }
        int place = born(b);
        Str s = places[place];
        s.stride = stride;
        s.proof = 99;
        window(s, Math.min(t[2], t[3]));
        batch(s, NONE);
        s.used = stamp;
        return place;
    }

    int write(int b, int c) {
        if (!is(b) || c < 0 || c > 1000002) {
            return NONE;
        }
        int was = content(b);
        written.put(b, c);
        return was;
    }

    boolean bad(int b, boolean isBad) {
        return is(b) && (isBad ? bads.add(b) : bads.remove(b));
    }

    boolean drop(int b) {
        if (!cache.containsKey(b)) {
            return false;
        }
        goes(cache.get(b));
        return true;
    }

    int stop(int place) {
        if (place < 0 || place > 5 || places[place] == null) {
            return NONE;
        }
        int number = places[place].number;
        places[place] = null;
        return number;
    }

    boolean keep(int k) {
        if (k != 0 && k != 1) {
            return false;
        }
        kept[k] = copy();
        return true;
    }

    boolean again(int k) {
        if (k != 0 && k != 1 || kept[k] == null) {
            return false;
        }
        become(kept[k]);
        return true;
    }

    int block(int b, int what) {
        if (!is(b) || what < 0 || what > 7) {
            return NONE;
        }
        Held h = cache.get(b);
        if (what == 0) {
            return content(b);
        }
        if (what == 5) {
            return bads.contains(b) ? 1 : 0;
        }
        if (h == null) {
            return NONE;
        }
        int[] all = {0, content(b), h.stamp, h.ahead ? 1 : 0, h.number, 0, h.touched,
            h.number == NONE ? 0 : Math.max(0, t[9] - (reads - h.readsThen))};
        return all[what];
    }

    List<Integer> byStamp() {
        List<Held> all = new ArrayList<>(cache.values());
        all.sort(Comparator.comparingInt(h -> h.stamp));
        List<Integer> blocks = new ArrayList<>();
        for (Held h : all) {
            blocks.add(h.block);
        }
        return blocks;
    }

    int cached(int i) {
        return i < 0 || i >= cache.size() ? NONE : byStamp().get(i);
    }

    int stream(int place, int what) {
        if (place < 0 || place > 5 || places[place] == null || what < 0 || what > 11) {
            return MIN;
        }
        Str s = places[place];
        int[] all = {s.number, s.last, s.stride, s.proof, s.window, s.edge, s.marker, s.used,
            aheadFor(s.number), s.fetched, s.hits, s.wasted};
        return all[what];
    }

    int aheadOf(int place, int i) {
        if (place < 0 || place > 5 || places[place] == null || places[place].stride == 0) {
            return NONE;
        }
        Str s = places[place];
        List<Integer> found = new ArrayList<>();
        for (int b = s.last + s.stride; is(b); b += s.stride) {
            Held h = cache.get(b);
            if (h != null && h.ahead && h.number == s.number) {
                found.add(b);
            }
        }
        return i < 0 || i >= found.size() ? NONE : found.get(i);
    }

    int gain(int what) {
        if (what == 0) {
            return misses(t[0], 0) - replay(0, t[0], 2);
        }
        if (what != 1 && what != 2) {
            return MIN;
        }
        return aheadFetched == 0 ? NONE : (what == 1 ? hitsAhead : wasted) * 100 / aheadFetched;
    }

    int log(int i, int what) {
        return i < 0 || i >= log.size() || what < 0 || what > 3 ? NONE : log.get(i)[what];
    }

    int[] traced() {
        int[] blocks = new int[trace.size()];
        for (int i = 0; i < blocks.length; i++) {
            blocks[i] = trace.get(blocks.length - 1 - i)[0];
        }
        return blocks;
    }

    int piece(int i, int what) {
        List<int[]> pieces = new ArrayList<>();
        int longest = 0;
        int before = -5;
        for (int b : traced()) {
            if (b != before + 1) {
                pieces.add(new int[] {0, b});
            }
            int[] piece = pieces.get(pieces.size() - 1);
            longest = Math.max(longest, ++piece[0]);
            before = b;
        }
        if (what != 0 && what != 1 || i < -1 || i >= pieces.size()) {
            return NONE;
        }
        return i == NONE ? (what == 0 ? pieces.size() : longest) : pieces.get(i)[what];
    }

    int whose(int i, int what) {
        return i < 0 || i >= trace.size() || what < 0 || what > 1 ? NONE : trace.get(i)[1 + what];
    }

    int mixed(int what) {
        Map<Integer, Integer> times = new HashMap<>();
        int changes = 0;
        int most = 0;
        for (int i = 0; i < trace.size(); i++) {
            most = Math.max(most, times.merge(trace.get(i)[1], 1, Integer::sum));
            if (i > 0 && trace.get(i)[1] != trace.get(i - 1)[1]) {
                changes++;
            }
        }
        return what == 0 ? changes : what == 1 ? times.size() : what == 2 ? most : NONE;
    }

    int trace(int i) {
        return i < 0 || i >= trace.size() ? NONE : trace.get(i)[0];
    }

    int would(int b, int what) {
        if (!is(b) || what < 0 || what > 5) {
            return NONE;
        }
        Model m = copy();
        int k = m.doRead(b);
        int place = m.own == null ? NONE : Arrays.asList(m.places).indexOf(m.own);
        int[] all = {k, m.hits - hits, place, m.aheadFetched - aheadFetched, m.shared - shared, m.wasted - wasted};
        return all[what];
    }

    int plan(int b, int i) {
        Model m = copy();
        m.doRead(b);
        return i < 0 || i >= m.planned.size() ? NONE : m.planned.get(i);
    }

    Model anew(int term, int v, int other, int w) {
        Model m = copy();
        m.t[term] = v;
        m.t[other] = w;
        m.atFirst();
        for (int b : traced()) {
            m.doRead(b);
        }
        return m;
    }

    int replay(int term, int v, int what) {
        if (term < 0 || term > 9 || v < LOW[term] || v > HIGH[term] || what < 0 || what > 33) {
            return MIN;
        }
        return term == 7 && v != t[7] ? MIN : anew(term, v, term, v).count(what);
    }

    int forecast(int n, int what) {
        if (n < 1 || n > 20 || what < 0 || what > 3) {
            return NONE;
        }
        Model m = copy();
        for (int i = 0; i < n; i++) {
            for (int p = 0; p < 6; p++) {
                if (m.places[p] != null && m.places[p].window > 0) {
                    m.doRead(m.places[p].last + m.places[p].stride);
                }
            }
        }
        int[] all = {m.reads - reads, m.hits - hits, m.wasted - wasted, m.late - late};
        return all[what];
    }

    int tune(int what) {
        int[] best = {0, 0, Integer.MAX_VALUE};
        for (int need = 1; need <= 4; need++) {
            for (int first = 1; first <= 8; first++) {
                int m = anew(1, need, 2, first).missed;
                if (m < best[2]) {
                    best = new int[] {need, first, m};
                }
            }
        }
        return what < 0 || what > 2 ? NONE : best[what];
    }

    int best(int term, int what) {
        if (term < 0 || term > 9 || term == 7 || what < 0 || what > 1) {
            return NONE;
        }
        int[] best = {0, Integer.MAX_VALUE};
        for (int v = LOW[term]; v <= HIGH[term]; v++) {
            int m = anew(term, v, term, v).missed;
            if (m < best[1]) {
                best = new int[] {v, m};
            }
        }
        return best[what];
    }

    int misses(int c, int what) {
        if (c < 1 || c > 64 || what < 0 || what > 1) {
            return NONE;
        }
        int[] b = traced();
        List<Integer> in = new ArrayList<>();
        int found = 0;
        for (int i = 0; i < b.length; i++) {
            boolean there = in.remove((Integer) b[i]);
            if (!there) {
                found++;
                if (in.size() == c) {
                    in.remove(what == 0 ? in.get(0) : (Integer) readLast(in, b, i));
                }
            }
            in.add(b[i]);
        }
        return found;
    }

    private static int readLast(List<Integer> in, int[] b, int now) {
        int worst = NONE;
        int worstWhen = NONE;
        List<Integer> sorted = new ArrayList<>(in);
        sorted.sort(null);
        for (int x : sorted) {
            int when = now + 1;
            while (when < b.length && b[when] != x) {
                when++;
            }
            if (when > worstWhen) {
                worst = x;
                worstWhen = when;
            }
        }
        return worst;
    }

    int row(int d, int what) {
        int[] b = traced();
        if (b.length == 0 || d == 0 || Math.abs((long) d) > 10000 || what < 0 || what > 1) {
            return NONE;
        }
        int[] length = new int[b.length];
        int[] start = new int[b.length];
        int best = 0;
        for (int i = 0; i < b.length; i++) {
            length[i] = 1;
            start[i] = b[i];
            for (int j = 0; j < i; j++) {
                if (b[i] - b[j] == d && length[j] + 1 > length[i]) {
                    length[i] = length[j] + 1;
                    start[i] = start[j];
                }
            }
            if (length[i] > length[best]) {
                best = i;
            }
        }
        return what == 0 ? length[best] : start[best];
    }

    int pace(int what) {
        if (trace.isEmpty() || what < 0 || what > 1) {
            return NONE;
        }
        int best = 1;
        for (int d = -64; d <= 64; d++) {
            if (d == 0) {
                continue;
            }
            int a = row(d, 0);
            int b = row(best, 0);
            if (a > b || a == b && (Math.abs(d) < Math.abs(best) || Math.abs(d) == Math.abs(best) && d > best)) {
                best = d;
            }
        }
        return what == 0 ? best : row(best, 0);
    }

    int until(int place) {
        if (place < 0 || place > 5 || places[place] == null || places[place].stride == 0) {
            return NONE;
        }
        Str s = places[place].copy();
        for (int n = 1;; n++) {
            s.last += s.stride;
            s.proof++;
            if (!is(s.last)) {
                return NONE;
            }
            if (s.window == 0 ? s.proof >= t[1] : s.last == s.marker || !s.edgeAhead()) {
                return n;
            }
        }
    }

    int ahead(int b) {
        return byStamp().indexOf(b);
    }

    int habits(int what) {
        int[] b = traced();
        if (b.length == 0 || what < 0 || what > 4) {
            return NONE;
        }
        TreeMap<Integer, Integer> times = new TreeMap<>();
        int behind = 0;
        int between = NONE;
        for (int i = 0; i < b.length; i++) {
            times.merge(b[i], 1, Integer::sum);
            behind += i > 0 && b[i] - b[i - 1] == 1 ? 1 : 0;
            between = i < b.length - 1 && b[i] == b[b.length - 1] ? b.length - 2 - i : between;
        }
        int most = times.firstKey();
        for (int x : times.keySet()) {
            most = times.get(x) > times.get(most) ? x : most;
        }
        int[] all = {times.size(), between, most, times.get(most), behind};
        return all[what];
    }

    int count(int what) {
        int there = 0;
        int proved = 0;
        for (Str s : places) {
            there += s != null ? 1 : 0;
            proved += s != null && s.window > 0 ? 1 : 0;
        }
        int bad = (int) bads.stream().filter(b -> b < t[7]).count();
        int[] all = {reads, hits, missed, failed, hitsAhead, aheadFetched, wasted, shared, held, batches,
            cache.size(), aheads(), there, proved, came, stamp, trace.size(), greatest, bad, joined,
            t[0], t[1], t[2], t[3], t[4], t[5], t[6], t[7], t[8], t[9], byIdle, log.size(), late, toCome};
        return what < 0 || what >= all.length ? NONE : all[what];
    }
}
