import java.util.Arrays;

/** A workbench for distributed computations; ../shared/DOC.md says what each method promises. */
public final class RunCuts {
    public static final int NONE = -1, UNKNOWN = -101, OUTSIDE = -102, STATE = -103, FULL = -104;

    private static final int MOST_PROCESSES = 4;
    private static final int MOST_OF_ONE = 9;
    private static final int MOST_EVENTS = 16;
    private static final int MOST_CHARACTERS = 36;
    /** 5 * 5 * 5 * 5: sixteen events make the most cuts when four processes share them evenly. */
    private static final int MOST_CUTS = 625;
    /** A process with nine events has ten prefixes, the empty one among them. */
    private static final int MOST_PREFIXES = 10;
    /** Ten prefixes that are allowed and not allowed in turn. */
    private static final int MOST_INTERVALS = 5;
    private static final int MOST_CHANNELS = MOST_PROCESSES * MOST_PROCESSES;
    private static final int GREATEST_VALUE = 9;
    private static final int GREATEST_SUM = 36;
    private static final int ALL_VALUES = 1023;
    private static final int LOCAL = 0, SEND = 1, RECEIVE = 2;
    private static final int CONJUNCTION = 0, SUM = 1, QUIET = 2, SPREAD = 3;
    private static final int[] TENS = {1, 10, 100, 1000};

    private final Page page = new Page();
    private Events events = new Events();
    private Events draft = new Events();
    private final Lattice cuts = new Lattice();
    private final Predicate predicate = new Predicate();
    private final Search search = new Search();
    private final Intervals intervals = new Intervals();
    private final Lean thinned = new Lean();
    private final Play turns = new Play();
    private final Snapshot snapshot = new Snapshot();
    private int timesRead;
    private int timesShot;

    public RunCuts() {
    }

    public int letter(int code) {
        if (code < ' ' || code > '~') return OUTSIDE;
        if (page.length >= MOST_CHARACTERS) return FULL;
        page.append(code);
        return page.length;
    }

    public int blank() {
        int had = page.length;
        page.length = 0;
        return had;
    }

    public int fault() {
        return page.firstFault();
    }

    public int run() {
        if (!page.readInto(draft) || !draft.link()) return STATE;
        Events old = events;
        events = draft;
        draft = old;
        page.length = 0;
        predicate.allowAll();
        timesRead++;
        forgetResults();
        return events.processes;
    }

    public int local(int process, int v) {
        if (!events.hasProcess(process)) return UNKNOWN;
        if (v < 0 || v > GREATEST_VALUE) return OUTSIDE;
        if (!events.hasRoom(process)) return FULL;
        return grow(process, LOCAL, v);
    }

    public int send(int process, int to) {
        if (!events.hasChannel(process, to)) return UNKNOWN;
        if (!events.hasRoom(process)) return FULL;
        return grow(process, SEND, to);
    }

    public int receive(int process, int from) {
        if (!events.hasChannel(process, from)) return UNKNOWN;
        if (!events.hasFreeSend(from, process)) return STATE;
        if (!events.hasRoom(process)) return FULL;
        return grow(process, RECEIVE, from);
    }

    public int back(int process) {
        if (!events.hasProcess(process)) return UNKNOWN;
        if (!events.canDropLast(process)) return STATE;
        events.dropLast(process);
        events.link();
        forgetResults();
        return events.sizes[process];
    }

    public int event(int process, int event, int what) {
        if (!events.hasEvent(process, event)) return UNKNOWN;
        if (what < 0 || what > 6) return OUTSIDE;
        return events.property(process, event, what);
    }

    public int order(int p, int one, int q, int other) {
        if (!events.hasEvent(p, one) || !events.hasEvent(q, other)) return UNKNOWN;
        if (p == q && one == other) return 2;
        if (events.isBefore(p, one, q, other)) return 1;
        return events.isBefore(q, other, p, one) ? -1 : 0;
    }

    public int cut(int cut, int what) {
        if (!hasComputation()) return STATE;
        if (!events.isCut(cut)) return UNKNOWN;
        if (what < 0 || what > 5) return OUTSIDE;
        if (what == 0) return events.isConsistent(cut) ? 1 : 0;
        if (what == 1) return levelOf(cut);
        if (!events.isConsistent(cut)) return STATE;
        if (what == 5) cuts.build(events);
        return cutProperty(cut, what);
    }

    public int value(int cut, int process) {
        if (!hasComputation()) return STATE;
        if (!events.isCut(cut) || !events.hasProcess(process)) return UNKNOWN;
        return events.valueIn(cut, process);
    }

    public int under(int cut, int from, int to) {
        if (!hasComputation()) return STATE;
        if (!events.isCut(cut) || !events.hasChannel(from, to)) return UNKNOWN;
        if (!events.isConsistent(cut)) return STATE;
        return events.underWayBetween(cut, from, to);
    }

    public int meet(int one, int other) {
        int refusal = refusePair(one, other);
        return refusal != 0 ? refusal : events.combine(one, other, false);
    }

    public int join(int one, int other) {
        int refusal = refusePair(one, other);
        return refusal != 0 ? refusal : events.combine(one, other, true);
    }

    public int lattice(int what) {
        if (what < 0 || what > 4) return OUTSIDE;
        if (!hasComputation()) return STATE;
        cuts.build(events);
        return cuts.property(what);
    }

    public int level(int level, int place) {
        if (!hasComputation()) return STATE;
        cuts.build(events);
        if (level < 0 || level > events.total) return UNKNOWN;
        if (place < 0 || place >= cuts.sizeOfLevel(level)) return UNKNOWN;
        return cuts.inOrder(cuts.starts[level] + place);
    }

    public int wish(int kind, int v) {
        if (kind < CONJUNCTION || kind > SPREAD || v < 0 || v > GREATEST_SUM) return OUTSIDE;
        int previous = predicate.kind;
        predicate.kind = kind;
        predicate.v = v;
        forgetSearches();
        return previous;
    }

    public int allow(int process, int values) {
        if (!events.hasProcess(process)) return UNKNOWN;
        if (values < 0 || values > ALL_VALUES) return OUTSIDE;
        int previous = predicate.allowed[process];
        predicate.allowed[process] = values;
        forgetSearches();
        return previous;
    }

    public int wished(int what) {
        if (what < 0 || what > 3) return OUTSIDE;
        if (!hasComputation()) return STATE;
        settleSearch();
        return search.property(what);
    }

    public int around(int step) {
        if (!hasComputation()) return STATE;
        settleSearch();
        if (step < 0 || step >= search.steps) return UNKNOWN;
        return search.path[step];
    }

    public int least() {
        if (!hasConjunction()) return STATE;
        settleSearch();
        return search.leastCut();
    }

    public int strong() {
        if (!hasConjunction()) return STATE;
        intervals.find(events, predicate);
        return intervals.areStrong(events) ? 1 : 0;
    }

    public int interval(int process, int interval, int what) {
        if (!hasConjunction()) return STATE;
        if (!events.hasProcess(process)) return UNKNOWN;
        intervals.find(events, predicate);
        if (interval < 0 || interval >= intervals.counts[process]) return UNKNOWN;
        if (what < 0 || what > 1) return OUTSIDE;
        return what == 0 ? intervals.firstOf(process, interval) : intervals.lastOf(process, interval);
    }

    public int lean(int what) {
        if (what < 0 || what > 3) return OUTSIDE;
        if (!hasConjunction()) return STATE;
        thinned.build(events, predicate);
        return thinned.property(what);
    }

    public int play(int seed) {
        if (!hasComputation()) return STATE;
        if (seed < 0) return OUTSIDE;
        snapshot.taken = false;
        turns.perform(events, seed);
        return turns.size;
    }

    public int played(int step) {
        if (step < 0 || step >= turns.size) return UNKNOWN;
        return turns.steps[step];
    }

    public int shot(int process, int t) {
        if (turns.size == NONE) return STATE;
        if (!events.hasProcess(process)) return UNKNOWN;
        if (t < 0 || t > turns.size) return OUTSIDE;
        snapshot.take(events, turns, process, t);
        timesShot++;
        return snapshot.cut;
    }

    public int shots(int what) {
        if (what < 0 || what > 2) return OUTSIDE;
        if (!snapshot.taken) return STATE;
        return snapshot.property(what);
    }

    public int count(int what) {
        if (what < 0 || what > 7) return OUTSIDE;
        switch (what) {
            case 0: return events.processes;
            case 1: return events.total;
            case 2: return events.countKind(LOCAL);
            case 3: return events.countKind(SEND);
            case 4: return events.countKind(RECEIVE);
            case 5: return page.length;
            case 6: return timesRead;
            default: return timesShot;
        }
    }

    public long digest() {
        long h = 1549;
        if (hasComputation()) {
            settleSearch();
            h = mixEvents(h);
            h = mixCuts(h);
            h = mixSearch(h);
            if (hasConjunction()) h = mixConjunction(h);
        }
        for (int step = 0; step < turns.size; step++) h = mix(h, turns.steps[step]);
        if (snapshot.taken) {
            for (int what = 0; what <= 2; what++) h = mix(h, snapshot.property(what));
        }
        for (int i = 0; i < page.length; i++) h = mix(h, page.codes[i]);
        for (int what = 0; what <= 7; what++) h = mix(h, count(what));
        return h;
    }

    private static long mix(long h, int v) {
        return 31 * h + v;
    }

    private long mixEvents(long h) {
        for (int p = 0; p < events.processes; p++) {
            for (int e = 0; e < events.sizes[p]; e++) {
                for (int what = 0; what <= 6; what++) h = mix(h, events.property(p, e, what));
            }
        }
        return h;
    }

    private long mixCuts(long h) {
        for (int what = 0; what <= 4; what++) h = mix(h, cuts.property(what));
        for (int rank = 0; rank < cuts.size; rank++) {
            int cut = cuts.inOrder(rank);
            h = mix(h, cut);
            for (int what = 2; what <= 5; what++) h = mix(h, cutProperty(cut, what));
        }
        return h;
    }

    private long mixSearch(long h) {
        for (int what = 0; what <= 3; what++) h = mix(h, search.property(what));
        for (int step = 0; step < search.steps; step++) h = mix(h, search.path[step]);
        return h;
    }

    private long mixConjunction(long h) {
        intervals.find(events, predicate);
        thinned.build(events, predicate);
        h = mix(h, search.leastCut());
        h = mix(h, intervals.areStrong(events) ? 1 : 0);
        for (int p = 0; p < events.processes; p++) {
            for (int i = 0; i < intervals.counts[p]; i++) {
                h = mix(h, intervals.firstOf(p, i));
                h = mix(h, intervals.lastOf(p, i));
            }
        }
        for (int what = 0; what <= 3; what++) h = mix(h, thinned.property(what));
        return h;
    }

    private boolean hasComputation() {
        return events.processes > 0;
    }

    private boolean hasConjunction() {
        return hasComputation() && predicate.kind == CONJUNCTION;
    }

    private int grow(int process, int kind, int detail) {
        events.append(process, kind, detail);
        events.link();
        forgetResults();
        return events.sizes[process];
    }

    private void forgetResults() {
        turns.size = NONE;
        snapshot.taken = false;
        cuts.stands = false;
        forgetSearches();
    }

    private void forgetSearches() {
        search.stands = false;
        thinned.forget();
    }

    private void settleSearch() {
        cuts.build(events);
        search.build(events, cuts, predicate);
    }

    /** The properties that only a consistent cut has; for the paths the lattice must stand. */
    private int cutProperty(int cut, int what) {
        switch (what) {
            case 2: return predicate.holdsIn(events, cut) ? 1 : 0;
            case 3: return events.followers(cut);
            case 4: return events.underWay(cut);
            default: return cuts.pathsThrough(events, cut);
        }
    }

    private int refusePair(int one, int other) {
        if (!hasComputation()) return STATE;
        if (!events.isCut(one) || !events.isCut(other)) return UNKNOWN;
        return events.isConsistent(one) && events.isConsistent(other) ? 0 : STATE;
    }

    private static int levelOf(int cut) {
        return cut / 1000 + cut / 100 % 10 + cut / 10 % 10 + cut % 10;
    }

    /** The text from which a computation is read. */
    private static final class Page {
        final int[] codes = new int[MOST_CHARACTERS];
        int length;

        void append(int code) {
            codes[length] = code;
            length++;
        }

        int firstFault() {
            int processes = 1;
            int ofOne = 0;
            int total = 0;
            boolean wantsProcess = false;
            for (int i = 0; i < length; i++) {
                int code = codes[i];
                if (wantsProcess) {
                    if (code < '0' || code > '3') return i;
                    wantsProcess = false;
                } else if (code == ';') {
                    if (processes == MOST_PROCESSES) return i;
                    processes++;
                    ofOne = 0;
                } else {
                    if (!isDigit(code) && code != '!' && code != '?') return i;
                    if (ofOne == MOST_OF_ONE || total == MOST_EVENTS) return i;
                    ofOne++;
                    total++;
                    wantsProcess = !isDigit(code);
                }
            }
            return length;
        }

        /** Tells whether the text is whole, and each of its messages goes to or comes from another process. */
        boolean readInto(Events read) {
            int processes = countProcesses();
            if (firstFault() < length || processes < 2) return false;
            read.begin(processes);
            int p = 0;
            for (int i = 0; i < length; i++) {
                int code = codes[i];
                if (code == ';') {
                    p++;
                } else if (isDigit(code)) {
                    read.append(p, LOCAL, code - '0');
                } else {
                    i++;
                    int other = i < length ? codes[i] - '0' : NONE;
                    if (!read.hasChannel(p, other)) return false;
                    read.append(p, code == '!' ? SEND : RECEIVE, other);
                }
            }
            return true;
        }

        private int countProcesses() {
            int processes = 1;
            for (int i = 0; i < length; i++) {
                if (codes[i] == ';') processes++;
            }
            return processes;
        }

        private static boolean isDigit(int code) {
            return code >= '0' && code <= '9';
        }
    }

    /** A computation. Event e of process p stands in its rows at p * MOST_OF_ONE + e. */
    private static final class Events {
        /** 0 as long as there is no computation. */
        int processes;
        int total;
        final int[] sizes = new int[MOST_PROCESSES];
        private final int[] kinds = new int[MOST_PROCESSES * MOST_OF_ONE];
        private final int[] details = new int[MOST_PROCESSES * MOST_OF_ONE];
        private final int[] partners = new int[MOST_PROCESSES * MOST_OF_ONE];
        private final int[] vectors = new int[MOST_PROCESSES * MOST_OF_ONE * MOST_PROCESSES];
        private final int[] values = new int[MOST_PROCESSES * MOST_PREFIXES];
        private final int[] surpluses = new int[MOST_PROCESSES * MOST_PREFIXES];
        private final int[] taken = new int[MOST_PROCESSES];

        void begin(int number) {
            processes = number;
            total = 0;
            Arrays.fill(sizes, 0);
        }

        boolean hasProcess(int p) {
            return p >= 0 && p < processes;
        }

        boolean hasChannel(int p, int q) {
            return hasProcess(p) && hasProcess(q) && p != q;
        }

        boolean hasEvent(int p, int e) {
            return hasProcess(p) && e >= 0 && e < sizes[p];
        }

        boolean hasRoom(int p) {
            return sizes[p] < MOST_OF_ONE && total < MOST_EVENTS;
        }

        void append(int p, int kind, int detail) {
            int row = p * MOST_OF_ONE + sizes[p];
            kinds[row] = kind;
            details[row] = detail;
            sizes[p]++;
            total++;
        }

        boolean canDropLast(int p) {
            if (sizes[p] == 0) return false;
            int row = p * MOST_OF_ONE + sizes[p] - 1;
            return kinds[row] != SEND || partners[row] == NONE;
        }

        void dropLast(int p) {
            sizes[p]--;
            total--;
        }

        /** Finds all that follows from the events; tells whether they are a computation. */
        boolean link() {
            if (!pairMessages() || !findVectors()) return false;
            for (int p = 0; p < processes; p++) followProcess(p);
            return true;
        }

        private boolean pairMessages() {
            Arrays.fill(partners, NONE);
            for (int q = 0; q < processes; q++) {
                Arrays.fill(taken, 0);
                for (int e = 0; e < sizes[q]; e++) {
                    if (kinds[q * MOST_OF_ONE + e] == RECEIVE && !pairReceive(q, e)) return false;
                }
            }
            return true;
        }

        /** Looks only behind the send that the receive before took, so the k-th one takes the k-th. */
        private boolean pairReceive(int q, int e) {
            int p = details[q * MOST_OF_ONE + e];
            for (int s = taken[p]; s < sizes[p]; s++) {
                int row = p * MOST_OF_ONE + s;
                if (kinds[row] == SEND && details[row] == q) {
                    partners[row] = e;
                    partners[q * MOST_OF_ONE + e] = s;
                    taken[p] = s + 1;
                    return true;
                }
            }
            return false;
        }

        private boolean findVectors() {
            int come = 0;
            for (int step = 0; step < total; step++) {
                int p = firstOf(followers(come));
                if (p == NONE) return false;
                findVector(p, countIn(come, p));
                come = with(come, p);
            }
            return true;
        }

        private void findVector(int p, int e) {
            int row = p * MOST_OF_ONE + e;
            for (int q = 0; q < MOST_PROCESSES; q++) {
                int known = e > 0 ? vectors[(row - 1) * MOST_PROCESSES + q] : 0;
                if (kinds[row] == RECEIVE) {
                    int sent = details[row] * MOST_OF_ONE + partners[row];
                    known = Math.max(known, vectors[sent * MOST_PROCESSES + q]);
                }
                vectors[row * MOST_PROCESSES + q] = q == p ? e + 1 : known;
            }
        }

        private static int firstOf(int set) {
            for (int p = 0; p < MOST_PROCESSES; p++) {
                if ((set >> p & 1) != 0) return p;
            }
            return NONE;
        }

        private void followProcess(int p) {
            int value = 0;
            int surplus = 0;
            for (int e = 0; e < sizes[p]; e++) {
                values[p * MOST_PREFIXES + e] = value;
                surpluses[p * MOST_PREFIXES + e] = surplus;
                int row = p * MOST_OF_ONE + e;
                if (kinds[row] == LOCAL) value = details[row];
                if (kinds[row] == SEND) surplus++;
                if (kinds[row] == RECEIVE) surplus--;
            }
            values[p * MOST_PREFIXES + sizes[p]] = value;
            surpluses[p * MOST_PREFIXES + sizes[p]] = surplus;
        }

        int kindOf(int p, int e) {
            return kinds[p * MOST_OF_ONE + e];
        }

        /** The value of a local event, the other process of a send or a receive. */
        int detailOf(int p, int e) {
            return details[p * MOST_OF_ONE + e];
        }

        int valueAfter(int p, int prefix) {
            return values[p * MOST_PREFIXES + prefix];
        }

        int property(int p, int e, int what) {
            int row = p * MOST_OF_ONE + e;
            if (what == 0) return kinds[row];
            if (what == 1) return details[row];
            if (what == 2) return partners[row];
            int q = what - 3;
            return hasProcess(q) ? vectors[row * MOST_PROCESSES + q] : NONE;
        }

        boolean isBefore(int p, int one, int q, int other) {
            if (p == q) return one < other;
            return vectors[(q * MOST_OF_ONE + other) * MOST_PROCESSES + p] > one;
        }

        boolean hasFreeSend(int from, int to) {
            for (int s = 0; s < sizes[from]; s++) {
                int row = from * MOST_OF_ONE + s;
                if (kinds[row] == SEND && details[row] == to && partners[row] == NONE) return true;
            }
            return false;
        }

        int countKind(int kind) {
            int found = 0;
            for (int p = 0; p < processes; p++) {
                for (int e = 0; e < sizes[p]; e++) {
                    if (kinds[p * MOST_OF_ONE + e] == kind) found++;
                }
            }
            return found;
        }

        boolean isCut(int cut) {
            if (cut < 0) return false;
            int rest = cut;
            for (int p = processes - 1; p >= 0; p--) {
                if (rest % 10 > sizes[p]) return false;
                rest /= 10;
            }
            return rest == 0;
        }

        int countIn(int cut, int p) {
            return cut / TENS[processes - 1 - p] % 10;
        }

        int with(int cut, int p) {
            return cut + TENS[processes - 1 - p];
        }

        boolean isConsistent(int cut) {
            for (int p = 0; p < processes; p++) {
                int last = countIn(cut, p) - 1;
                if (last >= 0 && !hasPastIn(cut, p * MOST_OF_ONE + last)) return false;
            }
            return true;
        }

        private boolean hasPastIn(int cut, int row) {
            for (int q = 0; q < processes; q++) {
                if (vectors[row * MOST_PROCESSES + q] > countIn(cut, q)) return false;
            }
            return true;
        }

        boolean canFollow(int cut, int p) {
            int next = countIn(cut, p);
            if (next >= sizes[p]) return false;
            int row = p * MOST_OF_ONE + next;
            return kinds[row] != RECEIVE || partners[row] < countIn(cut, details[row]);
        }

        int followers(int cut) {
            int set = 0;
            for (int p = 0; p < processes; p++) {
                if (canFollow(cut, p)) set |= 1 << p;
            }
            return set;
        }

        int valueIn(int cut, int p) {
            return values[p * MOST_PREFIXES + cut / TENS[processes - 1 - p] % 10];
        }

        /** No receive of a consistent cut lacks its partner there, so the sends need only be counted. */
        int underWay(int cut) {
            int sum = 0;
            for (int p = 0; p < processes; p++) sum += surpluses[p * MOST_PREFIXES + countIn(cut, p)];
            return sum;
        }

        int underWayBetween(int cut, int from, int to) {
            int found = 0;
            for (int s = 0; s < countIn(cut, from); s++) {
                int row = from * MOST_OF_ONE + s;
                boolean sent = kinds[row] == SEND && details[row] == to;
                if (sent && (partners[row] == NONE || partners[row] >= countIn(cut, to))) found++;
            }
            return found;
        }

        int combine(int one, int other, boolean greater) {
            int cut = 0;
            for (int p = 0; p < processes; p++) {
                int a = countIn(one, p);
                int b = countIn(other, p);
                cut = cut * 10 + (greater ? Math.max(a, b) : Math.min(a, b));
            }
            return cut;
        }
    }

    /**
     * All consistent cuts of a computation. Each cut, consistent or not, has a place in the rows;
     * the places ascend with the numbers, so that a cut comes behind all cuts that it contains.
     */
    private static final class Lattice {
        /** Building is dear, so what has been built stands until the events change. */
        boolean stands;
        int size;
        int places;
        private int top;
        final int[] starts = new int[MOST_EVENTS + 2];
        final int[] strides = new int[MOST_PROCESSES];
        final int[] numbers = new int[MOST_CUTS];
        final int[] sorted = new int[MOST_CUTS];
        private final int[] pathsTo = new int[MOST_CUTS];
        private final int[] pathsFrom = new int[MOST_CUTS];

        void build(Events events) {
            if (stands) return;
            stands = true;
            top = events.total;
            numberPlaces(events);
            countPathsTo(events);
            countPathsFrom(events);
            sortByLevel();
        }

        private void numberPlaces(Events events) {
            numbers[0] = 0;
            places = 1;
            for (int p = events.processes - 1; p >= 0; p--) {
                strides[p] = places;
                for (int i = places; i < strides[p] * (events.sizes[p] + 1); i++) {
                    numbers[i] = events.with(numbers[i - strides[p]], p);
                }
                places *= events.sizes[p] + 1;
            }
        }

        /** Paths lead to the consistent cuts and to no others, so these keep 0. */
        private void countPathsTo(Events events) {
            Arrays.fill(pathsTo, 0);
            pathsTo[0] = 1;
            for (int i = 0; i < places; i++) {
                for (int p = 0; p < events.processes && pathsTo[i] > 0; p++) {
                    if (events.canFollow(numbers[i], p)) pathsTo[i + strides[p]] += pathsTo[i];
                }
            }
        }

        private void countPathsFrom(Events events) {
            Arrays.fill(pathsFrom, 0);
            pathsFrom[places - 1] = 1;
            for (int i = places - 1; i >= 0; i--) {
                for (int p = 0; p < events.processes && pathsTo[i] > 0; p++) {
                    if (events.canFollow(numbers[i], p)) pathsFrom[i] += pathsFrom[i + strides[p]];
                }
            }
        }

        /** First each start is the end of its level; filling from there leaves it at the start. */
        private void sortByLevel() {
            Arrays.fill(starts, 0);
            for (int i = 0; i < places; i++) {
                if (pathsTo[i] > 0) starts[levelOf(numbers[i])]++;
            }
            for (int level = 1; level < starts.length; level++) starts[level] += starts[level - 1];
            size = starts[MOST_EVENTS];
            for (int i = places - 1; i >= 0; i--) {
                if (pathsTo[i] > 0) {
                    int level = levelOf(numbers[i]);
                    starts[level]--;
                    sorted[starts[level]] = i;
                }
            }
        }

        int property(int what) {
            switch (what) {
                case 0: return size;
                case 1: return sizeOfLevel(widestLevel());
                case 2: return widestLevel();
                case 3: return pathsFrom[0];
                default: return top;
            }
        }

        int sizeOfLevel(int level) {
            return starts[level + 1] - starts[level];
        }

        private int widestLevel() {
            int widest = 0;
            for (int level = 1; level <= top; level++) {
                if (sizeOfLevel(level) > sizeOfLevel(widest)) widest = level;
            }
            return widest;
        }

        /** The cut with this rank when all are ordered by levels, and in a level by numbers. */
        int inOrder(int rank) {
            return numbers[sorted[rank]];
        }

        int pathsThrough(Events events, int cut) {
            int place = 0;
            for (int p = 0; p < events.processes; p++) place += strides[p] * events.countIn(cut, p);
            return pathsTo[place] * pathsFrom[place];
        }
    }

    /** The predicate. */
    private static final class Predicate {
        int kind;
        int v;
        final int[] allowed = new int[MOST_PROCESSES];

        void allowAll() {
            Arrays.fill(allowed, ALL_VALUES);
        }

        boolean allows(int p, int value) {
            return (allowed[p] >> value & 1) != 0;
        }

        boolean holdsIn(Events events, int cut) {
            switch (kind) {
                case CONJUNCTION: return allowsAll(events, cut);
                case SUM: return sumIn(events, cut) == v;
                case QUIET: return events.underWay(cut) == 0;
                default: return spreadIn(events, cut) >= v;
            }
        }

        private boolean allowsAll(Events events, int cut) {
            for (int p = 0; p < events.processes; p++) {
                if (!allows(p, events.valueIn(cut, p))) return false;
            }
            return true;
        }

        private static int sumIn(Events events, int cut) {
            int sum = 0;
            for (int p = 0; p < events.processes; p++) sum += events.valueIn(cut, p);
            return sum;
        }

        private static int spreadIn(Events events, int cut) {
            int smallest = GREATEST_VALUE;
            int greatest = 0;
            for (int p = 0; p < events.processes; p++) {
                int value = events.valueIn(cut, p);
                smallest = Math.min(smallest, value);
                greatest = Math.max(greatest, value);
            }
            return greatest - smallest;
        }
    }

    /** Where a predicate holds in a lattice, and a path that avoids it. */
    private static final class Search {
        boolean stands;
        /** 0 also when there is no avoiding path. */
        int steps;
        final int[] path = new int[MOST_EVENTS];
        private int holding;
        private int lowest;
        /** By the places of the lattice: from the cut to the last one, a path goes round the predicate. */
        private final boolean[] avoidable = new boolean[MOST_CUTS];

        void build(Events events, Lattice cuts, Predicate predicate) {
            if (stands) return;
            stands = true;
            holding = 0;
            lowest = NONE;
            for (int rank = cuts.size - 1; rank >= 0; rank--) {
                int place = cuts.sorted[rank];
                boolean holds = predicate.holdsIn(events, cuts.numbers[place]);
                if (holds) {
                    holding++;
                    lowest = cuts.numbers[place];
                }
                boolean last = place == cuts.places - 1;
                avoidable[place] = !holds && (last || avoidingStep(events, cuts, place) != NONE);
            }
            findPath(events, cuts);
        }

        private int avoidingStep(Events events, Lattice cuts, int place) {
            for (int p = 0; p < events.processes; p++) {
                boolean can = events.canFollow(cuts.numbers[place], p);
                if (can && avoidable[place + cuts.strides[p]]) return p;
            }
            return NONE;
        }

        private void findPath(Events events, Lattice cuts) {
            steps = 0;
            if (!avoidable[0]) return;
            int place = 0;
            for (int step = 0; step < events.total; step++) {
                int p = avoidingStep(events, cuts, place);
                if (p == NONE) return;
                path[step] = p;
                steps++;
                place += cuts.strides[p];
            }
        }

        int property(int what) {
            switch (what) {
                case 0: return holding > 0 ? 1 : 0;
                case 1: return holding;
                case 2: return lowest;
                default: return avoidable[0] ? 0 : 1;
            }
        }

        /** If a conjunction holds in two cuts, it holds in their meet: the lowest cut is the least one. */
        int leastCut() {
            return lowest;
        }
    }

    /** The intervals of all processes. */
    private static final class Intervals {
        final int[] counts = new int[MOST_PROCESSES];
        private final int[] firsts = new int[MOST_PROCESSES * MOST_INTERVALS];
        private final int[] lasts = new int[MOST_PROCESSES * MOST_INTERVALS];
        private final int[] chosen = new int[MOST_PROCESSES];

        void find(Events events, Predicate predicate) {
            Arrays.fill(counts, 0);
            for (int p = 0; p < events.processes; p++) {
                boolean inside = false;
                for (int prefix = 0; prefix <= events.sizes[p]; prefix++) {
                    boolean allowed = predicate.allows(p, events.valueAfter(p, prefix));
                    if (allowed && !inside) begin(p, prefix);
                    if (allowed) lasts[p * MOST_INTERVALS + counts[p] - 1] = prefix;
                    inside = allowed;
                }
            }
        }

        private void begin(int p, int prefix) {
            firsts[p * MOST_INTERVALS + counts[p]] = prefix;
            counts[p]++;
        }

        int firstOf(int p, int interval) {
            return firsts[p * MOST_INTERVALS + interval];
        }

        int lastOf(int p, int interval) {
            return lasts[p * MOST_INTERVALS + interval];
        }

        boolean areStrong(Events events) {
            int choices = 1;
            for (int p = 0; p < events.processes; p++) choices *= counts[p];
            Arrays.fill(chosen, 0);
            for (int choice = 0; choice < choices; choice++) {
                if (isStrongChoice(events)) return true;
                chooseNext(events.processes);
            }
            return false;
        }

        private void chooseNext(int processes) {
            for (int p = 0; p < processes; p++) {
                chosen[p]++;
                if (chosen[p] < counts[p]) return;
                chosen[p] = 0;
            }
        }

        private boolean isStrongChoice(Events events) {
            for (int p = 0; p < events.processes; p++) {
                for (int q = 0; q < events.processes; q++) {
                    if (p != q && !beginsBeforeEnd(events, p, q)) return false;
                }
            }
            return true;
        }

        private boolean beginsBeforeEnd(Events events, int p, int q) {
            int first = firstOf(p, chosen[p]);
            int last = lastOf(q, chosen[q]);
            if (first == 0 || last == events.sizes[q]) return true;
            return events.isBefore(p, first - 1, q, last);
        }
    }

    /** The computation without the local events that do not matter. */
    private static final class Lean {
        private final Events kept = new Events();
        private final Lattice cuts = new Lattice();
        private final Search search = new Search();

        void forget() {
            cuts.stands = false;
            search.stands = false;
        }

        void build(Events events, Predicate predicate) {
            if (search.stands) return;
            kept.begin(events.processes);
            for (int p = 0; p < events.processes; p++) {
                for (int e = 0; e < events.sizes[p]; e++) {
                    if (matters(events, predicate, p, e)) {
                        kept.append(p, events.kindOf(p, e), events.detailOf(p, e));
                    }
                }
            }
            kept.link();
            cuts.build(kept);
            search.build(kept, cuts, predicate);
        }

        private static boolean matters(Events events, Predicate predicate, int p, int e) {
            if (events.kindOf(p, e) != LOCAL) return true;
            boolean before = predicate.allows(p, events.valueAfter(p, e));
            return before != predicate.allows(p, events.valueAfter(p, e + 1));
        }

        int property(int what) {
            switch (what) {
                case 0: return kept.total;
                case 1: return cuts.size;
                case 2: return search.property(0);
                default: return search.property(3);
            }
        }
    }

    /** An order in which all events come. */
    private static final class Play {
        private static final long MULTIPLIER = 1103515245, INCREMENT = 12345, MODULUS = 2147483648L;

        /** NONE as long as there is no play. */
        int size = NONE;
        final int[] steps = new int[MOST_EVENTS];

        void perform(Events events, int seed) {
            long s = seed;
            int come = 0;
            size = 0;
            for (int step = 0; step < events.total; step++) {
                if (seed != 0) s = (MULTIPLIER * s + INCREMENT) % MODULUS;
                int p = choose(events.followers(come), s);
                if (p == NONE) return;
                steps[step] = p;
                size++;
                come = events.with(come, p);
            }
        }

        /** Seed 0 leaves s at 0, which chooses the process with the lowest number. */
        private static int choose(int set, long s) {
            int number = Integer.bitCount(set);
            if (number == 0) return NONE;
            int left = (int) (s / 65536 % number);
            for (int p = 0; p < MOST_PROCESSES; p++) {
                boolean member = (set >> p & 1) != 0;
                if (member && left == 0) return p;
                if (member) left--;
            }
            return NONE;
        }
    }

    /** A snapshot with markers. What goes from p to q stands in its rows at p * MOST_PROCESSES + q. */
    private static final class Snapshot {
        boolean taken;
        int cut;
        private int forced;
        private int lastNoted;
        private int come;
        private final int[] sent = new int[MOST_CHANNELS];
        private final int[] received = new int[MOST_CHANNELS];
        /** How many messages are before the marker; NONE if there is no marker on its way. */
        private final int[] markers = new int[MOST_CHANNELS];
        private final int[] noted = new int[MOST_PROCESSES];

        void take(Events events, Play turns, int process, int t) {
            clear();
            for (int step = 0; step < t; step++) pass(events, turns.steps[step]);
            note(events, process);
            deliver(events);
            for (int step = t; step < turns.size; step++) {
                pass(events, turns.steps[step]);
                deliver(events);
            }
            forceLeft(events);
            cut = 0;
            for (int p = 0; p < events.processes; p++) cut = cut * 10 + noted[p];
            taken = true;
        }

        private void clear() {
            come = 0;
            forced = 0;
            lastNoted = 0;
            Arrays.fill(sent, 0);
            Arrays.fill(received, 0);
            Arrays.fill(markers, NONE);
            Arrays.fill(noted, NONE);
        }

        private void pass(Events events, int p) {
            int e = events.countIn(come, p);
            int kind = events.kindOf(p, e);
            int other = events.detailOf(p, e);
            if (kind == SEND) sent[p * MOST_PROCESSES + other]++;
            if (kind == RECEIVE) received[other * MOST_PROCESSES + p]++;
            come = events.with(come, p);
        }

        private void note(Events events, int p) {
            if (noted[p] != NONE) return;
            noted[p] = events.countIn(come, p);
            lastNoted = levelOf(come);
            for (int q = 0; q < events.processes; q++) {
                int channel = p * MOST_PROCESSES + q;
                if (q != p) markers[channel] = sent[channel];
            }
        }

        private void deliver(Events events) {
            for (int round = 0; round < MOST_CHANNELS; round++) {
                int channel = firstMarker(false);
                if (channel == NONE) return;
                arrive(events, channel);
            }
        }

        private void forceLeft(Events events) {
            for (int round = 0; round < MOST_CHANNELS; round++) {
                int channel = firstMarker(true);
                if (channel == NONE) return;
                forced++;
                arrive(events, channel);
                deliver(events);
            }
        }

        private int firstMarker(boolean any) {
            for (int channel = 0; channel < MOST_CHANNELS; channel++) {
                if (markers[channel] != NONE && (any || received[channel] >= markers[channel])) return channel;
            }
            return NONE;
        }

        private void arrive(Events events, int channel) {
            markers[channel] = NONE;
            note(events, channel % MOST_PROCESSES);
        }

        int property(int what) {
            if (what == 0) return cut;
            return what == 1 ? forced : lastNoted;
        }
    }
}
