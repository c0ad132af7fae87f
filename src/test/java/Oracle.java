import java.math.BigInteger;
import java.util.ArrayDeque;
import java.util.ArrayList;
import java.util.Arrays;
import java.util.Comparator;
import java.util.Deque;
import java.util.HashMap;
import java.util.HashSet;
import java.util.List;
import java.util.Map;
import java.util.Set;
import java.util.regex.Matcher;
import java.util.regex.Pattern;

/** A second program for the same document: slow, and by other ways than RunCuts wherever there is another. */
final class Oracle {
    static final int NONE = -1, UNKNOWN = -101, OUTSIDE = -102, STATE = -103, FULL = -104;
    private static final Pattern BEGINNING = Pattern.compile("([0-9]|[!?][0-3])*(;([0-9]|[!?][0-3])*){0,3}[!?]?");
    private static final Pattern WHOLE = Pattern.compile("([0-9]|[!?][0-3])*(;([0-9]|[!?][0-3])*){1,3}");
    private static final Pattern EVENT = Pattern.compile("[0-9]|[!?][0-3]?");

    private String page = "";
    private Facts facts = null;
    private int kind = 0;
    private int v = 0;
    private int[] allowed = {0, 0, 0, 0};
    private List<Integer> play = null;
    private int[] shot = null;
    private int reads = 0;
    private int shotsTaken = 0;

    private static final class Event {
        final int kind;
        final int detail;

        Event(int kind, int detail) {
            this.kind = kind;
            this.detail = detail;
        }
    }

    /** What follows from a list of events for each process. */
    private static final class Facts {
        final List<List<Event>> run;
        final int n;
        final int total;
        final Map<String, Integer> ids = new HashMap<>();
        final boolean[][] before;
        final Map<String, Integer> partners = new HashMap<>();
        boolean valid = true;
        private List<int[]> cuts = null;
        private final Map<Integer, Integer> pathsTo = new HashMap<>();
        private final Map<Integer, Integer> pathsFrom = new HashMap<>();

        Facts(List<List<Event>> run) {
            this.run = run;
            n = run.size();
            for (int p = 0; p < n; p++) {
                for (int e = 0; e < run.get(p).size(); e++) ids.put(p + "." + e, ids.size());
            }
            total = ids.size();
            before = new boolean[total][total];
            for (int p = 0; p < n; p++) {
                for (int e = 0; e < run.get(p).size(); e++) {
                    if (e > 0) before[id(p, e - 1)][id(p, e)] = true;
                    Integer partner = findPartner(p, e);
                    if (run.get(p).get(e).kind == 2) {
                        if (partner == null) valid = false;
                        else before[id(run.get(p).get(e).detail, partner)][id(p, e)] = true;
                    }
                    if (partner != null) partners.put(p + "." + e, partner);
                }
            }
            for (int k = 0; k < total; k++) {
                for (int i = 0; i < total; i++) {
                    for (int j = 0; j < total; j++) before[i][j] |= before[i][k] && before[k][j];
                }
            }
            for (int i = 0; i < total; i++) valid &= !before[i][i];
        }

        int id(int p, int e) {
            return ids.get(p + "." + e);
        }

        private Integer findPartner(int p, int e) {
            Event event = run.get(p).get(e);
            if (event.kind == 0 || event.detail >= n) return null;
            int k = positions(p, event.kind, event.detail).indexOf(e);
            List<Integer> others = positions(event.detail, 3 - event.kind, p);
            return k < others.size() ? others.get(k) : null;
        }

        private List<Integer> positions(int p, int kind, int detail) {
            List<Integer> found = new ArrayList<>();
            for (int e = 0; e < run.get(p).size(); e++) {
                Event event = run.get(p).get(e);
                if (event.kind == kind && event.detail == detail) found.add(e);
            }
            return found;
        }

        boolean exists(int p, int e) {
            return p >= 0 && p < n && e >= 0 && e < run.get(p).size();
        }

        int vector(int p, int e, int q) {
            int number = 0;
            for (int i = 0; i < run.get(q).size(); i++) {
                if (before[id(q, i)][id(p, e)] || (q == p && i == e)) number++;
            }
            return number;
        }

        int[] cutOf(int number) {
            String text = String.valueOf(number);
            if (number < 0 || text.length() > n) return null;
            text = "0".repeat(n - text.length()) + text;
            int[] cut = new int[n];
            for (int p = 0; p < n; p++) {
                cut[p] = text.charAt(p) - '0';
                if (cut[p] > run.get(p).size()) return null;
            }
            return cut;
        }

        int numberOf(int[] cut) {
            StringBuilder text = new StringBuilder();
            for (int c : cut) text.append(c);
            return Integer.parseInt(text.toString());
        }

        boolean consistent(int[] cut) {
            for (int p = 0; p < n; p++) {
                for (int e = 0; e < cut[p]; e++) {
                    Event event = run.get(p).get(e);
                    if (event.kind == 2 && partners.get(p + "." + e) >= cut[event.detail]) return false;
                }
            }
            return true;
        }

        int[] moved(int[] cut, int p, int by) {
            int[] next = cut.clone();
            next[p] += by;
            return next[p] < 0 || next[p] > run.get(p).size() || !consistent(next) ? null : next;
        }

        int valueOf(int[] cut, int p) {
            for (int e = cut[p] - 1; e >= 0; e--) {
                if (run.get(p).get(e).kind == 0) return run.get(p).get(e).detail;
            }
            return 0;
        }

        int under(int[] cut, int from, int to) {
            int number = 0;
            for (int e = 0; e < cut[from]; e++) {
                Event event = run.get(from).get(e);
                Integer partner = partners.get(from + "." + e);
                if (event.kind == 1 && event.detail == to && (partner == null || partner >= cut[to])) number++;
            }
            return number;
        }

        int underAll(int[] cut) {
            int number = 0;
            for (int p = 0; p < n; p++) {
                for (int q = 0; q < n; q++) number += p == q ? 0 : under(cut, p, q);
            }
            return number;
        }

        int[] bottom() {
            return new int[n];
        }

        int[] top() {
            int[] cut = new int[n];
            for (int p = 0; p < n; p++) cut[p] = run.get(p).size();
            return cut;
        }

        int paths(int[] cut, boolean to) {
            if (Arrays.equals(cut, to ? bottom() : top())) return 1;
            Map<Integer, Integer> known = to ? pathsTo : pathsFrom;
            Integer number = known.get(numberOf(cut));
            if (number != null) return number;
            int sum = 0;
            for (int p = 0; p < n; p++) {
                int[] next = moved(cut, p, to ? -1 : 1);
                if (next != null) sum += paths(next, to);
            }
            known.put(numberOf(cut), sum);
            return sum;
        }

        List<int[]> cuts() {
            if (cuts != null) return cuts;
            cuts = new ArrayList<>();
            for (int number = 0; number < Math.pow(10, n); number++) {
                int[] cut = cutOf(number);
                if (cut != null && consistent(cut)) cuts.add(cut);
            }
            cuts.sort(Comparator.comparingInt((int[] cut) -> level(cut)).thenComparingInt(this::numberOf));
            return cuts;
        }

        List<int[]> cutsOf(int level) {
            List<int[]> found = new ArrayList<>();
            for (int[] cut : cuts()) {
                if (level(cut) == level) found.add(cut);
            }
            return found;
        }

        static int level(int[] cut) {
            return Arrays.stream(cut).sum();
        }
    }

    private boolean holds(Facts of, int[] cut) {
        int sum = 0;
        int least = 10;
        int most = -1;
        boolean all = true;
        for (int p = 0; p < of.n; p++) {
            int value = of.valueOf(cut, p);
            sum += value;
            least = Math.min(least, value);
            most = Math.max(most, value);
            all &= BigInteger.valueOf(allowed[p]).testBit(value);
        }
        return kind == 0 ? all : kind == 1 ? sum == v : kind == 2 ? of.underAll(cut) == 0 : most - least >= v;
    }

    private List<int[]> holding(Facts of) {
        List<int[]> found = new ArrayList<>();
        for (int[] cut : of.cuts()) {
            if (holds(of, cut)) found.add(cut);
        }
        return found;
    }

    /** The avoiding path, or null: of all paths in lexicographic order the first that goes through. */
    private List<Integer> avoiding(Facts of) {
        List<Integer> path = new ArrayList<>();
        return goRound(of, of.bottom(), path, new HashSet<>()) ? path : null;
    }

    private boolean goRound(Facts of, int[] cut, List<Integer> path, Set<Integer> dead) {
        if (holds(of, cut) || dead.contains(of.numberOf(cut))) return false;
        if (Arrays.equals(cut, of.top())) return true;
        for (int p = 0; p < of.n; p++) {
            int[] next = of.moved(cut, p, 1);
            if (next == null) continue;
            path.add(p);
            if (goRound(of, next, path, dead)) return true;
            path.remove(path.size() - 1);
        }
        dead.add(of.numberOf(cut));
        return false;
    }

    /** Floods the cuts in which the predicate does not hold, level by level. */
    private boolean definitely(Facts of) {
        Set<Integer> reached = new HashSet<>();
        if (!holds(of, of.bottom())) reached.add(0);
        for (int level = 0; level < of.total; level++) {
            Set<Integer> next = new HashSet<>();
            for (int number : reached) {
                for (int p = 0; p < of.n; p++) {
                    int[] cut = of.moved(of.cutOf(number), p, 1);
                    if (cut != null && !holds(of, cut)) next.add(of.numberOf(cut));
                }
            }
            reached = next;
        }
        return reached.isEmpty();
    }

    private List<int[]> intervals(Facts of, int p) {
        List<int[]> found = new ArrayList<>();
        int size = of.run.get(p).size();
        for (int f = 0; f <= size; f++) {
            for (int t = f; t <= size; t++) {
                boolean all = true;
                for (int x = f; x <= t; x++) all &= allowsAfter(of, p, x);
                boolean wider = (f > 0 && allowsAfter(of, p, f - 1)) || (t < size && allowsAfter(of, p, t + 1));
                if (all && !wider) found.add(new int[] {f, t});
            }
        }
        return found;
    }

    private boolean allowsAfter(Facts of, int p, int events) {
        int[] cut = new int[of.n];
        cut[p] = events;
        return (allowed[p] & (1 << of.valueOf(cut, p))) != 0;
    }

    private boolean choose(Facts of, List<int[]> chosen) {
        if (chosen.size() == of.n) {
            for (int i = 0; i < of.n; i++) {
                for (int j = 0; j < of.n; j++) {
                    int f = chosen.get(i)[0];
                    int t = chosen.get(j)[1];
                    boolean both = i != j && f > 0 && t < of.run.get(j).size();
                    if (both && !of.before[of.id(i, f - 1)][of.id(j, t)]) return false;
                }
            }
            return true;
        }
        for (int[] interval : intervals(of, chosen.size())) {
            List<int[]> more = new ArrayList<>(chosen);
            more.add(interval);
            if (choose(of, more)) return true;
        }
        return false;
    }

    private Facts lean() {
        List<List<Event>> kept = new ArrayList<>();
        for (int p = 0; p < facts.n; p++) {
            kept.add(new ArrayList<>());
            for (int e = 0; e < facts.run.get(p).size(); e++) {
                Event event = facts.run.get(p).get(e);
                boolean same = allowsAfter(facts, p, e) == allowsAfter(facts, p, e + 1);
                if (event.kind != 0 || !same) kept.get(p).add(event);
            }
        }
        return new Facts(kept);
    }

    int letter(int code) {
        if (code < 32 || code > 126) return OUTSIDE;
        if (page.length() == 36) return FULL;
        page += (char) code;
        return page.length();
    }

    int blank() {
        int had = page.length();
        page = "";
        return had;
    }

    int fault() {
        for (int end = 1; end <= page.length(); end++) {
            if (!isBeginning(page.substring(0, end))) return end - 1;
        }
        return page.length();
    }

    private static boolean isBeginning(String text) {
        return BEGINNING.matcher(text).matches() && fits(text);
    }

    private static boolean fits(String text) {
        int all = 0;
        for (String part : text.split(";", -1)) {
            int number = 0;
            Matcher matcher = EVENT.matcher(part);
            while (matcher.find()) number++;
            if (number > 9) return false;
            all += number;
        }
        return all <= 16;
    }

    int run() {
        if (!WHOLE.matcher(page).matches() || !fits(page)) return STATE;
        String[] parts = page.split(";", -1);
        List<List<Event>> read = new ArrayList<>();
        for (int p = 0; p < parts.length; p++) {
            List<Event> events = new ArrayList<>();
            Matcher matcher = EVENT.matcher(parts[p]);
            while (matcher.find()) {
                String text = matcher.group();
                int digit = text.charAt(text.length() - 1) - '0';
                if (text.length() == 2 && (digit == p || digit >= parts.length)) return STATE;
                events.add(new Event(text.length() == 1 ? 0 : text.charAt(0) == '!' ? 1 : 2, digit));
            }
            read.add(events);
        }
        Facts candidate = new Facts(read);
        if (!candidate.valid) return STATE;
        facts = candidate;
        page = "";
        play = null;
        shot = null;
        allowed = new int[] {1023, 1023, 1023, 1023};
        reads++;
        return facts.n;
    }

    private boolean isProcess(int p) {
        return facts != null && p >= 0 && p < facts.n;
    }

    private boolean isFull(int p) {
        return facts.run.get(p).size() == 9 || facts.total == 16;
    }

    private int change(int p, Event added) {
        List<List<Event>> next = new ArrayList<>();
        for (List<Event> events : facts.run) next.add(new ArrayList<>(events));
        if (added != null) next.get(p).add(added);
        else next.get(p).remove(next.get(p).size() - 1);
        Facts changed = new Facts(next);
        if (!changed.valid) throw new IllegalStateException("the oracle has left the document");
        facts = changed;
        play = null;
        shot = null;
        return next.get(p).size();
    }

    int local(int process, int value) {
        if (!isProcess(process)) return UNKNOWN;
        if (value < 0 || value > 9) return OUTSIDE;
        return isFull(process) ? FULL : change(process, new Event(0, value));
    }

    int send(int process, int to) {
        if (!isProcess(process) || !isProcess(to) || process == to) return UNKNOWN;
        return isFull(process) ? FULL : change(process, new Event(1, to));
    }

    int receive(int process, int from) {
        if (!isProcess(process) || !isProcess(from) || process == from) return UNKNOWN;
        int sent = facts.positions(from, 1, process).size();
        if (facts.positions(process, 2, from).size() >= sent) return STATE;
        return isFull(process) ? FULL : change(process, new Event(2, from));
    }

    int back(int process) {
        if (!isProcess(process)) return UNKNOWN;
        int last = facts.run.get(process).size() - 1;
        if (last < 0) return STATE;
        boolean sent = facts.run.get(process).get(last).kind == 1;
        if (sent && facts.partners.get(process + "." + last) != null) return STATE;
        return change(process, null);
    }

    int event(int process, int event, int what) {
        if (facts == null || !facts.exists(process, event)) return UNKNOWN;
        if (what < 0 || what > 6) return OUTSIDE;
        Event found = facts.run.get(process).get(event);
        if (what == 0) return found.kind;
        if (what == 1) return found.detail;
        if (what == 2) return facts.partners.getOrDefault(process + "." + event, NONE);
        return what - 3 < facts.n ? facts.vector(process, event, what - 3) : NONE;
    }

    int order(int p, int one, int q, int other) {
        if (facts == null || !facts.exists(p, one) || !facts.exists(q, other)) return UNKNOWN;
        int first = facts.id(p, one);
        int second = facts.id(q, other);
        if (first == second) return 2;
        return facts.before[first][second] ? 1 : facts.before[second][first] ? -1 : 0;
    }

    int cut(int number, int what) {
        if (facts == null) return STATE;
        int[] cut = facts.cutOf(number);
        if (cut == null) return UNKNOWN;
        if (what < 0 || what > 5) return OUTSIDE;
        boolean consistent = facts.consistent(cut);
        if (what == 0) return consistent ? 1 : 0;
        if (what == 1) return Facts.level(cut);
        if (!consistent) return STATE;
        if (what == 2) return holds(facts, cut) ? 1 : 0;
        if (what == 4) return facts.underAll(cut);
        if (what == 5) return facts.paths(cut, true) * facts.paths(cut, false);
        int set = 0;
        for (int p = 0; p < facts.n; p++) {
            if (facts.moved(cut, p, 1) != null) set += 1 << p;
        }
        return set;
    }

    int value(int number, int process) {
        if (facts == null) return STATE;
        int[] cut = facts.cutOf(number);
        return cut == null || !isProcess(process) ? UNKNOWN : facts.valueOf(cut, process);
    }

    int under(int number, int from, int to) {
        if (facts == null) return STATE;
        int[] cut = facts.cutOf(number);
        if (cut == null || !isProcess(from) || !isProcess(to) || from == to) return UNKNOWN;
        return facts.consistent(cut) ? facts.under(cut, from, to) : STATE;
    }

    int meet(int one, int other) {
        return combine(one, other, -1);
    }

    int join(int one, int other) {
        return combine(one, other, 1);
    }

    private int combine(int one, int other, int sign) {
        if (facts == null) return STATE;
        int[] a = facts.cutOf(one);
        int[] b = facts.cutOf(other);
        if (a == null || b == null) return UNKNOWN;
        if (!facts.consistent(a) || !facts.consistent(b)) return STATE;
        for (int p = 0; p < facts.n; p++) a[p] = sign * Math.max(sign * a[p], sign * b[p]);
        if (!facts.consistent(a)) throw new IllegalStateException("not a lattice");
        return facts.numberOf(a);
    }

    int lattice(int what) {
        if (what < 0 || what > 4) return OUTSIDE;
        if (facts == null) return STATE;
        if (what == 0) return facts.cuts().size();
        if (what == 3) return facts.paths(facts.bottom(), false);
        if (what == 4) return facts.total;
        int most = 0;
        int where = 0;
        for (int level = facts.total; level >= 0; level--) {
            int size = facts.cutsOf(level).size();
            if (size >= most) {
                most = size;
                where = level;
            }
        }
        return what == 1 ? most : where;
    }

    int level(int level, int place) {
        if (facts == null) return STATE;
        List<int[]> cuts = facts.cutsOf(level);
        return place < 0 || place >= cuts.size() ? UNKNOWN : facts.numberOf(cuts.get(place));
    }

    int wish(int newKind, int newV) {
        if (newKind < 0 || newKind > 3 || newV < 0 || newV > 36) return OUTSIDE;
        int previous = kind;
        kind = newKind;
        v = newV;
        return previous;
    }

    int allow(int process, int values) {
        if (!isProcess(process)) return UNKNOWN;
        if (values < 0 || values > 1023) return OUTSIDE;
        int previous = allowed[process];
        allowed[process] = values;
        return previous;
    }

    int wished(int what) {
        if (what < 0 || what > 3) return OUTSIDE;
        if (facts == null) return STATE;
        if (what == 3) return definitely(facts) ? 1 : 0;
        List<int[]> found = holding(facts);
        if (what == 0) return found.isEmpty() ? 0 : 1;
        if (what == 1) return found.size();
        return found.isEmpty() ? NONE : facts.numberOf(found.get(0));
    }

    int around(int step) {
        if (facts == null) return STATE;
        List<Integer> path = avoiding(facts);
        return path == null || step < 0 || step >= path.size() ? UNKNOWN : path.get(step);
    }

    int least() {
        if (facts == null || kind != 0) return STATE;
        List<int[]> found = holding(facts);
        if (found.isEmpty()) return NONE;
        for (int[] cut : found) {
            boolean least = true;
            for (int[] other : found) {
                for (int p = 0; p < facts.n; p++) least &= cut[p] <= other[p];
            }
            if (least) return facts.numberOf(cut);
        }
        throw new IllegalStateException("no least cut");
    }

    int strong() {
        if (facts == null || kind != 0) return STATE;
        return choose(facts, new ArrayList<>()) ? 1 : 0;
    }

    int interval(int process, int interval, int what) {
        if (facts == null || kind != 0) return STATE;
        if (!isProcess(process)) return UNKNOWN;
        List<int[]> found = intervals(facts, process);
        if (interval < 0 || interval >= found.size()) return UNKNOWN;
        return what < 0 || what > 1 ? OUTSIDE : found.get(interval)[what];
    }

    int lean(int what) {
        if (what < 0 || what > 3) return OUTSIDE;
        if (facts == null || kind != 0) return STATE;
        Facts lean = lean();
        if (what == 0) return lean.total;
        if (what == 1) return lean.cuts().size();
        if (what == 2) return holding(lean).isEmpty() ? 0 : 1;
        return definitely(lean) ? 1 : 0;
    }

    int play(int seed) {
        if (facts == null) return STATE;
        if (seed < 0) return OUTSIDE;
        play = new ArrayList<>();
        shot = null;
        BigInteger s = BigInteger.valueOf(seed);
        int[] come = facts.bottom();
        while (play.size() < facts.total) {
            List<Integer> ready = new ArrayList<>();
            for (int p = 0; p < facts.n; p++) {
                if (facts.moved(come, p, 1) != null) ready.add(p);
            }
            int chosen = ready.get(0);
            if (seed != 0) {
                s = s.multiply(BigInteger.valueOf(1103515245)).add(BigInteger.valueOf(12345));
                s = s.mod(BigInteger.TWO.pow(31));
                chosen = ready.get(s.shiftRight(16).mod(BigInteger.valueOf(ready.size())).intValue());
            }
            play.add(chosen);
            come[chosen]++;
        }
        return play.size();
    }

    int played(int step) {
        return play == null || step < 0 || step >= play.size() ? UNKNOWN : play.get(step);
    }

    /** The channels hold messages and markers in one queue each: a marker arrives when it is at the front. */
    private final class Channels {
        final List<List<Deque<Boolean>>> queues = new ArrayList<>();
        final int[] come = new int[facts.n];
        final Integer[] noted = new Integer[facts.n];
        int events = 0;
        int last = 0;
        int forced = 0;

        Channels() {
            for (int p = 0; p < facts.n; p++) {
                queues.add(new ArrayList<>());
                for (int q = 0; q < facts.n; q++) queues.get(p).add(new ArrayDeque<>());
            }
        }

        void pass(int p) {
            Event event = facts.run.get(p).get(come[p]);
            if (event.kind == 1) queues.get(p).get(event.detail).addLast(false);
            if (event.kind == 2 && queues.get(event.detail).get(p).removeFirst()) {
                throw new IllegalStateException("a marker was left before a message");
            }
            come[p]++;
            events++;
        }

        void note(int p) {
            if (noted[p] != null) return;
            noted[p] = come[p];
            last = events;
            for (int q = 0; q < facts.n; q++) {
                if (q != p) queues.get(p).get(q).addLast(true);
            }
        }

        boolean arriveOne(boolean force) {
            for (int p = 0; p < facts.n; p++) {
                for (int q = 0; q < facts.n; q++) {
                    Deque<Boolean> queue = queues.get(p).get(q);
                    boolean can = !queue.isEmpty() && (force ? queue.contains(true) : queue.peekFirst());
                    if (!can) continue;
                    queue.removeFirstOccurrence(true);
                    note(q);
                    return true;
                }
            }
            return false;
        }

        void settle() {
            while (arriveOne(false)) continue;
        }
    }

    int shot(int process, int t) {
        if (play == null) return STATE;
        if (!isProcess(process)) return UNKNOWN;
        if (t < 0 || t > play.size()) return OUTSIDE;
        Channels channels = new Channels();
        for (int step = 0; step <= play.size(); step++) {
            if (step == t) channels.note(process);
            channels.settle();
            if (step < play.size()) channels.pass(play.get(step));
        }
        while (channels.arriveOne(true)) {
            channels.forced++;
            channels.settle();
        }
        int number = 0;
        for (int p = 0; p < facts.n; p++) number = number * 10 + channels.noted[p];
        shot = new int[] {number, channels.forced, channels.last};
        shotsTaken++;
        return number;
    }

    int shots(int what) {
        if (what < 0 || what > 2) return OUTSIDE;
        return shot == null ? STATE : shot[what];
    }

    int count(int what) {
        if (what < 0 || what > 7) return OUTSIDE;
        if (what == 5) return page.length();
        if (what == 6) return reads;
        if (what == 7) return shotsTaken;
        if (facts == null) return 0;
        if (what == 0) return facts.n;
        if (what == 1) return facts.total;
        int number = 0;
        for (List<Event> events : facts.run) {
            for (Event event : events) number += event.kind == what - 2 ? 1 : 0;
        }
        return number;
    }

    long digest() {
        List<Integer> told = new ArrayList<>();
        if (facts != null) tellComputation(told);
        for (int step = 0; play != null && step < play.size(); step++) told.add(played(step));
        for (int what = 0; shot != null && what < 3; what++) told.add(shots(what));
        for (char c : page.toCharArray()) told.add((int) c);
        for (int what = 0; what < 8; what++) told.add(count(what));
        long h = 1549;
        for (int number : told) h = 31 * h + number;
        return h;
    }

    private void tellComputation(List<Integer> told) {
        for (int p = 0; p < facts.n; p++) {
            for (int e = 0; e < facts.run.get(p).size(); e++) {
                for (int what = 0; what < 7; what++) told.add(event(p, e, what));
            }
        }
        for (int what = 0; what < 5; what++) told.add(lattice(what));
        for (int[] cut : facts.cuts()) {
            told.add(facts.numberOf(cut));
            for (int what = 2; what < 6; what++) told.add(cut(facts.numberOf(cut), what));
        }
        for (int what = 0; what < 4; what++) told.add(wished(what));
        List<Integer> path = avoiding(facts);
        if (path != null) told.addAll(path);
        if (kind != 0) return;
        told.add(least());
        told.add(strong());
        for (int p = 0; p < facts.n; p++) {
            for (int[] interval : intervals(facts, p)) {
                told.add(interval[0]);
                told.add(interval[1]);
            }
        }
        for (int what = 0; what < 4; what++) told.add(lean(what));
    }
}
