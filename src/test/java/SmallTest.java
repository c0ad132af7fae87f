/** All promises: every short text and every small computation, each answer beside that of the oracle. */
public final class SmallTest {
    private static final String SIGNS = "0149!?; ";
    private static final int MOST_SIGNS = 5;
    /** How many events a computation here has at most, by the number of its processes. */
    private static final int[] MOST_EVENTS = {0, 0, 5, 4, 2};
    private static final int[][] MASKS = {{1023, 1023, 1023, 1023}, {2, 2, 2, 2}, {1, 3, 5, 1}, {6, 4, 1, 3},
        {5, 1, 2, 0}};
    private static final int SEEDS = 3;

    private static int computations = 0;

    private SmallTest() {
    }

    public static void main(String[] args) {
        texts("");
        for (int n = 2; n <= 4; n++) {
            for (int events = 0; events <= MOST_EVENTS[n]; events++) computations("", 0, n, events);
        }
        System.out.println(computations + " computations");
        Due.end();
    }

    private static void texts(String text) {
        RunCuts x = Due.typed(text);
        Oracle o = typed(text);
        Due.due("fault() of '" + text + "'", x.fault(), o.fault());
        Due.due("run() of '" + text + "'", x.run(), o.run());
        Due.due("count(5) after run() of '" + text + "'", x.count(5), o.count(5));
        if (text.length() == MOST_SIGNS) return;
        for (char sign : SIGNS.toCharArray()) texts(text + sign);
    }

    /** Puts all ways to go on behind the text, which is now in process p: left events, and n processes in all. */
    private static void computations(String text, int p, int n, int left) {
        if (left == 0 && p == n - 1) look(text);
        if (p < n - 1) computations(text + ";", p + 1, n, left);
        if (left == 0) return;
        for (int v = 1; v <= 2; v++) computations(text + v, p, n, left - 1);
        for (int q = 0; q < n; q++) {
            if (q == p) continue;
            computations(text + "!" + q, p, n, left - 1);
            computations(text + "?" + q, p, n, left - 1);
        }
    }

    private static void look(String text) {
        RunCuts x = Due.typed(text);
        Oracle o = typed(text);
        int processes = o.run();
        Due.due("run() of " + text, x.run(), processes);
        if (processes < 2) return;
        computations++;
        for (int[] masks : MASKS) {
            for (int p = 0; p < processes; p++) {
                Due.due("allow() in " + text, x.allow(p, masks[p]), o.allow(p, masks[p]));
            }
            Due.due("digest() of " + text, x.digest(), o.digest());
        }
        for (int kind = 1; kind <= 3; kind++) {
            Due.due("wish() in " + text, x.wish(kind, kind), o.wish(kind, kind));
            Due.due("digest() of " + text + " with kind " + kind, x.digest(), o.digest());
        }
        for (int seed = 0; seed < SEEDS; seed++) shots(x, o, text, seed);
    }

    private static void shots(RunCuts x, Oracle o, String text, int seed) {
        int size = o.play(seed);
        Due.due("play(" + seed + ") of " + text, x.play(seed), size);
        for (int p = 0; p < o.count(0); p++) {
            for (int t = 0; t <= size; t++) {
                String call = "shot(" + p + ", " + t + ") in play(" + seed + ") of " + text;
                Due.due(call, x.shot(p, t), o.shot(p, t));
                for (int what = 0; what <= 2; what++) Due.due("shots() after " + call, x.shots(what), o.shots(what));
            }
        }
        Due.due("digest() after play(" + seed + ") of " + text, x.digest(), o.digest());
    }

    private static Oracle typed(String text) {
        Oracle o = new Oracle();
        for (char sign : text.toCharArray()) o.letter(sign);
        return o;
    }
}
