/** Promises 19 to 26: the predicate. */
public final class WishesTest {
    public static void main(String[] args) {
        wishes();
        allowances();
        sums();
        quiets();
        spreads();
        conjunctions();
        avoidingPaths();
        leastCuts();
        strongOnes();
        intervals();
        leanOnes();
        Due.end();
    }

    private static void wishes() {
        RunCuts x = new RunCuts();
        Due.due("wish(3, 36)", x.wish(3, 36), 0);
        Due.due("wish(4, 0)", x.wish(4, 0), RunCuts.OUTSIDE);
        Due.due("wish(-1, 0)", x.wish(-1, 0), RunCuts.OUTSIDE);
        Due.due("wish(0, 37)", x.wish(0, 37), RunCuts.OUTSIDE);
        Due.due("wish(0, -1)", x.wish(0, -1), RunCuts.OUTSIDE);
        Due.due("wish(1, 0)", x.wish(1, 0), 3);
        Due.due("wish(2, 36)", x.wish(2, 36), 1);
        Due.due("wish(0, 0)", x.wish(0, 0), 2);
        RunCuts y = Due.read("9;9;9;9");
        y.wish(1, 36);
        Due.due("sum of 36", y.wished(2), 1111);
    }

    private static void allowances() {
        RunCuts x = Due.read(";");
        Due.due("allow(2, 0)", x.allow(2, 0), RunCuts.UNKNOWN);
        Due.due("allow(-1, 0)", x.allow(-1, 0), RunCuts.UNKNOWN);
        Due.due("allow(2, 1024)", x.allow(2, 1024), RunCuts.UNKNOWN);
        Due.due("allow(0, 1024)", x.allow(0, 1024), RunCuts.OUTSIDE);
        Due.due("allow(0, -1)", x.allow(0, -1), RunCuts.OUTSIDE);
        Due.due("allow(0, 0)", x.allow(0, 0), 1023);
        Due.due("allow(0, 1023)", x.allow(0, 1023), 0);
        Due.due("allow(1, 512)", x.allow(1, 512), 1023);
        Due.due("allow(1, 1)", x.allow(1, 1), 512);
    }

    private static void wished(RunCuts x, String of, int... wants) {
        for (int what = 0; what < wants.length; what++) {
            Due.due("wished(" + what + ") of " + of, x.wished(what), wants[what]);
        }
    }

    private static void path(RunCuts x, String of, int... wants) {
        for (int step = 0; step < wants.length; step++) {
            Due.due("around(" + step + ") of " + of, x.around(step), wants[step]);
        }
        Due.due("around() behind the end of " + of, x.around(wants.length), RunCuts.UNKNOWN);
        Due.due("around(-1) of " + of, x.around(-1), RunCuts.UNKNOWN);
    }

    private static void sums() {
        RunCuts x = Due.read("12;34");
        x.wish(1, 4);
        wished(x, "sum 4", 1, 2, 2, 0);
        Due.due("wished(4)", x.wished(4), RunCuts.OUTSIDE);
        Due.due("wished(-1)", x.wished(-1), RunCuts.OUTSIDE);
        path(x, "sum 4", 0, 0, 1, 1);
        x.wish(1, 36);
        wished(x, "sum 36", 0, 0, -1, 0);
        path(x, "sum 36", 0, 0, 1, 1);
        x.wish(1, 0);
        wished(x, "sum 0", 1, 1, 0, 1);
        path(x, "sum 0");
        x.wish(1, 6);
        wished(x, "sum 6", 1, 1, 22, 1);
        path(x, "sum 6");
        x.wish(1, 5);
        wished(x, "sum 5", 1, 2, 12, 1);
        path(x, "sum 5");
    }

    private static void quiets() {
        RunCuts x = Due.read("!1;?0");
        x.wish(2, 9);
        wished(x, "quiet", 1, 2, 0, 1);
        RunCuts y = Due.read("!1;");
        y.wish(2, 0);
        wished(y, "a message that stays", 1, 1, 0, 1);
    }

    private static void spreads() {
        RunCuts x = Due.read("12;34");
        x.wish(3, 3);
        wished(x, "spread 3", 1, 3, 1, 0);
        path(x, "spread 3", 0, 0, 1, 1);
        x.wish(3, 2);
        wished(x, "spread 2", 1, 6, 1, 1);
        path(x, "spread 2");
        x.wish(3, 0);
        wished(x, "spread 0", 1, 9, 0, 1);
        x.wish(3, 10);
        wished(x, "spread 10", 0, 0, -1, 0);
        RunCuts y = Due.read("5;5;5");
        y.wish(3, 5);
        Due.due("cut(111, 2)", y.cut(111, 2), 0);
        Due.due("cut(110, 2)", y.cut(110, 2), 1);
        wished(y, "spread 5", 1, 6, 1, 1);
    }

    private static void conjunctions() {
        RunCuts x = Due.read("12;34");
        wished(x, "all allowed", 1, 9, 0, 1);
        path(x, "all allowed");
        x.allow(0, 1 << 1 | 1 << 2);
        x.allow(1, 1 << 4);
        wished(x, "conjunction", 1, 2, 12, 1);
        x.allow(1, 0);
        wished(x, "nothing allowed", 0, 0, -1, 0);
        path(x, "nothing allowed", 0, 0, 1, 1);
        RunCuts y = Due.read("9;");
        y.allow(0, 512);
        wished(y, "nine allowed", 1, 1, 10, 1);
    }

    private static void avoidingPaths() {
        RunCuts x = Due.read("14;35");
        x.wish(1, 4);
        wished(x, "two of a sum", 1, 2, 11, 0);
        path(x, "two of a sum", 1, 1, 0, 0);
        RunCuts y = Due.read(";");
        y.wish(1, 5);
        wished(y, "no events", 0, 0, -1, 0);
        path(y, "no events");
        RunCuts z = Due.read("!1;?0;9");
        z.wish(1, 9);
        wished(z, "the last value", 1, 3, 1, 1);
        z.wish(1, 8);
        path(z, "nowhere", 0, 1, 2);
    }

    private static void leastCuts() {
        RunCuts x = Due.read("1!12;?03!0;7");
        Due.due("least(), all allowed", x.least(), 0);
        x.allow(0, 2);
        x.allow(1, 8);
        Due.due("least()", x.least(), 220);
        x.allow(2, 128);
        Due.due("least()", x.least(), 221);
        x.allow(0, 512);
        Due.due("least(), nowhere", x.least(), RunCuts.NONE);
        x.wish(1, 0);
        Due.due("least(), sum", x.least(), RunCuts.STATE);
        x.wish(2, 0);
        Due.due("least(), quiet", x.least(), RunCuts.STATE);
    }

    private static void strongOnes() {
        RunCuts x = Due.read("12;34");
        Due.due("strong(), all allowed", x.strong(), 1);
        x.allow(0, 2);
        x.allow(1, 8);
        Due.due("strong(), no messages", x.strong(), 0);
        x.allow(0, 6);
        x.allow(1, 1 | 8);
        Due.due("strong(), beginning against end", x.strong(), 0);
        x.allow(1, 1 | 8 | 16);
        Due.due("strong(), no end", x.strong(), 1);
        x.allow(1, 0);
        Due.due("strong(), no interval", x.strong(), 0);
        x.wish(3, 0);
        Due.due("strong(), spread", x.strong(), RunCuts.STATE);
        RunCuts y = Due.read("1!1;3?04");
        y.allow(0, 2);
        y.allow(1, 1 | 8);
        Due.due("strong(), a message between", y.strong(), 1);
        Due.due("wished(3), a message between", y.wished(3), 1);
        RunCuts z = Due.read("121!1;3?04");
        z.allow(0, 2);
        z.allow(1, 1 | 8);
        Due.due("strong(), the second interval", z.strong(), 1);
        z.allow(0, 4);
        Due.due("strong(), an end that no beginning asks for", z.strong(), 1);
        z.allow(1, 8);
        Due.due("strong(), one ends too early", z.strong(), 0);
        z.allow(0, 2);
        Due.due("strong(), only the second interval of process 0", z.strong(), 1);
        RunCuts w = Due.read("3?14;121!0");
        w.allow(0, 8);
        w.allow(1, 2);
        Due.due("strong(), only the second interval of process 1", w.strong(), 1);
        Due.due("strong() again", w.strong(), 1);
        w.allow(1, 4);
        Due.due("strong(), fewer intervals than before", w.strong(), 0);
        RunCuts v = Due.read("101;202;303");
        v.allow(0, 2);
        v.allow(1, 4);
        v.allow(2, 1);
        Due.due("strong(), three processes without messages", v.strong(), 0);
        v.allow(0, 3);
        v.allow(1, 5);
        Due.due("strong(), two that are always allowed", v.strong(), 1);
    }

    private static void intervals() {
        RunCuts x = Due.read("1!120;9");
        x.allow(0, 2 | 1);
        interval(x, 0, 0, 0, 2);
        interval(x, 0, 1, 4, 4);
        Due.due("interval(0, 2, 0)", x.interval(0, 2, 0), RunCuts.UNKNOWN);
        Due.due("interval(0, -1, 0)", x.interval(0, -1, 0), RunCuts.UNKNOWN);
        Due.due("interval(0, 2, 2)", x.interval(0, 2, 2), RunCuts.UNKNOWN);
        Due.due("interval(2, 0, 0)", x.interval(2, 0, 0), RunCuts.UNKNOWN);
        Due.due("interval(-1, 0, 0)", x.interval(-1, 0, 0), RunCuts.UNKNOWN);
        Due.due("interval(0, 0, 2)", x.interval(0, 0, 2), RunCuts.OUTSIDE);
        Due.due("interval(0, 0, -1)", x.interval(0, 0, -1), RunCuts.OUTSIDE);
        interval(x, 1, 0, 0, 1);
        x.allow(1, 512);
        interval(x, 1, 0, 1, 1);
        x.allow(1, 2);
        Due.due("interval(1, 0, 0)", x.interval(1, 0, 0), RunCuts.UNKNOWN);
        x.wish(1, 0);
        Due.due("interval(0, 0, 0), sum", x.interval(0, 0, 0), RunCuts.STATE);
        RunCuts y = Due.read("101010101;");
        y.allow(0, 1);
        for (int i = 0; i < 5; i++) interval(y, 0, i, 2 * i, 2 * i);
        Due.due("interval(0, 5, 0)", y.interval(0, 5, 0), RunCuts.UNKNOWN);
        y.allow(0, 2);
        for (int i = 0; i < 5; i++) interval(y, 0, i, 2 * i + 1, 2 * i + 1);
    }

    private static void interval(RunCuts x, int p, int i, int f, int t) {
        Due.due("interval(" + p + ", " + i + ", 0)", x.interval(p, i, 0), f);
        Due.due("interval(" + p + ", " + i + ", 1)", x.interval(p, i, 1), t);
    }

    private static void leanOnes() {
        RunCuts x = Due.read("12345;");
        lean(x, "all allowed", 0, 1, 1, 1);
        x.allow(0, 1 << 2 | 1 << 3 | 1 << 5);
        lean(x, "allowed by turns", 3, 4, 1, 1);
        x.allow(0, 0);
        lean(x, "nothing allowed", 0, 1, 0, 0);
        Due.due("count(1)", x.count(1), 5);
        Due.due("lean(4)", x.lean(4), RunCuts.OUTSIDE);
        Due.due("lean(-1)", x.lean(-1), RunCuts.OUTSIDE);
        x.wish(1, 0);
        Due.due("lean(0), sum", x.lean(0), RunCuts.STATE);
        Due.due("lean(4), sum", x.lean(4), RunCuts.OUTSIDE);
        RunCuts y = Due.read("1!12;?03!0;7");
        lean(y, "messages stay", 3, 4, 1, 1);
        y.allow(0, 2);
        y.allow(1, 8);
        lean(y, "messages stay", 6, 10, 1, 0);
        Due.type(y, "!1;");
        Due.due("run()", y.run(), 2);
        lean(y, "a new run", 1, 2, 1, 1);
        Due.type(y, "12;9?0");
        Due.due("run(), refused", y.run(), RunCuts.STATE);
        lean(y, "a refused run", 1, 2, 1, 1);
        y.local(0, 5);
        y.allow(0, 32);
        lean(y, "an event more", 2, 3, 1, 1);
    }

    private static void lean(RunCuts x, String of, int... wants) {
        for (int what = 0; what < wants.length; what++) {
            Due.due("lean(" + what + ") of " + of, x.lean(what), wants[what]);
        }
    }
}
