/** Promises 19 to 26, sentence by sentence. */
final class WishPromises {
    private static final int NONE = RunCuts.NONE, UNKNOWN = RunCuts.UNKNOWN, OUTSIDE = RunCuts.OUTSIDE;
    private static final int STATE = RunCuts.STATE;
    private static final int[] NO_WHATS = {-1, 4, 5, 10, Integer.MIN_VALUE, Integer.MAX_VALUE};

    private WishPromises() {
    }

    static void test() {
        wishes();
        allowances();
        wishedOnes();
        arounds();
        leasts();
        strongs();
        intervals();
        leans();
    }

    private static void wishes() {
        Sentences.chapter("Promise 19: wish");
        Sentences.holds("Sets the kind and the number of the predicate.", WishPromises::wishSets);
        Sentences.holds("0 to 3", WishPromises::wishKinds);
        Sentences.holds("0 to 36", WishPromises::wishNumbers);
        Sentences.holds("Returns the previous kind;", WishPromises::wishReturns);
        Sentences.holds("OUTSIDE if kind or v is out of range.", WishPromises::wishOutside);
    }

    private static void wishSets() {
        RunCuts x = Due.read("1;2");
        x.wish(1, 3);
        Due.due("cut(11, 2), a sum of 3", x.cut(11, 2), 1);
        Due.due("wished(2), a sum of 3", x.wished(2), 11);
        x.wish(1, 2);
        Due.due("cut(11, 2), a sum of 2", x.cut(11, 2), 0);
        Due.due("wished(2), a sum of 2", x.wished(2), 1);
        x.wish(3, 2);
        Due.due("wished(1), a spread of 2", x.wished(1), 1);
        x.wish(2, 2);
        Due.due("wished(1), quiet", x.wished(1), 4);
    }

    private static void wishKinds() {
        RunCuts x = new RunCuts();
        for (int kind = 1; kind <= 3; kind++) Due.due("wish(" + kind + ", 0)", x.wish(kind, 0), kind - 1);
        Due.due("wish(0, 0)", x.wish(0, 0), 3);
    }

    private static void wishNumbers() {
        RunCuts x = Due.read("9;9;9;9");
        for (int v = 0; v <= 36; v++) {
            Due.due("wish(1, " + v + ")", x.wish(1, v), v == 0 ? 0 : 1);
            Due.due("wished(0) of a sum of " + v, x.wished(0), v % 9 == 0 ? 1 : 0);
        }
    }

    private static void wishReturns() {
        RunCuts x = new RunCuts();
        Due.due("wish(2, 9), the first", x.wish(2, 9), 0);
        Due.due("wish(2, 8), the same kind", x.wish(2, 8), 2);
        Due.due("wish(0, 8)", x.wish(0, 8), 2);
        Due.due("wish(3, 8)", x.wish(3, 8), 0);
    }

    private static void wishOutside() {
        RunCuts x = Due.read("1;2");
        x.wish(1, 2);
        int[] kinds = {-1, 4, 5, Integer.MIN_VALUE, Integer.MAX_VALUE};
        for (int kind : kinds) Due.refused(x, "wish(" + kind + ", 1)", () -> x.wish(kind, 1), OUTSIDE);
        int[] numbers = {-1, 37, 38, 1000, Integer.MIN_VALUE, Integer.MAX_VALUE};
        for (int v : numbers) {
            for (int kind = 0; kind <= 3; kind++) {
                int asked = kind;
                Due.refused(x, "wish(" + kind + ", " + v + ")", () -> x.wish(asked, v), OUTSIDE);
            }
        }
        Due.due("wished(2) as before", x.wished(2), 1);
        Due.due("wish(0, 0)", x.wish(0, 0), 1);
    }

    private static void allowances() {
        Sentences.chapter("Promise 20: allow");
        Sentences.holds("Sets the allowed values of a process.", WishPromises::allowSets);
        Sentences.holds("number of the process", WishPromises::allowProcesses);
        Sentences.holds("the bit mask, 0 to 1023", WishPromises::allowMasks);
        Sentences.holds("Returns the previous bit mask;", WishPromises::allowReturns);
        Sentences.holds("UNKNOWN if there is no such process", WishPromises::allowUnknown);
        Sentences.holds("(or no computation);", WishPromises::allowNoComputation);
        Sentences.holds("OUTSIDE if values is out of range.", WishPromises::allowOutside);
    }

    private static void allowSets() {
        RunCuts x = Due.read("12;34");
        Due.due("wished(1), all allowed", x.wished(1), 9);
        Due.due("lean(0), all allowed", x.lean(0), 0);
        x.allow(0, 1 << 2);
        Due.due("wished(1)", x.wished(1), 3);
        Due.due("least()", x.least(), 20);
        Due.due("lean(0)", x.lean(0), 1);
        Due.due("interval(0, 0, 0)", x.interval(0, 0, 0), 2);
        Due.due("interval(1, 0, 1), the other process", x.interval(1, 0, 1), 2);
        x.allow(0, 1 << 1);
        Due.due("least() of another mask", x.least(), 10);
        Due.due("lean(0) of another mask", x.lean(0), 2);
    }

    private static void allowProcesses() {
        RunCuts x = Due.read(";;;");
        for (int p = 0; p < 4; p++) Due.due("allow(" + p + ", " + p + ")", x.allow(p, p), 1023);
        for (int p = 0; p < 4; p++) Due.due("allow(" + p + ", 0)", x.allow(p, 0), p);
    }

    private static void allowMasks() {
        RunCuts x = Due.read("9;");
        int before = 1023;
        for (int mask = 0; mask <= 1023; mask += mask < 4 ? 1 : 12) {
            Due.due("allow(0, " + mask + ")", x.allow(0, mask), before);
            Due.due("cut(10, 2) of " + mask, x.cut(10, 2), mask / 512);
            before = mask;
        }
        x.allow(0, 0);
        Due.due("wished(0), nothing allowed", x.wished(0), 0);
        x.allow(0, 1023);
        Due.due("wished(1), all allowed", x.wished(1), 2);
    }

    private static void allowReturns() {
        RunCuts x = Due.read(";");
        Due.due("allow(0, 0)", x.allow(0, 0), 1023);
        Due.due("allow(0, 1023)", x.allow(0, 1023), 0);
        Due.due("allow(0, 512)", x.allow(0, 512), 1023);
        Due.due("allow(1, 512)", x.allow(1, 512), 1023);
        x.local(0, 9);
        x.wish(1, 1);
        Due.due("allow(0, 1) behind local() and wish()", x.allow(0, 1), 512);
    }

    private static void allowUnknown() {
        int[] numbers = {-1, 2, 3, 4, Integer.MIN_VALUE, Integer.MAX_VALUE};
        RunCuts x = Due.read("1;2");
        for (int p : numbers) {
            Due.refused(x, "allow(" + p + ", 1)", () -> x.allow(p, 1), UNKNOWN);
            Due.refused(x, "allow(" + p + ", 1024)", () -> x.allow(p, 1024), UNKNOWN);
        }
        RunCuts y = Due.read(";;;");
        y.allow(3, 5);
        Due.type(y, ";;");
        y.run();
        Due.refused(y, "allow(3, 1), a process of an earlier computation", () -> y.allow(3, 1), UNKNOWN);
    }

    private static void allowNoComputation() {
        RunCuts x = Due.typed(";");
        Due.refused(x, "allow(0, 1)", () -> x.allow(0, 1), UNKNOWN);
        Due.refused(x, "allow(0, 1024)", () -> x.allow(0, 1024), UNKNOWN);
        x.run();
        Due.due("allow(0, 1) behind run()", x.allow(0, 1), 1023);
    }

    private static void allowOutside() {
        int[] masks = {-1, 1024, 1025, 2047, Integer.MIN_VALUE, Integer.MAX_VALUE};
        RunCuts x = Due.read("1;2");
        x.allow(0, 3);
        for (int mask : masks) Due.refused(x, "allow(0, " + mask + ")", () -> x.allow(0, mask), OUTSIDE);
        Due.due("allow(0, 1)", x.allow(0, 1), 3);
    }

    private static void wishedOnes() {
        Sentences.chapter("Promise 21: wished");
        Sentences.holds("Returns a property of the predicate.", WishPromises::wishedRows);
        Sentences.holds("0: 1 if it holds possibly, else 0;", WishPromises::wishedPossibly);
        Sentences.holds("1: in how many cuts it holds;", WishPromises::wishedNumbers);
        Sentences.holds("2: of these the cut with the lowest level,", WishPromises::wishedLowestLevel);
        Sentences.holds("of several the one with the lowest number,", WishPromises::wishedLowestNumber);
        Sentences.holds("NONE if there is none;", WishPromises::wishedNone);
        Sentences.holds("3: 1 if it holds definitely, else 0", WishPromises::wishedDefinitely);
        Sentences.holds("Returns the property;", WishPromises::wishedRows);
        Sentences.holds("OUTSIDE if what is not 0 to 3;", WishPromises::wishedOutside);
        Sentences.holds("STATE if there is no computation.", WishPromises::wishedNoComputation);
    }

    private static void wished(String text, int kind, int v, int... wants) {
        RunCuts x = Due.read(text);
        x.wish(kind, v);
        for (int what = 0; what < wants.length; what++) {
            String call = "wished(" + what + ") of " + text + " and wish(" + kind + ", " + v + ")";
            Due.due(call, x.wished(what), wants[what]);
        }
    }

    private static void wishedRows() {
        wished("12;34", 1, 4, 1, 2, 2, 0);
        wished("12;34", 0, 0, 1, 9, 0, 1);
        wished(";", 0, 0, 1, 1, 0, 1);
        wished(";", 1, 1, 0, 0, NONE, 0);
        wished(";;;", 2, 5, 1, 1, 0, 1);
    }

    private static void wishedPossibly() {
        wished("9;9;9;9", 1, 36, 1);
        wished("9;9;9;8", 1, 36, 0);
        wished("9;9;9;8", 1, 35, 1);
        wished("9;0", 3, 9, 1);
        wished("9;0", 3, 10, 0);
        wished("8;0", 3, 9, 0);
        wished("!1;", 2, 0, 1);
    }

    private static void wishedNumbers() {
        wished("1111;2222;3333;4444", 0, 0, 1, 625);
        wished("1111;2222;3333;4444", 1, 10, 1, 256);
        wished("1111;2222;3333;4444", 1, 0, 1, 1);
        wished("1111;2222;3333;4444", 3, 4, 1, 244);
        wished("!1;?0", 2, 0, 1, 2);
        wished("!1;", 2, 0, 1, 1);
    }

    private static void wishedLowestLevel() {
        wished("12;2", 1, 2, 1, 2, 1);
        wished("112;2", 1, 2, 1, 2, 1);
        wished("2;112", 1, 2, 1, 2, 10);
        wished("?1!19;9!0?0", 1, 18, 1, 2, 32);
    }

    private static void wishedLowestNumber() {
        wished("5;5", 1, 5, 1, 2, 1);
        wished("5;5;5", 1, 10, 1, 3, 11);
        wished("?1;!05;5", 1, 5, 1, 5, 1);
        wished("12;21", 1, 3, 1, 2, 11);
    }

    private static void wishedNone() {
        wished("1;2", 1, 36, 0, 0, NONE);
        wished("1;2", 3, 36, 0, 0, NONE);
        RunCuts x = Due.read("1;2");
        x.allow(1, 0);
        Due.due("wished(2), nothing allowed", x.wished(2), NONE);
        RunCuts y = Due.read(";!0");
        y.wish(2, 0);
        Due.due("wished(2), quiet before the send", y.wished(2), 0);
    }

    private static void wishedDefinitely() {
        wished("1;2", 1, 0, 1, 1, 0, 1);
        wished("1;2", 1, 3, 1, 1, 11, 1);
        wished("1;2", 1, 1, 1, 1, 10, 0);
        wished("1;1", 1, 1, 1, 2, 1, 1);
        wished("!1;?0", 1, 0, 1, 3, 0, 1);
        wished("1!1;?02", 1, 1, 1, 3, 10, 1);
        wished("10;10", 1, 2, 1, 1, 11, 0);
    }

    private static void wishedOutside() {
        RunCuts x = Due.read("1;2");
        RunCuts y = new RunCuts();
        for (int what : NO_WHATS) {
            Due.refused(x, "wished(" + what + ")", () -> x.wished(what), OUTSIDE);
            Due.refused(y, "wished(" + what + "), no computation", () -> y.wished(what), OUTSIDE);
        }
    }

    private static void wishedNoComputation() {
        RunCuts x = Due.typed(";");
        for (int what = 0; what <= 3; what++) {
            int asked = what;
            Due.refused(x, "wished(" + what + ")", () -> x.wished(asked), STATE);
        }
    }

    private static void arounds() {
        Sentences.chapter("Promise 22: around");
        Sentences.holds("Returns a step of the avoiding path.", WishPromises::aroundSteps);
        Sentences.holds("index of the step, from 0", WishPromises::aroundIndexes);
        Sentences.holds("Returns the process whose event is added by this step;", WishPromises::aroundSteps);
        Sentences.holds("STATE if there is no computation;", WishPromises::aroundNoComputation);
        Sentences.holds("UNKNOWN if there is no such step,", WishPromises::aroundUnknown);
        Sentences.holds("or no avoiding path.", WishPromises::aroundNoPath);
    }

    private static void around(RunCuts x, int... wants) {
        for (int step = 0; step < wants.length; step++) {
            Due.due("around(" + step + ")", x.around(step), wants[step]);
        }
        Due.due("around(" + wants.length + ")", x.around(wants.length), UNKNOWN);
    }

    private static void aroundSteps() {
        RunCuts x = Due.read("14;35");
        x.wish(1, 4);
        around(x, 1, 1, 0, 0);
        x.wish(1, 36);
        around(x, 0, 0, 1, 1);
        RunCuts y = Due.read("?3;?2;!1;!0");
        y.wish(1, 1);
        around(y, 2, 1, 3, 0);
    }

    private static void aroundIndexes() {
        RunCuts x = Due.read("123456789;1234567");
        x.wish(3, 36);
        around(x, 0, 0, 0, 0, 0, 0, 0, 0, 0, 1, 1, 1, 1, 1, 1, 1);
    }

    private static void aroundNoComputation() {
        RunCuts x = Due.typed(";");
        Due.refused(x, "around(0)", () -> x.around(0), STATE);
        Due.refused(x, "around(-1)", () -> x.around(-1), STATE);
    }

    private static void aroundUnknown() {
        RunCuts x = Due.read("1;2");
        x.wish(1, 36);
        int[] steps = {-1, 2, 3, 15, 16, 17, Integer.MIN_VALUE, Integer.MAX_VALUE};
        for (int step : steps) Due.refused(x, "around(" + step + ")", () -> x.around(step), UNKNOWN);
        RunCuts y = Due.read(";");
        y.wish(1, 1);
        Due.refused(y, "around(0), a path without steps", () -> y.around(0), UNKNOWN);
        RunCuts z = Due.read("1!1;?02");
        z.wish(1, 9);
        Due.due("around(3)", z.around(3), 1);
        z.back(1);
        Due.refused(z, "around(3) behind back()", () -> z.around(3), UNKNOWN);
    }

    private static void aroundNoPath() {
        String[] texts = {"1;2", ";", "!1;?0"};
        for (String text : texts) {
            RunCuts x = Due.read(text);
            for (int step = -1; step <= 2; step++) {
                int asked = step;
                Due.refused(x, "around(" + step + ") of " + text, () -> x.around(asked), UNKNOWN);
            }
        }
        RunCuts y = Due.read("1;2");
        y.wish(1, 1);
        Due.due("around(0), a path", y.around(0), 1);
        y.wish(1, 3);
        Due.refused(y, "around(0), no path at the end", () -> y.around(0), UNKNOWN);
    }

    private static void leasts() {
        Sentences.chapter("Promise 23: least");
        Sentences.holds("Returns the least cut.", WishPromises::leastCuts);
        Sentences.holds("Returns the cut as a number;", WishPromises::leastCuts);
        Sentences.holds("NONE if the predicate holds in no cut;", WishPromises::leastNone);
        Sentences.holds("STATE if there is no computation,", WishPromises::leastNoComputation);
        Sentences.holds("or the kind of the predicate is not 0.", WishPromises::leastOtherKinds);
    }

    private static void leastCuts() {
        RunCuts x = Due.read("1!12;?03!0;7");
        Due.due("least(), the cut without events", x.least(), 0);
        x.allow(2, 1 << 7);
        Due.due("least(), leading zeros", x.least(), 1);
        x.allow(1, 1 << 3);
        Due.due("least()", x.least(), 221);
        x.allow(0, 1 << 2);
        Due.due("least()", x.least(), 321);
        Due.due("least() of nothing", Due.read(";").least(), 0);
        RunCuts y = Due.read("101;202");
        y.allow(0, 1 << 1);
        y.allow(1, 1 << 2);
        Due.due("least(), the first of several", y.least(), 11);
    }

    private static void leastNone() {
        RunCuts x = Due.read("1;2");
        x.allow(0, 1 << 5);
        Due.due("least(), a value that never comes", x.least(), NONE);
        x.allow(0, 0);
        Due.due("least(), nothing allowed", x.least(), NONE);
        RunCuts y = Due.read("1!12;?01");
        y.allow(0, 1 << 0);
        y.allow(1, 1 << 1);
        Due.due("least(), never at once", y.least(), NONE);
    }

    private static void leastNoComputation() {
        RunCuts x = Due.typed(";");
        Due.refused(x, "least()", x::least, STATE);
        x.wish(1, 0);
        Due.refused(x, "least(), a sum", x::least, STATE);
    }

    private static void leastOtherKinds() {
        RunCuts x = Due.read("1;2");
        for (int kind = 1; kind <= 3; kind++) {
            x.wish(kind, 0);
            Due.refused(x, "least() of kind " + kind, x::least, STATE);
        }
        x.wish(0, 0);
        Due.due("least() of kind 0", x.least(), 0);
    }

    private static void strongs() {
        Sentences.chapter("Promise 24: strong");
        Sentences.holds("Tells whether the predicate is strong.", WishPromises::strongOnes);
        Sentences.holds("Returns 1 if it is, else 0;", WishPromises::strongOnes);
        Sentences.holds("STATE if there is no computation,", WishPromises::strongNoComputation);
        Sentences.holds("or the kind of the predicate is not 0.", WishPromises::strongOtherKinds);
    }

    private static void strongOnes() {
        RunCuts x = Due.read("101;202");
        Due.due("strong(), all allowed", x.strong(), 1);
        x.allow(0, 1 << 1);
        Due.due("strong(), one process is always allowed", x.strong(), 1);
        x.allow(1, 1 << 2);
        Due.due("strong(), the last intervals have no ends", x.strong(), 1);
        x.allow(1, 1 << 0);
        Due.due("strong(), against an end", x.strong(), 0);
        x.allow(1, 0);
        Due.due("strong(), no interval", x.strong(), 0);
        Due.due("strong() of nothing", Due.read(";;;").strong(), 1);
        RunCuts y = Due.read("101010101;20202");
        y.allow(0, 1 << 0);
        y.allow(1, 1 << 2);
        Due.due("strong(), the first and the last interval", y.strong(), 0);
        y.allow(1, 1 << 0);
        Due.due("strong(), the first intervals", y.strong(), 1);
    }

    private static void strongNoComputation() {
        RunCuts x = Due.typed(";");
        Due.refused(x, "strong()", x::strong, STATE);
    }

    private static void strongOtherKinds() {
        RunCuts x = Due.read("1;2");
        for (int kind = 1; kind <= 3; kind++) {
            x.wish(kind, 0);
            Due.refused(x, "strong() of kind " + kind, x::strong, STATE);
        }
        x.wish(0, 0);
        Due.due("strong() of kind 0", x.strong(), 1);
    }

    private static void intervals() {
        Sentences.chapter("Promise 25: interval");
        Sentences.holds("Returns a property of an interval.", WishPromises::intervalEnds);
        Sentences.holds("number of the process", WishPromises::intervalProcesses);
        Sentences.holds("index of the interval, from 0, in ascending order", WishPromises::intervalIndexes);
        Sentences.holds("0: f; 1: t", WishPromises::intervalEnds);
        Sentences.holds("Returns the property;", WishPromises::intervalEnds);
        Sentences.holds("STATE if there is no computation,", WishPromises::intervalNoComputation);
        Sentences.holds("or the kind of the predicate is not 0;", WishPromises::intervalOtherKinds);
        Sentences.holds("UNKNOWN if there is no such process or interval;", WishPromises::intervalUnknown);
        Sentences.holds("OUTSIDE if what is not 0 or 1.", WishPromises::intervalOutside);
    }

    private static void interval(RunCuts x, int p, int i, int f, int t) {
        Due.due("interval(" + p + ", " + i + ", 0)", x.interval(p, i, 0), f);
        Due.due("interval(" + p + ", " + i + ", 1)", x.interval(p, i, 1), t);
    }

    private static void intervalEnds() {
        RunCuts x = Due.read("123456789;");
        interval(x, 0, 0, 0, 9);
        interval(x, 1, 0, 0, 0);
        x.allow(0, 1 << 9);
        interval(x, 0, 0, 9, 9);
        x.allow(0, 1 << 0 | 1 << 9);
        interval(x, 0, 0, 0, 0);
        interval(x, 0, 1, 9, 9);
        x.allow(0, 1 << 3 | 1 << 4 | 1 << 6);
        interval(x, 0, 0, 3, 4);
        interval(x, 0, 1, 6, 6);
    }

    private static void intervalProcesses() {
        RunCuts x = Due.read(";1;12;123");
        for (int p = 0; p < 4; p++) interval(x, p, 0, 0, p);
    }

    private static void intervalIndexes() {
        RunCuts x = Due.read("101010101;");
        x.allow(0, 1 << 0);
        for (int i = 0; i < 5; i++) interval(x, 0, i, 2 * i, 2 * i);
        Due.due("interval(0, 5, 0)", x.interval(0, 5, 0), UNKNOWN);
        x.allow(0, 1 << 1);
        for (int i = 0; i < 5; i++) interval(x, 0, i, 2 * i + 1, 2 * i + 1);
        Due.due("interval(0, 5, 0)", x.interval(0, 5, 0), UNKNOWN);
    }

    private static void intervalNoComputation() {
        RunCuts x = Due.typed(";");
        Due.refused(x, "interval(0, 0, 0)", () -> x.interval(0, 0, 0), STATE);
        Due.refused(x, "interval(-1, -1, 2)", () -> x.interval(-1, -1, 2), STATE);
    }

    private static void intervalOtherKinds() {
        RunCuts x = Due.read("1;2");
        for (int kind = 1; kind <= 3; kind++) {
            x.wish(kind, 0);
            Due.refused(x, "interval(0, 0, 0) of kind " + kind, () -> x.interval(0, 0, 0), STATE);
            Due.refused(x, "interval(2, 9, 2) of kind " + kind, () -> x.interval(2, 9, 2), STATE);
        }
        x.wish(0, 0);
        interval(x, 0, 0, 0, 1);
    }

    private static void intervalUnknown() {
        RunCuts x = Due.read("1;2");
        int[] numbers = {-1, 2, 3, 4, 5, Integer.MIN_VALUE, Integer.MAX_VALUE};
        for (int n : numbers) {
            Due.refused(x, "interval(" + n + ", 0, 0)", () -> x.interval(n, 0, 0), UNKNOWN);
            Due.refused(x, "interval(0, " + n + ", 0)", () -> x.interval(0, n, 0), UNKNOWN);
            Due.refused(x, "interval(0, " + n + ", 2)", () -> x.interval(0, n, 2), UNKNOWN);
        }
        Due.refused(x, "interval(0, 1, 0), one interval", () -> x.interval(0, 1, 0), UNKNOWN);
        x.allow(1, 0);
        Due.refused(x, "interval(1, 0, 1), none", () -> x.interval(1, 0, 1), UNKNOWN);
    }

    private static void intervalOutside() {
        RunCuts x = Due.read("1;2");
        int[] whats = {-1, 2, 3, Integer.MIN_VALUE, Integer.MAX_VALUE};
        for (int what : whats) Due.refused(x, "interval(0, 0, " + what + ")", () -> x.interval(0, 0, what), OUTSIDE);
    }

    private static void leans() {
        Sentences.chapter("Promise 26: lean");
        Sentences.holds("Returns a property of the lean computation.", WishPromises::leanRows);
        Sentences.holds("0: the number of its events;", WishPromises::leanEvents);
        Sentences.holds("1: the number of its consistent cuts;", WishPromises::leanCuts);
        Sentences.holds("2: 1 if the predicate holds possibly in it, else 0;", WishPromises::leanPossibly);
        Sentences.holds("3: 1 if the predicate holds definitely in it, else 0", WishPromises::leanDefinitely);
        Sentences.holds("Returns the property;", WishPromises::leanRows);
        Sentences.holds("OUTSIDE if what is not 0 to 3;", WishPromises::leanOutside);
        Sentences.holds("STATE if there is no computation,", WishPromises::leanNoComputation);
        Sentences.holds("or the kind of the predicate is not 0.", WishPromises::leanOtherKinds);
    }

    private static RunCuts allowing(String text, int... masks) {
        RunCuts x = Due.read(text);
        for (int p = 0; p < masks.length; p++) x.allow(p, masks[p]);
        return x;
    }

    private static void leanRow(RunCuts x, int... wants) {
        for (int what = 0; what < wants.length; what++) {
            Due.due("lean(" + what + ")", x.lean(what), wants[what]);
        }
    }

    private static void leanRows() {
        leanRow(Due.read(";"), 0, 1, 1, 1);
        leanRow(allowing("1!12;?03!0;7", 1 << 1, 1 << 3), 6, 10, 1, 0);
        leanRow(allowing("12;34", 1 << 2, 1 << 4), 2, 4, 1, 1);
        RunCuts x = allowing("12;34", 1 << 1);
        leanRow(x, 2, 3, 1, 1);
        x.back(0);
        leanRow(x, 1, 2, 1, 1);
    }

    private static void leanEvents() {
        leanRow(Due.read("1111;2222;3333;4444"), 0);
        leanRow(allowing("101010101;", 1), 9);
        leanRow(allowing("101010101;", 3), 0);
        leanRow(Due.read("!1!1!1!1!1!1!1!1!1;?0?0?0?0?0?0?0"), 16);
        leanRow(allowing("0101;", 1 << 0), 3);
        leanRow(allowing("0101;", 1 << 1), 3);
    }

    private static void leanCuts() {
        leanRow(Due.read("1!1;?02"), 2, 3);
        leanRow(allowing("1!1;?02", 1 << 0, 1 << 0), 4, 5);
        leanRow(allowing("1;2;3;4", 1, 1, 1, 1), 4, 16);
    }

    private static void leanPossibly() {
        leanRow(allowing("12;34", 0), 0, 1, 0);
        leanRow(allowing("12;34", 1 << 1, 1 << 3), 4, 9, 1);
        leanRow(allowing("1!12;?01", 1 << 0, 1 << 1), 4, 5, 0);
        leanRow(allowing("91;", 1 << 1), 1, 2, 1);
    }

    private static void leanDefinitely() {
        leanRow(allowing("12;34", 1 << 1, 1 << 3), 4, 9, 1, 0);
        leanRow(allowing("1;2", 1 << 1, 1 << 2), 2, 4, 1, 1);
        leanRow(allowing("1;2", 1 << 1, 1 << 0), 2, 4, 1, 0);
        leanRow(allowing("1;2", 1 << 5, 1 << 0), 1, 2, 0, 0);
    }

    private static void leanOutside() {
        RunCuts x = Due.read("1;2");
        RunCuts y = new RunCuts();
        for (int what : NO_WHATS) {
            x.wish(0, 0);
            Due.refused(x, "lean(" + what + ")", () -> x.lean(what), OUTSIDE);
            x.wish(1, 0);
            Due.refused(x, "lean(" + what + "), a sum", () -> x.lean(what), OUTSIDE);
            Due.refused(y, "lean(" + what + "), no computation", () -> y.lean(what), OUTSIDE);
        }
    }

    private static void leanNoComputation() {
        RunCuts x = Due.typed(";");
        for (int what = 0; what <= 3; what++) {
            int asked = what;
            Due.refused(x, "lean(" + what + ")", () -> x.lean(asked), STATE);
        }
    }

    private static void leanOtherKinds() {
        RunCuts x = Due.read("1;2");
        for (int kind = 1; kind <= 3; kind++) {
            x.wish(kind, 0);
            for (int what = 0; what <= 3; what++) {
                int asked = what;
                Due.refused(x, "lean(" + what + ") of kind " + kind, () -> x.lean(asked), STATE);
            }
        }
        x.wish(0, 0);
        leanRow(x, 0, 1, 1, 1);
    }
}
