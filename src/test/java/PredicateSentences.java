/** The document's chapter "The predicate". */
final class PredicateSentences {
    private static final int UNKNOWN = RunCuts.UNKNOWN, STATE = RunCuts.STATE, NONE = RunCuts.NONE;

    private PredicateSentences() {
    }

    static void test() {
        Sentences.chapter("The predicate");
        Sentences.holds("There is a predicate, which has a kind and a number v; at first both are 0.",
            PredicateSentences::atFirst);
        Sentences.holds("It holds in a cut if: kind 0 (conjunction): the value of each process is one of those that"
            + " are allowed for it;", PredicateSentences::conjunction);
        Sentences.holds("kind 1 (sum): the sum of the values of all processes is v;", PredicateSentences::sum);
        Sentences.holds("kind 2 (quiet): no message is under way;", PredicateSentences::quiet);
        Sentences.holds("kind 3 (spread): the greatest value minus the smallest value is v or more.",
            PredicateSentences::spread);
        Sentences.holds("The allowed values of a process are a bit mask (bit x for the value x);",
            PredicateSentences::bits);
        Sentences.holds("when a computation has been read, all values are allowed (1023).",
            PredicateSentences::allAllowedWhenRead);
        Sentences.holds("The predicate holds possibly if it holds in some cut, definitely if each path has a cut in"
            + " which it holds.", PredicateSentences::possiblyAndDefinitely);
        Sentences.holds("The avoiding path is the path in none of whose cuts it holds;",
            PredicateSentences::avoidingPath);
        Sentences.holds("of several, the one that is lexicographically smallest by the numbers of the processes"
            + " whose events are added.", PredicateSentences::smallestOfSeveral);
        Sentences.holds("For the kind 0: the least cut is the cut in which the predicate holds, and which has, for"
            + " each process, no more events than any other cut in which it holds.", PredicateSentences::leastCut);
        Sentences.holds("An interval of a process is a maximal range of numbers f to t such that after its first f,"
            + " f + 1, ..., t events the value is allowed each time.", PredicateSentences::intervals);
        Sentences.holds("Its beginning is event f - 1 (none if f is 0), its end is event t (none if the process has"
            + " only t events).", PredicateSentences::beginningsAndEnds);
        Sentences.holds("The predicate is strong if intervals can be chosen, one for each process, such that the"
            + " beginning of each of them, if it has one, is before the end of each other one, if that has one.",
            PredicateSentences::strong);
        Sentences.holds("The lean computation is the present one without those local events after which the value"
            + " of their process is allowed if and only if it was allowed before them.", PredicateSentences::lean);
    }

    private static void atFirst() {
        Due.due("wish(1, 5) of a new object", new RunCuts().wish(1, 5), 0);
        RunCuts x = Due.read("1;");
        Due.due("least(), kind 0", x.least(), 0);
        Due.due("wish(1, 5) of a new run", x.wish(1, 5), 0);
    }

    private static void holds(RunCuts x, int kind, int v, int cut, int want) {
        x.wish(kind, v);
        Due.due("cut(" + cut + ", 2) of wish(" + kind + ", " + v + ")", x.cut(cut, 2), want);
    }

    private static void conjunction() {
        RunCuts x = Due.read("1;2;");
        x.allow(0, 1 << 1);
        x.allow(1, 1 << 2 | 1 << 0);
        holds(x, 0, 0, 0, 0);
        holds(x, 0, 0, 10, 0);
        holds(x, 0, 0, 100, 1);
        holds(x, 0, 36, 110, 1);
        x.allow(2, 1022);
        holds(x, 0, 0, 110, 0);
        x.allow(2, 1);
        holds(x, 0, 0, 110, 1);
        x.allow(1, 1 << 0);
        holds(x, 0, 0, 110, 0);
    }

    private static void sum() {
        RunCuts x = Due.read("9;9;9;9");
        holds(x, 1, 0, 0, 1);
        holds(x, 1, 1, 0, 0);
        holds(x, 1, 0, 1, 0);
        holds(x, 1, 9, 1, 1);
        holds(x, 1, 9, 1000, 1);
        holds(x, 1, 9, 1001, 0);
        holds(x, 1, 35, 1111, 0);
        holds(x, 1, 36, 1111, 1);
        holds(x, 1, 36, 1110, 0);
    }

    private static void quiet() {
        RunCuts x = Due.read("!1?1;!0?0");
        int[] cuts = {0, 1, 10, 11, 12, 21, 22};
        int[] wants = {1, 0, 0, 0, 0, 0, 1};
        for (int i = 0; i < cuts.length; i++) holds(x, 2, 0, cuts[i], wants[i]);
        holds(x, 2, 36, 0, 1);
        RunCuts y = Due.read("!1;5");
        holds(y, 2, 0, 1, 1);
        holds(y, 2, 0, 11, 0);
    }

    private static void spread() {
        RunCuts x = Due.read("5;3;");
        holds(x, 3, 0, 0, 1);
        holds(x, 3, 1, 0, 0);
        holds(x, 3, 5, 100, 1);
        holds(x, 3, 6, 100, 0);
        holds(x, 3, 5, 110, 1);
        RunCuts y = Due.read("5;38");
        holds(y, 3, 2, 11, 1);
        holds(y, 3, 3, 11, 0);
        holds(y, 3, 3, 12, 1);
        holds(y, 3, 4, 12, 0);
        RunCuts z = Due.read("9;9");
        holds(z, 3, 9, 10, 1);
        holds(z, 3, 10, 10, 0);
        holds(z, 3, 36, 10, 0);
        holds(z, 3, 1, 11, 0);
        holds(z, 3, 0, 11, 1);
    }

    private static void bits() {
        for (int value = 0; value <= 9; value++) {
            RunCuts x = Due.read(value + ";");
            x.allow(0, 1 << value);
            holds(x, 0, 0, 10, 1);
            x.allow(0, 1023 ^ 1 << value);
            holds(x, 0, 0, 10, 0);
        }
    }

    private static void allAllowedWhenRead() {
        RunCuts x = Due.read(";;;");
        for (int p = 0; p < 4; p++) Due.due("allow(" + p + ", 5)", x.allow(p, 5), 1023);
        Due.type(x, "?1;");
        Due.due("run(), refused", x.run(), STATE);
        for (int p = 0; p < 4; p++) Due.due("allow(" + p + ", 6), not read", x.allow(p, 6), 5);
        x.blank();
        Due.type(x, ";;;");
        Due.due("run()", x.run(), 4);
        for (int p = 0; p < 4; p++) Due.due("allow(" + p + ", 7), read again", x.allow(p, 7), 1023);
    }

    private static void wished(String text, int kind, int v, int possibly, int definitely) {
        RunCuts x = Due.read(text);
        x.wish(kind, v);
        String of = " of " + text + " and wish(" + kind + ", " + v + ")";
        Due.due("wished(0)" + of, x.wished(0), possibly);
        Due.due("wished(3)" + of, x.wished(3), definitely);
    }

    private static void possiblyAndDefinitely() {
        wished("1;2", 1, 1, 1, 0);
        wished("1;2", 1, 2, 1, 0);
        wished("1;2", 1, 0, 1, 1);
        wished("1;2", 1, 3, 1, 1);
        wished("1;2", 1, 9, 0, 0);
        wished(";", 1, 0, 1, 1);
        wished(";", 1, 1, 0, 0);
        wished("1;1", 1, 1, 1, 1);
        wished("10;10", 1, 1, 1, 1);
        wished("10;10", 1, 2, 1, 0);
        wished("1!12;?010", 1, 3, 1, 0);
    }

    private static void path(String text, int v, int... wants) {
        RunCuts x = Due.read(text);
        x.wish(1, v);
        for (int step = 0; step < wants.length; step++) {
            Due.due("around(" + step + ") of " + text + " round the sum " + v, x.around(step), wants[step]);
        }
        Due.due("around() behind the end of " + text + " round the sum " + v, x.around(wants.length), UNKNOWN);
    }

    private static void avoidingPath() {
        path("1;2", 1, 1, 0);
        path("1;2", 2, 0, 1);
        path("1;2", 0);
        path("1;2", 3);
        path("1;1", 1);
        path("14;35", 4, 1, 1, 0, 0);
        path("?1;!0", 5, 1, 0);
    }

    private static void smallestOfSeveral() {
        path("1;2", 9, 0, 1);
        path("1;2;3", 36, 0, 1, 2);
        path("1;2;3", 1, 1, 0, 2);
        path("1;2;3", 4, 0, 1, 2);
        path("1;2;3", 3, 0, 2, 1);
        path("11;22", 3);
        path("10;20", 3, 0, 0, 1, 1);
    }

    private static void leastCut() {
        RunCuts x = Due.read("12;34");
        Due.due("least(), all allowed", x.least(), 0);
        x.allow(0, 1 << 2);
        Due.due("least(), one condition", x.least(), 20);
        x.allow(1, 1 << 3 | 1 << 4);
        Due.due("least(), two conditions", x.least(), 21);
        x.allow(1, 1 << 4);
        Due.due("least(), at the end", x.least(), 22);
        x.allow(1, 1 << 5);
        Due.due("least(), nowhere", x.least(), NONE);
        RunCuts y = Due.read("!1;?05");
        y.allow(1, 1 << 5);
        Due.due("least(), the past belongs to it", y.least(), 12);
    }

    private static void intervals(RunCuts x, int p, int... ends) {
        for (int i = 0; i < ends.length; i += 2) {
            Due.due("f of interval " + i / 2 + " of " + p, x.interval(p, i / 2, 0), ends[i]);
            Due.due("t of interval " + i / 2 + " of " + p, x.interval(p, i / 2, 1), ends[i + 1]);
        }
        Due.due("one more interval of " + p, x.interval(p, ends.length / 2, 0), UNKNOWN);
    }

    private static void intervals() {
        RunCuts x = Due.read("11!1010;");
        intervals(x, 0, 0, 6);
        intervals(x, 1, 0, 0);
        x.allow(0, 1 << 1);
        x.allow(1, 1 << 1);
        intervals(x, 0, 1, 3, 5, 5);
        intervals(x, 1);
        x.allow(0, 1 << 0);
        intervals(x, 0, 0, 0, 4, 4, 6, 6);
        x.allow(0, 0);
        intervals(x, 0);
        RunCuts y = Due.read("010101010;");
        y.allow(0, 1 << 1);
        intervals(y, 0, 2, 2, 4, 4, 6, 6, 8, 8);
        y.allow(0, 1 << 0);
        intervals(y, 0, 0, 1, 3, 3, 5, 5, 7, 7, 9, 9);
    }

    private static void strong(RunCuts x, int first, int second, int want) {
        x.allow(0, first);
        x.allow(1, second);
        Due.due("strong() of " + first + " and " + second, x.strong(), want);
    }

    private static void beginningsAndEnds() {
        RunCuts x = Due.read("1;2");
        strong(x, 1 << 0, 1 << 0, 1);
        strong(x, 1 << 0, 1 << 2, 0);
        strong(x, 1 << 1, 1 << 0, 0);
        strong(x, 1 << 1, 1 << 2, 1);
        strong(x, 1 << 0 | 1 << 1, 1 << 0, 1);
        strong(x, 1 << 0 | 1 << 1, 1 << 2, 1);
        strong(x, 1 << 0 | 1 << 1, 1 << 5, 0);
        RunCuts y = Due.read(";");
        strong(y, 1 << 0, 1 << 0, 1);
        strong(y, 1 << 0, 1 << 1, 0);
    }

    private static void strong() {
        RunCuts x = Due.read("1!1;3?04");
        strong(x, 1 << 1, 1 << 0 | 1 << 3, 1);
        strong(x, 1 << 1, 1 << 0, 0);
        strong(x, 0, 1023, 0);
        strong(x, 1023, 0, 0);
        strong(Due.read("1;34"), 1 << 1, 1 << 0 | 1 << 3, 0);
        RunCuts y = Due.read("1!1?12;3?0!04");
        strong(y, 1 << 1, 1 << 3, 1);
        RunCuts z = Due.read("1!12;3?04");
        strong(z, 1 << 1, 1 << 3, 0);
        RunCuts w = Due.read("1;2;3!12");
        w.allow(0, 1 << 1);
        w.allow(1, 1 << 2);
        w.allow(2, 1 << 3);
        Due.due("strong(), one pair of three fails", w.strong(), 0);
        w.allow(2, 1 << 2 | 1 << 3);
        Due.due("strong(), no ends", w.strong(), 1);
    }

    private static void lean(RunCuts x, int events, int cuts) {
        Due.due("lean(0)", x.lean(0), events);
        Due.due("lean(1)", x.lean(1), cuts);
    }

    private static void lean() {
        RunCuts x = Due.read("1200;");
        lean(x, 0, 1);
        x.allow(0, 1 << 1);
        lean(x, 2, 3);
        x.allow(0, 1 << 0);
        lean(x, 2, 3);
        x.allow(0, 1 << 2);
        lean(x, 2, 3);
        x.allow(0, 1 << 5);
        lean(x, 0, 1);
        RunCuts y = Due.read("12!13;4?05!2;?1");
        lean(y, 4, 5);
        y.allow(1, 1 << 5);
        lean(y, 5, 6);
        Due.due("wished(2) of the present one", y.wished(2), 330);
        Due.due("count(1) of the present one", y.count(1), 9);
        RunCuts z = Due.read("0;9");
        lean(z, 0, 1);
        z.allow(0, 1022);
        z.allow(1, 511);
        lean(z, 1, 2);
    }
}
