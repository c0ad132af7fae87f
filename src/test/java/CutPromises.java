/** Promises 12 to 18, sentence by sentence. */
final class CutPromises {
    private static final int UNKNOWN = RunCuts.UNKNOWN, OUTSIDE = RunCuts.OUTSIDE, STATE = RunCuts.STATE;
    private static final String MIXED = "1!12;?03!0;7";
    private static final String FOURS = "1111;2222;3333;4444";
    /** Of MIXED, which has 3, 3 and 1 events. */
    private static final int[] NO_CUTS = {-1, 2, 40, 332, 400, 431, 999, 1000, 1331, 10000, -331,
        Integer.MIN_VALUE, Integer.MAX_VALUE};
    private static final int[] NO_PROCESSES = {-1, 3, 4, 10, Integer.MIN_VALUE, Integer.MAX_VALUE};

    private CutPromises() {
    }

    static void test() {
        cuts();
        values();
        unders();
        meets();
        joins();
        lattices();
        levels();
    }

    private static void cuts() {
        Sentences.chapter("Promise 12: cut");
        Sentences.holds("Returns a property of a cut.", CutPromises::cutRows);
        Sentences.holds("the cut as a number; it need not be consistent", CutPromises::cutNotConsistent);
        Sentences.holds("0: 1 if it is consistent, else 0;", CutPromises::cutConsistent);
        Sentences.holds("1: its level;", CutPromises::cutLevels);
        Sentences.holds("2: 1 if the predicate holds in it, else 0;", CutPromises::cutPredicate);
        Sentences.holds("3: the set of the processes whose next event can be added so that there is a consistent cut"
            + " again, as a bit mask;", CutPromises::cutFollowers);
        Sentences.holds("4: the number of messages that are under way in it;", CutPromises::cutMessages);
        Sentences.holds("5: the number of paths through it", CutPromises::cutPaths);
        Sentences.holds("Returns the property;", CutPromises::cutRows);
        Sentences.holds("STATE if there is no computation;", CutPromises::cutNoComputation);
        Sentences.holds("UNKNOWN if cut is not the number of a cut (it is negative,", CutPromises::cutNegative);
        Sentences.holds("or has too many digits", CutPromises::cutTooManyDigits);
        Sentences.holds("or too great a digit);", CutPromises::cutTooGreatADigit);
        Sentences.holds("OUTSIDE if what is not 0 to 5;", CutPromises::cutOutside);
        Sentences.holds("STATE if what is above 1 and the cut is not consistent.", CutPromises::cutState);
    }

    private static void row(RunCuts x, int cut, int... wants) {
        for (int what = 0; what < wants.length; what++) {
            Due.due("cut(" + cut + ", " + what + ")", x.cut(cut, what), wants[what]);
        }
    }

    private static void cutRows() {
        RunCuts x = Due.read(MIXED);
        row(x, 0, 1, 0, 1, 5, 0, 28);
        row(x, 211, 1, 4, 1, 3, 0, 12);
        row(x, 331, 1, 7, 1, 0, 1, 28);
        row(Due.read(";"), 0, 1, 0, 1, 0, 0, 1);
        row(Due.read(";;;"), 0, 1, 0, 1, 0, 0, 1);
    }

    private static void cutNotConsistent() {
        RunCuts x = Due.read(MIXED);
        row(x, 10, 0, 1, STATE, STATE, STATE, STATE);
        row(x, 131, 0, 5, STATE, STATE, STATE, STATE);
    }

    private static void cutConsistent() {
        RunCuts x = Due.read("?1;!0");
        row(x, 0, 1);
        row(x, 1, 1);
        row(x, 10, 0);
        row(x, 11, 1);
        RunCuts y = Due.read("!3;;;?0");
        row(y, 1, 0);
        row(y, 1001, 1);
    }

    private static void cutLevels() {
        RunCuts x = Due.read("123456789;1234567");
        int[] cuts = {0, 1, 7, 10, 90, 97, 34};
        int[] levels = {0, 1, 7, 1, 9, 16, 7};
        for (int i = 0; i < cuts.length; i++) Due.due("cut(" + cuts[i] + ", 1)", x.cut(cuts[i], 1), levels[i]);
    }

    private static void cutPredicate() {
        RunCuts x = Due.read("5;");
        x.wish(1, 5);
        Due.due("cut(10, 2)", x.cut(10, 2), 1);
        Due.due("cut(0, 2)", x.cut(0, 2), 0);
        x.wish(1, 0);
        Due.due("cut(10, 2) of another wish", x.cut(10, 2), 0);
        Due.due("cut(0, 2) of another wish", x.cut(0, 2), 1);
    }

    private static void cutFollowers() {
        RunCuts x = Due.read("!1;?0;5;6");
        int[] cuts = {0, 1000, 1100, 10, 1111, 1110, 1001};
        int[] sets = {13, 14, 12, 9, 0, 8, 6};
        for (int i = 0; i < cuts.length; i++) Due.due("cut(" + cuts[i] + ", 3)", x.cut(cuts[i], 3), sets[i]);
        Due.due("a receive that waits", Due.read("!15;?0").cut(0, 3), 1);
        Due.due("the lowest process waits", Due.read("?1;5!0").cut(1, 3), 2);
    }

    private static void cutMessages() {
        RunCuts x = Due.read("!1!1!1;?0!0");
        int[] cuts = {0, 10, 20, 30, 11, 31, 32};
        int[] numbers = {0, 1, 2, 3, 0, 2, 3};
        for (int i = 0; i < cuts.length; i++) Due.due("cut(" + cuts[i] + ", 4)", x.cut(cuts[i], 4), numbers[i]);
        Due.due("nine messages", Due.read("!1!1!1!1!1!1!1!1!1;").cut(90, 4), 9);
    }

    private static void cutPaths() {
        RunCuts x = Due.read("12;34");
        int[] cuts = {0, 10, 20, 11, 12, 2, 22};
        int[] numbers = {6, 3, 1, 4, 3, 1, 6};
        for (int i = 0; i < cuts.length; i++) Due.due("cut(" + cuts[i] + ", 5)", x.cut(cuts[i], 5), numbers[i]);
        RunCuts y = Due.read(FOURS);
        Due.due("cut(4444, 5)", y.cut(4444, 5), 63063000);
        Due.due("cut(2222, 5)", y.cut(2222, 5), 2520 * 2520);
        y.back(3);
        Due.due("cut(4443, 5) behind back()", y.cut(4443, 5), 15765750);
    }

    private static void cutNoComputation() {
        RunCuts x = Due.typed(";");
        for (int what = -1; what <= 6; what++) {
            int asked = what;
            Due.refused(x, "cut(0, " + what + ")", () -> x.cut(0, asked), STATE);
            Due.refused(x, "cut(-1, " + what + ")", () -> x.cut(-1, asked), STATE);
        }
    }

    private static void notCut(String text, int... numbers) {
        RunCuts x = Due.read(text);
        for (int number : numbers) {
            for (int what = -1; what <= 6; what++) {
                int asked = what;
                String call = "cut(" + number + ", " + what + ") of " + text;
                Due.refused(x, call, () -> x.cut(number, asked), UNKNOWN);
            }
        }
    }

    private static void cutNegative() {
        notCut("1;1", -1, -11, -10, Integer.MIN_VALUE);
        notCut(";", -1);
    }

    private static void cutTooManyDigits() {
        notCut("1;1", 100, 101, 111, 1000, 1000000011, Integer.MAX_VALUE);
        notCut("1;1;1", 1000, 1111, 10000);
        notCut("1;1;1;1", 10000, 11111, 100000);
    }

    private static void cutTooGreatADigit() {
        notCut("1;1", 2, 20, 12, 21, 99, 9, 90);
        notCut("1;;11", 10, 11, 3, 200, 212);
        notCut(FOURS, 5, 50, 500, 5000, 4445, 9999);
        notCut("12345678;", 90, 1, 81);
        Due.due("cut(90, 1), nine events", Due.read("123456789;").cut(90, 1), 9);
    }

    private static void cutOutside() {
        RunCuts x = Due.read(MIXED);
        int[] whats = {-1, 6, 7, Integer.MIN_VALUE, Integer.MAX_VALUE};
        for (int what : whats) {
            Due.refused(x, "cut(0, " + what + ")", () -> x.cut(0, what), OUTSIDE);
            Due.refused(x, "cut(10, " + what + "), not consistent", () -> x.cut(10, what), OUTSIDE);
        }
    }

    private static void cutState() {
        RunCuts x = Due.read(MIXED);
        int[] cuts = {10, 20, 30, 110, 120, 131, 11};
        for (int cut : cuts) {
            Due.due("cut(" + cut + ", 0)", x.cut(cut, 0), 0);
            for (int what = 2; what <= 5; what++) {
                int asked = what;
                Due.refused(x, "cut(" + cut + ", " + what + ")", () -> x.cut(cut, asked), STATE);
            }
        }
    }

    private static void values() {
        Sentences.chapter("Promise 13: value");
        Sentences.holds("Returns the value of a process in a cut.", CutPromises::valueRows);
        Sentences.holds("the cut as a number; it need not be consistent", CutPromises::valueNotConsistent);
        Sentences.holds("number of the process", CutPromises::valueProcesses);
        Sentences.holds("Returns the value;", CutPromises::valueRows);
        Sentences.holds("STATE if there is no computation;", CutPromises::valueNoComputation);
        Sentences.holds("UNKNOWN if there is no such cut or process.", CutPromises::valueUnknown);
    }

    private static void valueRows() {
        RunCuts x = Due.read("9!10;?05");
        int[] values = {0, 9, 9, 0};
        for (int n = 0; n <= 3; n++) Due.due("value(" + 10 * n + ", 0)", x.value(10 * n, 0), values[n]);
        Due.due("value(21, 1)", x.value(21, 1), 0);
        Due.due("value(22, 1)", x.value(22, 1), 5);
    }

    private static void valueNotConsistent() {
        RunCuts x = Due.read("!17;?05");
        Due.due("value(2, 1)", x.value(2, 1), 5);
        Due.due("value(2, 0)", x.value(2, 0), 0);
    }

    private static void valueProcesses() {
        RunCuts x = Due.read("1;2;3;4");
        for (int p = 0; p < 4; p++) Due.due("value(1111, " + p + ")", x.value(1111, p), p + 1);
        for (int p = 0; p < 4; p++) Due.due("value(0, " + p + ")", x.value(0, p), 0);
    }

    private static void valueNoComputation() {
        RunCuts x = Due.typed(";");
        Due.refused(x, "value(0, 0)", () -> x.value(0, 0), STATE);
        Due.refused(x, "value(-1, -1)", () -> x.value(-1, -1), STATE);
    }

    private static void valueUnknown() {
        RunCuts x = Due.read(MIXED);
        for (int cut : NO_CUTS) Due.refused(x, "value(" + cut + ", 0)", () -> x.value(cut, 0), UNKNOWN);
        for (int p : NO_PROCESSES) Due.refused(x, "value(331, " + p + ")", () -> x.value(331, p), UNKNOWN);
    }

    private static void unders() {
        Sentences.chapter("Promise 14: under");
        Sentences.holds("Counts the messages that are under way from a process to another one in a cut.",
            CutPromises::underRows);
        Sentences.holds("the cut as a number", CutPromises::underRows);
        Sentences.holds("the process that sends", CutPromises::underProcesses);
        Sentences.holds("the process that receives", CutPromises::underProcesses);
        Sentences.holds("Returns their number;", CutPromises::underRows);
        Sentences.holds("STATE if there is no computation;", CutPromises::underNoComputation);
        Sentences.holds("UNKNOWN if there is no such cut or process,", CutPromises::underUnknown);
        Sentences.holds("or both processes are the same;", CutPromises::underSame);
        Sentences.holds("STATE if the cut is not consistent.", CutPromises::underState);
    }

    private static void underRows() {
        RunCuts x = Due.read("!1!2!1;?0?0!0;");
        int[] cuts = {0, 100, 200, 300, 110, 310, 320, 330};
        int[] toOne = {0, 1, 1, 2, 0, 1, 0, 0};
        int[] toTwo = {0, 0, 1, 1, 0, 1, 1, 1};
        for (int i = 0; i < cuts.length; i++) {
            Due.due("under(" + cuts[i] + ", 0, 1)", x.under(cuts[i], 0, 1), toOne[i]);
            Due.due("under(" + cuts[i] + ", 0, 2)", x.under(cuts[i], 0, 2), toTwo[i]);
            Due.due("under(" + cuts[i] + ", 1, 0)", x.under(cuts[i], 1, 0), cuts[i] == 330 ? 1 : 0);
        }
        Due.due("nine messages", Due.read("!1!1!1!1!1!1!1!1!1;").under(90, 0, 1), 9);
    }

    private static void underProcesses() {
        RunCuts x = Due.read("!1!2!3;!0!2!3;!0!1!3;!0!1!2");
        for (int p = 0; p < 4; p++) {
            for (int q = 0; q < 4; q++) {
                if (p == q) continue;
                Due.due("under(3333, " + p + ", " + q + ")", x.under(3333, p, q), 1);
                Due.due("under(0, " + p + ", " + q + ")", x.under(0, p, q), 0);
            }
        }
    }

    private static void underNoComputation() {
        RunCuts x = Due.typed(";");
        Due.refused(x, "under(0, 0, 1)", () -> x.under(0, 0, 1), STATE);
        Due.refused(x, "under(-1, 0, 0)", () -> x.under(-1, 0, 0), STATE);
    }

    private static void underUnknown() {
        RunCuts x = Due.read(MIXED);
        for (int cut : NO_CUTS) Due.refused(x, "under(" + cut + ", 0, 1)", () -> x.under(cut, 0, 1), UNKNOWN);
        for (int p : NO_PROCESSES) {
            Due.refused(x, "under(331, " + p + ", 0)", () -> x.under(331, p, 0), UNKNOWN);
            Due.refused(x, "under(331, 0, " + p + ")", () -> x.under(331, 0, p), UNKNOWN);
            Due.refused(x, "under(10, 0, " + p + "), not consistent", () -> x.under(10, 0, p), UNKNOWN);
        }
    }

    private static void underSame() {
        RunCuts x = Due.read(MIXED);
        for (int p = 0; p < 3; p++) {
            int process = p;
            Due.refused(x, "under(331, " + p + ", " + p + ")", () -> x.under(331, process, process), UNKNOWN);
            Due.refused(x, "under(10, " + p + ", " + p + ")", () -> x.under(10, process, process), UNKNOWN);
        }
    }

    private static void underState() {
        RunCuts x = Due.read(MIXED);
        int[] cuts = {10, 20, 110, 131};
        for (int cut : cuts) {
            Due.refused(x, "under(" + cut + ", 0, 1)", () -> x.under(cut, 0, 1), STATE);
            Due.refused(x, "under(" + cut + ", 2, 0)", () -> x.under(cut, 2, 0), STATE);
        }
    }

    private static void meets() {
        Sentences.chapter("Promise 15: meet");
        Sentences.holds("Returns the cut that has, for each process, the smaller one of the numbers of its events in"
            + " two cuts.", CutPromises::meetRows);
        Sentences.holds("a cut as a number", CutPromises::meetNumbers);
        Sentences.holds("Returns the cut as a number;", CutPromises::meetRows);
        refusedPairs(false);
    }

    private static void joins() {
        Sentences.chapter("Promise 16: join");
        Sentences.holds("Returns the cut that has, for each process, the greater one of the numbers of its events in"
            + " two cuts.", CutPromises::joinRows);
        Sentences.holds("a cut as a number", CutPromises::joinNumbers);
        Sentences.holds("Returns the cut as a number;", CutPromises::joinRows);
        refusedPairs(true);
    }

    private static void refusedPairs(boolean join) {
        Sentences.holds("STATE if there is no computation;", () -> pairNoComputation(join));
        Sentences.holds("UNKNOWN if there is no such cut;", () -> pairUnknown(join));
        Sentences.holds("STATE if one of them is not consistent.", () -> pairState(join));
    }

    private static void meetRows() {
        RunCuts x = Due.read(MIXED);
        Due.due("meet(300, 211)", x.meet(300, 211), 200);
        Due.due("meet(211, 300)", x.meet(211, 300), 200);
        Due.due("meet(1, 100)", x.meet(1, 100), 0);
        Due.due("meet(331, 331)", x.meet(331, 331), 331);
        Due.due("meet(0, 331)", x.meet(0, 331), 0);
        Due.due("meet(0, 0)", Due.read(";").meet(0, 0), 0);
    }

    private static void meetNumbers() {
        RunCuts x = Due.read(FOURS);
        Due.due("meet(1234, 4321)", x.meet(1234, 4321), 1221);
        Due.due("meet(40, 4004)", x.meet(40, 4004), 0);
        Due.due("meet(4444, 44)", x.meet(4444, 44), 44);
        Due.due("meet(97, 75)", Due.read("123456789;1234567").meet(97, 75), 75);
    }

    private static void joinRows() {
        RunCuts x = Due.read(MIXED);
        Due.due("join(300, 211)", x.join(300, 211), 311);
        Due.due("join(211, 300)", x.join(211, 300), 311);
        Due.due("join(1, 100)", x.join(1, 100), 101);
        Due.due("join(331, 331)", x.join(331, 331), 331);
        Due.due("join(0, 331)", x.join(0, 331), 331);
        Due.due("join(0, 0)", Due.read(";").join(0, 0), 0);
    }

    private static void joinNumbers() {
        RunCuts x = Due.read(FOURS);
        Due.due("join(1234, 4321)", x.join(1234, 4321), 4334);
        Due.due("join(40, 4004)", x.join(40, 4004), 4044);
        Due.due("join(4400, 44)", x.join(4400, 44), 4444);
        Due.due("join(90, 7)", Due.read("123456789;1234567").join(90, 7), 97);
    }

    private static void refusedPair(RunCuts x, boolean join, int one, int other, int want) {
        String call = (join ? "join(" : "meet(") + one + ", " + other + ")";
        Due.refused(x, call, () -> join ? x.join(one, other) : x.meet(one, other), want);
    }

    private static void pairNoComputation(boolean join) {
        RunCuts x = Due.typed(";");
        refusedPair(x, join, 0, 0, STATE);
        refusedPair(x, join, -1, 1, STATE);
    }

    private static void pairUnknown(boolean join) {
        RunCuts x = Due.read(MIXED);
        for (int cut : NO_CUTS) {
            refusedPair(x, join, cut, 0, UNKNOWN);
            refusedPair(x, join, 0, cut, UNKNOWN);
            refusedPair(x, join, 10, cut, UNKNOWN);
            refusedPair(x, join, cut, 10, UNKNOWN);
        }
    }

    private static void pairState(boolean join) {
        RunCuts x = Due.read(MIXED);
        refusedPair(x, join, 10, 0, STATE);
        refusedPair(x, join, 0, 10, STATE);
        refusedPair(x, join, 10, 10, STATE);
        refusedPair(x, join, 331, 131, STATE);
        refusedPair(x, join, 131, 331, STATE);
    }

    private static void lattices() {
        Sentences.chapter("Promise 17: lattice");
        Sentences.holds("Returns a property of the lattice of all consistent cuts.", CutPromises::latticeRows);
        Sentences.holds("0: the number of cuts;", CutPromises::latticeSizes);
        Sentences.holds("1: the number of cuts of the level that has most of them;", CutPromises::latticeWidths);
        Sentences.holds("2: this level, of several the lowest one;", CutPromises::latticeLowestOfSeveral);
        Sentences.holds("3: the number of paths;", CutPromises::latticePaths);
        Sentences.holds("4: the level of the cut with all events", CutPromises::latticeTops);
        Sentences.holds("Returns the property;", CutPromises::latticeRows);
        Sentences.holds("OUTSIDE if what is not 0 to 4;", CutPromises::latticeOutside);
        Sentences.holds("STATE if there is no computation.", CutPromises::latticeNoComputation);
    }

    private static void lattice(String text, int... wants) {
        RunCuts x = Due.read(text);
        for (int what = 0; what < wants.length; what++) {
            Due.due("lattice(" + what + ") of " + text, x.lattice(what), wants[what]);
        }
    }

    private static void latticeRows() {
        lattice(MIXED, 20, 4, 4, 28, 7);
        lattice(FOURS, 625, 85, 8, 63063000, 16);
        lattice(";", 1, 1, 0, 1, 0);
    }

    private static void latticeAnswer(String text, int what, int want) {
        Due.due("lattice(" + what + ") of " + text, Due.read(text).lattice(what), want);
    }

    private static void latticeSizes() {
        latticeAnswer(";;;", 0, 1);
        latticeAnswer("123456789;", 0, 10);
        latticeAnswer("123456789;1234567", 0, 80);
        latticeAnswer("12345;12345;123456", 0, 252);
        latticeAnswer("!1;?0", 0, 3);
        latticeAnswer("!1?1;?0!0", 0, 5);
        latticeAnswer("!1?1;!0?0", 0, 7);
    }

    private static void latticeWidths() {
        latticeAnswer("123456789;", 1, 1);
        latticeAnswer("1;2", 1, 2);
        latticeAnswer("1;2;3", 1, 3);
        latticeAnswer("1;2;3;4", 1, 6);
        latticeAnswer("123456789;1234567", 1, 8);
    }

    private static void latticeLowestOfSeveral() {
        latticeAnswer("1;2;3", 2, 1);
        latticeAnswer("123;4", 2, 1);
        latticeAnswer("123456789;1234567", 2, 7);
        latticeAnswer("!1;?0", 2, 0);
        latticeAnswer("1;2;3;4", 2, 2);
        latticeAnswer("!15;?06", 2, 2);
    }

    private static void latticePaths() {
        latticeAnswer(";", 3, 1);
        latticeAnswer("123456789;", 3, 1);
        latticeAnswer("12;34", 3, 6);
        latticeAnswer("123456789;1234567", 3, 11440);
        latticeAnswer("!1?1;!0?0", 3, 4);
    }

    private static void latticeTops() {
        latticeAnswer(";;;", 4, 0);
        latticeAnswer("1;", 4, 1);
        latticeAnswer("123456789;1234567", 4, 16);
    }

    private static void latticeOutside() {
        RunCuts x = Due.read(MIXED);
        RunCuts y = new RunCuts();
        int[] whats = {-1, 5, 6, Integer.MIN_VALUE, Integer.MAX_VALUE};
        for (int what : whats) {
            Due.refused(x, "lattice(" + what + ")", () -> x.lattice(what), OUTSIDE);
            Due.refused(y, "lattice(" + what + "), no computation", () -> y.lattice(what), OUTSIDE);
        }
    }

    private static void latticeNoComputation() {
        RunCuts x = Due.typed(";");
        for (int what = 0; what <= 4; what++) {
            int asked = what;
            Due.refused(x, "lattice(" + what + ")", () -> x.lattice(asked), STATE);
        }
    }

    private static void levels() {
        Sentences.chapter("Promise 18: level");
        Sentences.holds("Returns one of the consistent cuts of a level.", CutPromises::levelConsistent);
        Sentences.holds("the level", CutPromises::levelNumbers);
        Sentences.holds("index of the cut, from 0, in ascending order of their numbers", CutPromises::levelPlaces);
        Sentences.holds("Returns the cut as a number;", CutPromises::levelPlaces);
        Sentences.holds("STATE if there is no computation;", CutPromises::levelNoComputation);
        Sentences.holds("UNKNOWN if there is no such level or index.", CutPromises::levelUnknown);
    }

    private static void level(RunCuts x, int level, int... wants) {
        for (int place = 0; place < wants.length; place++) {
            Due.due("level(" + level + ", " + place + ")", x.level(level, place), wants[place]);
        }
        Due.due("level(" + level + ", " + wants.length + ")", x.level(level, wants.length), UNKNOWN);
    }

    private static void levelConsistent() {
        RunCuts x = Due.read("?1;!0;5");
        level(x, 0, 0);
        level(x, 1, 1, 10);
        level(x, 2, 11, 110);
        level(x, 3, 111);
        level(x, 4);
    }

    private static void levelNumbers() {
        RunCuts x = Due.read("123456789;1234567");
        level(x, 0, 0);
        level(x, 16, 97);
        level(x, 15, 87, 96);
        level(x, 17);
        level(Due.read(";"), 0, 0);
        level(Due.read(";"), 1);
    }

    private static void levelPlaces() {
        RunCuts x = Due.read("12;34");
        level(x, 1, 1, 10);
        level(x, 2, 2, 11, 20);
        level(x, 3, 12, 21);
        level(Due.read("1;2;3;4"), 2, 11, 101, 110, 1001, 1010, 1100);
        RunCuts y = Due.read(FOURS);
        Due.due("level(8, 84)", y.level(8, 84), 4400);
        Due.due("level(8, 85)", y.level(8, 85), UNKNOWN);
    }

    private static void levelNoComputation() {
        RunCuts x = Due.typed(";");
        Due.refused(x, "level(0, 0)", () -> x.level(0, 0), STATE);
        Due.refused(x, "level(-1, -1)", () -> x.level(-1, -1), STATE);
    }

    private static void levelUnknown() {
        RunCuts x = Due.read(MIXED);
        int[] levels = {-1, 8, 9, 16, 17, 18, Integer.MIN_VALUE, Integer.MAX_VALUE};
        for (int level : levels) Due.refused(x, "level(" + level + ", 0)", () -> x.level(level, 0), UNKNOWN);
        int[] places = {-1, 4, 5, 1000, Integer.MIN_VALUE, Integer.MAX_VALUE};
        for (int place : places) Due.refused(x, "level(4, " + place + ")", () -> x.level(4, place), UNKNOWN);
        Due.refused(x, "level(7, 1)", () -> x.level(7, 1), UNKNOWN);
        Due.due("level(4, 3)", x.level(4, 3), 310);
    }
}
