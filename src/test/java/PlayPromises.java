import java.math.BigInteger;

/** Promises 27 to 32, sentence by sentence. */
final class PlayPromises {
    private static final int NONE = RunCuts.NONE, UNKNOWN = RunCuts.UNKNOWN, OUTSIDE = RunCuts.OUTSIDE;
    private static final int STATE = RunCuts.STATE;
    private static final String MIXED = "1!12;?03!0;7";

    private PlayPromises() {
    }

    static void test() {
        plays();
        playedSteps();
        shotCalls();
        shotProperties();
        counts();
        digests();
    }

    private static void plays() {
        Sentences.chapter("Promise 27: play");
        Sentences.holds("Plays the computation, in place of an earlier play.", PlayPromises::playReplaces);
        Sentences.holds("The snapshot is removed.", PlayPromises::playRemovesSnapshot);
        Sentences.holds("the seed, 0 or greater", PlayPromises::playSeeds);
        Sentences.holds("Returns the number of events;", PlayPromises::playReturns);
        Sentences.holds("STATE if there is no computation;", PlayPromises::playNoComputation);
        Sentences.holds("OUTSIDE if seed is negative.", PlayPromises::playOutside);
    }

    private static void steps(RunCuts x, int... wants) {
        for (int step = 0; step < wants.length; step++) {
            Due.due("played(" + step + ")", x.played(step), wants[step]);
        }
        Due.due("played(" + wants.length + ")", x.played(wants.length), UNKNOWN);
    }

    private static void playReplaces() {
        RunCuts x = Due.read("1;2;3");
        x.play(1);
        steps(x, 2, 0, 1);
        x.play(0);
        steps(x, 0, 1, 2);
        x.play(1);
        steps(x, 2, 0, 1);
    }

    private static void playRemovesSnapshot() {
        RunCuts x = Due.read("1;2");
        x.play(0);
        x.shot(0, 1);
        Due.due("shots(0)", x.shots(0), 10);
        x.play(0);
        Due.due("shots(0) behind the same play", x.shots(0), STATE);
        Due.due("count(7)", x.count(7), 1);
        Due.due("shot(0, 1)", x.shot(0, 1), 10);
        x.play(-1);
        Due.due("shots(0) behind a play that is refused", x.shots(0), 10);
    }

    private static void playSeeds() {
        RunCuts x = Due.read("1;2");
        int[] seeds = {0, 1, 2, 65536, Integer.MAX_VALUE - 1, Integer.MAX_VALUE};
        for (int seed : seeds) Due.due("play(" + seed + ")", x.play(seed), 2);
        steps(x, 1, 0);
    }

    private static void playReturns() {
        Due.due("play(0), no events", Due.read(";").play(0), 0);
        Due.due("play(5), no events", Due.read(";").play(5), 0);
        Due.due("play(0), one event", Due.read(";1").play(0), 1);
        Due.due("play(0), sixteen events", Due.read("!1!1!1!1!1!1!1!1!1;?0?0?0?0?0?0?0").play(0), 16);
        Due.due("play(9), sixteen events", Due.read("1234;1234;1234;1234").play(9), 16);
    }

    private static void playNoComputation() {
        RunCuts x = Due.typed(";");
        int[] seeds = {0, 1, -1, Integer.MIN_VALUE, Integer.MAX_VALUE};
        for (int seed : seeds) Due.refused(x, "play(" + seed + ")", () -> x.play(seed), STATE);
    }

    private static void playOutside() {
        RunCuts x = Due.read("1;2");
        x.play(1);
        x.shot(1, 2);
        int[] seeds = {-1, -2, Integer.MIN_VALUE};
        for (int seed : seeds) Due.refused(x, "play(" + seed + ")", () -> x.play(seed), OUTSIDE);
        steps(x, 0, 1);
    }

    private static void playedSteps() {
        Sentences.chapter("Promise 28: played");
        Sentences.holds("Returns a step of the play.", PlayPromises::playedProcesses);
        Sentences.holds("index of the step, from 0", PlayPromises::playedIndexes);
        Sentences.holds("Returns the process whose event comes at this step;", PlayPromises::playedProcesses);
        Sentences.holds("UNKNOWN if there is no such step,", PlayPromises::playedUnknown);
        Sentences.holds("or no play.", PlayPromises::playedNoPlay);
    }

    private static void playedProcesses() {
        RunCuts x = Due.read("?3;5;?3;!0!2");
        x.play(0);
        steps(x, 1, 3, 0, 3, 2);
    }

    private static void playedIndexes() {
        RunCuts x = Due.read("123456789;1234567");
        x.play(0);
        steps(x, 0, 0, 0, 0, 0, 0, 0, 0, 0, 1, 1, 1, 1, 1, 1, 1);
    }

    private static void playedUnknown() {
        RunCuts x = Due.read("1;2");
        x.play(0);
        int[] numbers = {-1, 2, 3, 15, 16, 17, Integer.MIN_VALUE, Integer.MAX_VALUE};
        for (int step : numbers) Due.refused(x, "played(" + step + ")", () -> x.played(step), UNKNOWN);
        RunCuts y = Due.read(";");
        y.play(0);
        Due.refused(y, "played(0), no events", () -> y.played(0), UNKNOWN);
    }

    private static void playedNoPlay() {
        RunCuts x = Due.typed("1;2");
        for (int step = -1; step <= 2; step++) {
            int asked = step;
            Due.refused(x, "played(" + step + "), no computation", () -> x.played(asked), UNKNOWN);
        }
        x.run();
        Due.refused(x, "played(0), not played", () -> x.played(0), UNKNOWN);
        x.play(0);
        x.local(0, 1);
        Due.refused(x, "played(0), the play is removed", () -> x.played(0), UNKNOWN);
    }

    private static void shotCalls() {
        Sentences.chapter("Promise 29: shot");
        Sentences.holds("Takes a snapshot, in place of an earlier one.", PlayPromises::shotReplaces);
        Sentences.holds("the process that begins it", PlayPromises::shotProcesses);
        Sentences.holds("after how many events of the play, 0 to their number", PlayPromises::shotTimes);
        Sentences.holds("Returns the cut as a number;", PlayPromises::shotReturns);
        Sentences.holds("STATE if there is no play;", PlayPromises::shotNoPlay);
        Sentences.holds("UNKNOWN if there is no such process;", PlayPromises::shotUnknown);
        Sentences.holds("OUTSIDE if t is out of range.", PlayPromises::shotOutside);
    }

    private static RunCuts played(String text) {
        RunCuts x = Due.read(text);
        x.play(0);
        return x;
    }

    private static void shotReplaces() {
        RunCuts x = played("!1;2");
        x.shot(0, 1);
        Due.due("shots(0)", x.shots(0), 11);
        Due.due("shots(1)", x.shots(1), 1);
        Due.due("shots(2)", x.shots(2), 2);
        x.shot(0, 0);
        Due.due("shots(0) of the second one", x.shots(0), 0);
        Due.due("shots(1) of the second one", x.shots(1), 0);
        Due.due("shots(2) of the second one", x.shots(2), 0);
        Due.due("shot(0, 1), the first one again", x.shot(0, 1), 11);
        Due.due("shots(1) of the first one again", x.shots(1), 1);
    }

    private static void shotProcesses() {
        RunCuts x = played("!1;!2;!3;!0");
        for (int p = 0; p < 4; p++) {
            Due.due("shot(" + p + ", 4)", x.shot(p, 4), 1111);
            Due.due("shots(1) of process " + p, x.shots(1), 4);
        }
        RunCuts y = played("!1;?0");
        Due.due("shot(0, 1)", y.shot(0, 1), 11);
        Due.due("shot(1, 1)", y.shot(1, 1), 10);
    }

    private static void shotTimes() {
        RunCuts x = played("123456789;1234567");
        for (int t = 0; t <= 16; t++) {
            int want = t <= 9 ? 10 * t : 90 + t - 9;
            Due.due("shot(1, " + t + ")", x.shot(1, t), want);
            Due.due("shots(2) of shot(1, " + t + ")", x.shots(2), t);
        }
        Due.due("shot(0, 0), no events", played(";").shot(0, 0), 0);
    }

    private static void shotReturns() {
        RunCuts x = played("!1!15;?0?06");
        int[] wants = {0, 11, 22, 32, 32, 32, 33};
        for (int t = 0; t <= 6; t++) Due.due("shot(0, " + t + ")", x.shot(0, t), wants[t]);
        Due.due("shot(0, 0), leading zeros", played(";;;1").shot(0, 1), 1);
    }

    private static void shotNoPlay() {
        RunCuts x = Due.typed("1;2");
        Due.refused(x, "shot(0, 0), no computation", () -> x.shot(0, 0), STATE);
        x.run();
        Due.refused(x, "shot(0, 0), not played", () -> x.shot(0, 0), STATE);
        Due.refused(x, "shot(2, 3), not played", () -> x.shot(2, 3), STATE);
        Due.refused(x, "shot(-1, -1), not played", () -> x.shot(-1, -1), STATE);
        x.play(0);
        Due.due("shot(0, 0), played", x.shot(0, 0), 0);
    }

    private static void shotUnknown() {
        RunCuts x = played("1;2");
        x.shot(1, 1);
        int[] numbers = {-1, 2, 3, 4, Integer.MIN_VALUE, Integer.MAX_VALUE};
        for (int p : numbers) {
            Due.refused(x, "shot(" + p + ", 0)", () -> x.shot(p, 0), UNKNOWN);
            Due.refused(x, "shot(" + p + ", 3)", () -> x.shot(p, 3), UNKNOWN);
            Due.refused(x, "shot(" + p + ", -1)", () -> x.shot(p, -1), UNKNOWN);
        }
    }

    private static void shotOutside() {
        RunCuts x = played("1;2");
        x.shot(1, 1);
        int[] numbers = {-1, 3, 4, 16, 17, Integer.MIN_VALUE, Integer.MAX_VALUE};
        for (int t : numbers) Due.refused(x, "shot(0, " + t + ")", () -> x.shot(0, t), OUTSIDE);
        Due.due("shots(0) as before", x.shots(0), 10);
        RunCuts y = played(";");
        Due.refused(y, "shot(0, 1), no events", () -> y.shot(0, 1), OUTSIDE);
    }

    private static void shotProperties() {
        Sentences.chapter("Promise 30: shots");
        Sentences.holds("Returns a property of the latest snapshot.", PlayPromises::shotsLatest);
        Sentences.holds("0: the cut as a number;", PlayPromises::shotsCuts);
        Sentences.holds("1: how many markers were forced;", PlayPromises::shotsForced);
        Sentences.holds("2: how many events had come when the last process noted", PlayPromises::shotsLast);
        Sentences.holds("Returns the property;", PlayPromises::shotsLatest);
        Sentences.holds("OUTSIDE if what is not 0 to 2;", PlayPromises::shotsOutside);
        Sentences.holds("STATE if there is no snapshot.", PlayPromises::shotsNoSnapshot);
    }

    private static void shots(String text, int p, int t, int... wants) {
        RunCuts x = played(text);
        x.shot(p, t);
        for (int what = 0; what < wants.length; what++) {
            String call = "shots(" + what + ") of shot(" + p + ", " + t + ") of " + text;
            Due.due(call, x.shots(what), wants[what]);
        }
    }

    private static void shotsLatest() {
        RunCuts x = played("!1;?0");
        x.shot(0, 1);
        x.shot(1, 0);
        Due.due("shots(0)", x.shots(0), 0);
        x.shot(2, 0);
        x.shot(0, 3);
        Due.due("shots(0) behind shots that are refused", x.shots(0), 0);
        x.wish(1, 1);
        x.allow(0, 1);
        x.letter('1');
        Due.due("shots(2) behind calls that do not change events", x.shots(2), 0);
        Due.due("shot(1, 2)", x.shot(1, 2), 11);
        Due.due("shots(0) of the latest", x.shots(0), 11);
    }

    private static void shotsCuts() {
        shots(";", 0, 0, 0);
        shots("1;2;3;4", 0, 4, 1111);
        shots("123456789;1234567", 0, 16, 97);
    }

    private static void shotsForced() {
        shots("!1;?0", 0, 1, 11, 0);
        shots("!1;", 0, 0, 0, 0);
        shots("!1;", 0, 1, 10, 1);
        shots("!1!1!1;?0", 0, 3, 31, 1);
        shots("!1;!0", 0, 2, 11, 2);
        shots("!1!2!3;!0!2!3;!0!1!3;!0!1!2", 2, 12, 3333, 12);
    }

    private static void shotsLast() {
        shots("12;34", 0, 0, 0, 0, 0);
        shots("12;34", 0, 3, 21, 0, 3);
        shots("!12;3?0", 0, 1, 12, 0, 4);
        shots("!12;3", 0, 1, 11, 1, 3);
        shots("!12;3", 1, 1, 10, 1, 1);
        shots("12;34", 1, 4, 22, 0, 4);
    }

    private static void shotsOutside() {
        RunCuts x = played("1;2");
        RunCuts y = new RunCuts();
        int[] whats = {-1, 3, 4, Integer.MIN_VALUE, Integer.MAX_VALUE};
        for (int what : whats) {
            Due.refused(x, "shots(" + what + "), no snapshot", () -> x.shots(what), OUTSIDE);
            Due.refused(y, "shots(" + what + "), no computation", () -> y.shots(what), OUTSIDE);
        }
        x.shot(0, 0);
        for (int what : whats) Due.refused(x, "shots(" + what + ")", () -> x.shots(what), OUTSIDE);
    }

    private static void shotsNoSnapshot() {
        RunCuts x = Due.typed("1;2");
        for (int what = 0; what <= 2; what++) {
            int asked = what;
            Due.refused(x, "shots(" + what + "), no computation", () -> x.shots(asked), STATE);
        }
        x.run();
        Due.refused(x, "shots(0), no play", () -> x.shots(0), STATE);
        x.play(0);
        Due.refused(x, "shots(0), no snapshot", () -> x.shots(0), STATE);
        x.shot(0, 5);
        Due.refused(x, "shots(0), the snapshot was refused", () -> x.shots(0), STATE);
        x.shot(0, 0);
        x.back(1);
        Due.refused(x, "shots(0), the snapshot is removed", () -> x.shots(0), STATE);
    }

    private static void counts() {
        Sentences.chapter("Promise 31: count");
        Sentences.holds("Returns a number.", PlayPromises::countRows);
        Sentences.holds("0: processes; 1: events; 2: local events; 3: sends; 4: receives", PlayPromises::countEvents);
        Sentences.holds("(0 to 4: 0 without a computation);", PlayPromises::countNoComputation);
        Sentences.holds("5: characters of the page;", PlayPromises::countCharacters);
        Sentences.holds("6: how often a computation has been read;", PlayPromises::countReadings);
        Sentences.holds("7: how often a snapshot has been taken", PlayPromises::countSnapshots);
        Sentences.holds("Returns the number;", PlayPromises::countRows);
        Sentences.holds("OUTSIDE if what is not 0 to 7.", PlayPromises::countOutside);
    }

    private static void counts(RunCuts x, String when, int... wants) {
        for (int what = 0; what < wants.length; what++) {
            Due.due("count(" + what + ") " + when, x.count(what), wants[what]);
        }
    }

    private static void countRows() {
        RunCuts x = played("12!1!1;?0;");
        x.shot(0, 2);
        x.letter('x');
        counts(x, "of all", 3, 5, 2, 2, 1, 1, 1, 1);
    }

    private static void countEvents() {
        counts(Due.read(";"), "of nothing", 2, 0, 0, 0, 0);
        counts(Due.read("123456789;1234567"), "of local events", 2, 16, 16, 0, 0);
        counts(Due.read("!1!1!1!1!1!1!1!1!1;?0?0?0?0?0?0?0"), "of messages", 2, 16, 0, 9, 7);
        RunCuts x = Due.read(";;;!0");
        x.receive(0, 3);
        x.local(0, 0);
        counts(x, "of added events", 4, 3, 1, 1, 1);
        x.back(0);
        x.back(0);
        x.back(3);
        counts(x, "of removed events", 4, 0, 0, 0, 0);
    }

    private static void countNoComputation() {
        RunCuts x = Due.typed("1!1;?0");
        counts(x, "before run()", 0, 0, 0, 0, 0, 6, 0, 0);
        RunCuts y = Due.typed("1!1;?1");
        y.run();
        counts(y, "behind a refused run()", 0, 0, 0, 0, 0, 6, 0, 0);
    }

    private static void countCharacters() {
        RunCuts x = new RunCuts();
        for (int i = 0; i <= 38; i++) {
            Due.due("count(5) behind " + i + " letters", x.count(5), Math.min(i, 36));
            x.letter('5');
        }
        x.blank();
        Due.due("count(5) behind blank()", x.count(5), 0);
    }

    private static void countReadings() {
        RunCuts x = new RunCuts();
        for (int i = 0; i < 3; i++) {
            Due.type(x, "1;2");
            x.run();
            Due.due("count(6)", x.count(6), i + 1);
            x.run();
            Due.due("count(6) behind a refused run()", x.count(6), i + 1);
        }
    }

    private static void countSnapshots() {
        RunCuts x = played("1;2");
        x.shot(0, 0);
        x.shot(0, 0);
        x.shot(2, 0);
        x.shot(0, 3);
        Due.due("count(7), two of four", x.count(7), 2);
        x.play(0);
        x.local(0, 1);
        x.shot(0, 0);
        Due.due("count(7) behind what removes the snapshot", x.count(7), 2);
        Due.type(x, ";");
        x.run();
        x.play(0);
        x.shot(0, 0);
        Due.due("count(7) of two computations", x.count(7), 3);
    }

    private static void countOutside() {
        RunCuts x = Due.typed("1;2");
        int[] whats = {-1, 8, 9, Integer.MIN_VALUE, Integer.MAX_VALUE};
        for (int what : whats) Due.refused(x, "count(" + what + ")", () -> x.count(what), OUTSIDE);
        x.run();
        for (int what : whats) Due.refused(x, "count(" + what + ") behind run()", () -> x.count(what), OUTSIDE);
    }

    private static void digests() {
        Sentences.chapter("Promise 32: digest");
        Sentences.holds("Returns a hash of the state. It starts with h = 1549;", PlayPromises::digestOfNothing);
        Sentences.holds("for each of the following numbers v, in order, h becomes 31 * h + v",
            PlayPromises::digestInOrder);
        Sentences.holds("(long arithmetic that wraps).", PlayPromises::digestWraps);
        Sentences.holds("If there is a computation: for each event, process by process, the results of event() for 0"
            + " to 6;", PlayPromises::digestFolds);
        Sentences.holds("lattice() for 0 to 4; for each consistent cut, level by level and in ascending order of the"
            + " numbers, its number and the results of cut() for 2 to 5;", PlayPromises::digestFolds);
        Sentences.holds("wished() for 0 to 3; all steps of the avoiding path, if there is one;",
            PlayPromises::digestOfAvoidingPath);
        Sentences.holds("if the kind of the predicate is 0, least(), strong(), for each process for each of its"
            + " intervals f and t, and lean() for 0 to 3.", PlayPromises::digestOfKinds);
        Sentences.holds("Then all steps of the play;", PlayPromises::digestOfPlays);
        Sentences.holds("if there is a snapshot, the results of shots() for 0 to 2;",
            PlayPromises::digestOfSnapshots);
        Sentences.holds("the codes of the characters of the page;", PlayPromises::digestOfPages);
        Sentences.holds("the results of count() for 0 to 7.", PlayPromises::digestOfNothing);
        Sentences.holds("Returns h.", PlayPromises::digestFolds);
    }

    private static long fold(long... told) {
        long h = 1549;
        for (long v : told) h = 31 * h + v;
        return h;
    }

    /** The digest as the document tells it, from what the other calls answer. */
    private static long folded(RunCuts x) {
        Fold fold = new Fold();
        int processes = x.count(0);
        if (processes > 0) {
            for (int p = 0; p < processes; p++) {
                for (int e = 0; x.event(p, e, 0) != UNKNOWN; e++) {
                    for (int what = 0; what <= 6; what++) fold.add(x.event(p, e, what));
                }
            }
            for (int what = 0; what <= 4; what++) fold.add(x.lattice(what));
            for (int level = 0; level <= x.count(1); level++) {
                for (int place = 0; x.level(level, place) != UNKNOWN; place++) {
                    int cut = x.level(level, place);
                    fold.add(cut);
                    for (int what = 2; what <= 5; what++) fold.add(x.cut(cut, what));
                }
            }
            for (int what = 0; what <= 3; what++) fold.add(x.wished(what));
            for (int step = 0; x.around(step) != UNKNOWN; step++) fold.add(x.around(step));
            if (x.least() != STATE) foldConjunction(x, processes, fold);
        }
        for (int step = 0; x.played(step) != UNKNOWN; step++) fold.add(x.played(step));
        for (int what = 0; what <= 2 && x.shots(0) != STATE; what++) fold.add(x.shots(what));
        return fold.h;
    }

    private static void foldConjunction(RunCuts x, int processes, Fold fold) {
        fold.add(x.least());
        fold.add(x.strong());
        for (int p = 0; p < processes; p++) {
            for (int i = 0; x.interval(p, i, 0) != UNKNOWN; i++) {
                fold.add(x.interval(p, i, 0));
                fold.add(x.interval(p, i, 1));
            }
        }
        for (int what = 0; what <= 3; what++) fold.add(x.lean(what));
    }

    private static final class Fold {
        long h = 1549;

        void add(long v) {
            h = 31 * h + v;
        }
    }

    private static void digest(String of, RunCuts x, String page) {
        Due.type(x, page);
        Fold fold = new Fold();
        fold.h = folded(x);
        for (char c : page.toCharArray()) fold.add(c);
        for (int what = 0; what <= 7; what++) fold.add(x.count(what));
        Due.due("digest() of " + of, x.digest(), fold.h);
        Due.due("digest() again of " + of, x.digest(), fold.h);
    }

    private static void digestOfNothing() {
        Due.due("digest() of nothing", new RunCuts().digest(), fold(0, 0, 0, 0, 0, 0, 0, 0));
        Due.due("digest() of nothing, by hand", new RunCuts().digest(), 1549L * 852891037441L);
    }

    private static void digestInOrder() {
        Due.due("digest() of ab", Due.typed("ab").digest(), fold('a', 'b', 0, 0, 0, 0, 0, 2, 0, 0));
        Due.due("digest() of ba", Due.typed("ba").digest(), fold('b', 'a', 0, 0, 0, 0, 0, 2, 0, 0));
    }

    private static void digestWraps() {
        String page = "~~~~~~~~~~~~~~~~~~~~~~~~~~~~~~~~~~~~";
        BigInteger h = BigInteger.valueOf(1549);
        BigInteger base = BigInteger.valueOf(31);
        for (int i = 0; i < 36; i++) h = h.multiply(base).add(BigInteger.valueOf('~'));
        int[] counts = {0, 0, 0, 0, 0, 36, 0, 0};
        for (int v : counts) h = h.multiply(base).add(BigInteger.valueOf(v));
        Due.due("bits of the sum that does not wrap above 64", h.bitLength() > 64 ? 1 : 0, 1);
        Due.due("digest() of a full page", Due.typed(page).digest(), h.longValue());
    }

    private static void digestFolds() {
        String[] texts = {";", ";;;", MIXED, "!1?1;!0?0", "1;2;3;4", "12!1;?0!2;?1!3;?2", "?1;5!0;;6!2"};
        for (String text : texts) {
            digest(text, Due.read(text), "");
            RunCuts x = Due.read(text);
            x.allow(0, 1 << 0 | 1 << 2);
            x.allow(1, 1 << 0 | 1 << 3);
            digest("conjunction of " + text, x, "?");
        }
    }

    private static void digestOfAvoidingPath() {
        RunCuts x = Due.read("14;35");
        x.wish(1, 4);
        digest("a sum with a path round it", x, "");
        x.wish(1, 0);
        digest("a sum without a path round it", x, "");
        x.wish(1, 36);
        digest("a sum that never comes", x, "");
        RunCuts y = Due.read(";");
        y.wish(1, 1);
        digest("a path without steps", y, "");
    }

    private static void digestOfKinds() {
        for (int kind = 0; kind <= 3; kind++) {
            RunCuts x = Due.read("1!12;?03");
            x.allow(0, 1 << 1);
            x.wish(kind, 3);
            digest("kind " + kind, x, "a");
        }
        RunCuts y = Due.read("101;");
        y.allow(0, 1 << 0);
        y.allow(1, 0);
        digest("two intervals and none", y, "");
        RunCuts z = Due.read("1;2;3;4");
        z.allow(3, 1 << 4);
        digest("four processes", z, "");
    }

    private static void digestOfPlays() {
        RunCuts x = Due.read("1;2;3;4");
        x.play(0);
        long before = x.digest();
        digest("a play", x, "");
        x.play(1);
        digest("another play", x, "");
        Due.due("digests of two plays that are the same", x.digest() == before ? 1 : 0, 0);
        RunCuts y = Due.read(";");
        long none = y.digest();
        y.play(0);
        Due.due("digest() of a play without events", y.digest(), none);
    }

    private static void digestOfSnapshots() {
        RunCuts x = played("!1;2");
        x.shot(0, 1);
        digest("a snapshot", x, "x");
        x.blank();
        x.shot(0, 0);
        digest("another snapshot", x, "");
        x.play(0);
        Due.due("shots(0)", x.shots(0), STATE);
        digest("a snapshot that is removed", x, "");
    }

    private static void digestOfPages() {
        RunCuts x = new RunCuts();
        long empty = x.digest();
        digest("a full page without a computation", x, " ~!?;0123456789abcdefghijklmnopqrstu");
        x.blank();
        Due.due("digest() behind blank()", x.digest(), empty);
        digest("a page and a computation", Due.read("!1;?0"), "?0;!1");
    }
}
