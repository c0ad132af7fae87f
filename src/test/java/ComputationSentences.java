/** The document's chapters "Computations" and "Cuts". */
final class ComputationSentences {
    private static final int UNKNOWN = RunCuts.UNKNOWN, STATE = RunCuts.STATE, FULL = RunCuts.FULL;
    private static final int NONE = RunCuts.NONE;

    private ComputationSentences() {
    }

    static void test() {
        computations();
        cuts();
    }

    private static void computations() {
        Sentences.chapter("Computations");
        Sentences.holds("A computation (run) has 2 to 4 processes,", ComputationSentences::twoToFourProcesses);
        Sentences.holds("numbered from 0, each with a sequence of events, numbered from 0;",
            ComputationSentences::numbersFromZero);
        Sentences.holds("there are at most 9 events of one process,", ComputationSentences::nineOfOne);
        Sentences.holds("and at most 16 of all.", ComputationSentences::sixteenOfAll);
        Sentences.holds("The kinds of events are 0 local (the value of the process becomes a number from 0 to 9;",
            ComputationSentences::localEvents);
        Sentences.holds("it is 0 before any local event),", ComputationSentences::zeroBeforeAnyLocalEvent);
        Sentences.holds("1 send (of a message to another process), 2 receive (of a message from another process).",
            ComputationSentences::sendsAndReceives);
        Sentences.holds("The partner of the k-th receive of process q from process p is the k-th send of p to q,"
            + " and vice versa;", ComputationSentences::partners);
        Sentences.holds("a send can be without a partner.", ComputationSentences::sendWithoutPartner);
        Sentences.holds("There must be an order of all events in which the events of each process are in their"
            + " order, and each receive has a partner and comes after it.", ComputationSentences::orderOfAll);
        Sentences.holds("An event is before another one if it comes before it in every such order.",
            ComputationSentences::before);
        Sentences.holds("The vector of an event tells, for each process, how many of its events are before this"
            + " event, or are this event.", ComputationSentences::vectors);
        Sentences.holds("A computation is read from the page, a text of at most 36 characters (codes 32 to 126):",
            ComputationSentences::pageOfThirtySix);
        Sentences.holds("the processes in order, with \";\" between them, and for each process its events without"
            + " separators:", ComputationSentences::separators);
        Sentences.holds("a digit from 0 to 9 for a local event with this value, \"!\" and a digit from 0 to 3 for"
            + " a send to this process, \"?\" and a digit from 0 to 3 for a receive from this process.",
            ComputationSentences::signs);
        Sentences.holds("A process may have no events.", ComputationSentences::processesWithoutEvents);
    }

    private static void twoToFourProcesses() {
        Due.due("run(), nothing", Due.runOf(""), STATE);
        Due.due("run(), one process", Due.runOf("1"), STATE);
        Due.due("run(), two processes", Due.runOf(";"), 2);
        Due.due("run(), four processes", Due.runOf(";;;"), 4);
        Due.due("run(), five processes", Due.runOf(";;;;"), STATE);
    }

    private static void numbersFromZero() {
        RunCuts x = Due.read("5;;;6");
        Due.due("event(0, 0, 1)", x.event(0, 0, 1), 5);
        Due.due("event(3, 0, 1)", x.event(3, 0, 1), 6);
        Due.due("event(-1, 0, 1)", x.event(-1, 0, 1), UNKNOWN);
        Due.due("event(4, 0, 1)", x.event(4, 0, 1), UNKNOWN);
        Due.due("event(0, -1, 1)", x.event(0, -1, 1), UNKNOWN);
        Due.due("event(0, 1, 1)", x.event(0, 1, 1), UNKNOWN);
    }

    private static void nineOfOne() {
        Due.due("run(), nine of one", Due.runOf("012345678;"), 2);
        Due.due("run(), ten of one", Due.runOf("0123456789;"), STATE);
        RunCuts x = Due.read(";;;01234567");
        Due.due("local(3, 8), the ninth", x.local(3, 8), 9);
        Due.due("local(3, 9), the tenth", x.local(3, 9), FULL);
        Due.due("event(3, 8, 6)", x.event(3, 8, 6), 9);
        Due.due("value(9, 3)", x.value(9, 3), 8);
    }

    private static void sixteenOfAll() {
        Due.due("run(), sixteen of all", Due.runOf("0123;0123;0123;0123"), 4);
        Due.due("run(), seventeen of all", Due.runOf("0123;0123;0123;01234"), STATE);
        RunCuts x = Due.read("0123;0123;0123;012");
        Due.due("local(0, 1), the sixteenth", x.local(0, 1), 5);
        Due.due("local(3, 1), the seventeenth", x.local(3, 1), FULL);
        Due.due("count(1)", x.count(1), 16);
    }

    private static void localEvents() {
        RunCuts x = Due.read("90;");
        Due.due("kind of a local event", x.event(0, 0, 0), 0);
        Due.due("value(10, 0)", x.value(10, 0), 9);
        Due.due("value(20, 0)", x.value(20, 0), 0);
    }

    private static void zeroBeforeAnyLocalEvent() {
        RunCuts x = Due.read("!17;?0");
        Due.due("value(0, 0)", x.value(0, 0), 0);
        Due.due("value(10, 0) after a send", x.value(10, 0), 0);
        Due.due("value(20, 0)", x.value(20, 0), 7);
        Due.due("value(11, 1) after a receive", x.value(11, 1), 0);
    }

    private static void sendsAndReceives() {
        RunCuts x = Due.read("!1;?0");
        Due.due("kind of a send", x.event(0, 0, 0), 1);
        Due.due("kind of a receive", x.event(1, 0, 0), 2);
        Due.due("run(), a send to itself", Due.runOf("!0;"), STATE);
        Due.due("run(), a receive from itself", Due.runOf(";!1?1"), STATE);
    }

    private static void partners() {
        RunCuts x = Due.read("!1!2!1;?0?0;?0");
        int[] ofSends = {0, 0, 1};
        for (int e = 0; e < 3; e++) Due.due("partner of send " + e, x.event(0, e, 2), ofSends[e]);
        Due.due("partner of the first receive", x.event(1, 0, 2), 0);
        Due.due("partner of the second receive", x.event(1, 1, 2), 2);
        Due.due("partner of the receive of another", x.event(2, 0, 2), 1);
        RunCuts y = Due.read("!1?1;!0?0");
        Due.due("partner of a send to a sender", y.event(0, 0, 2), 1);
        Due.due("partner of a receive from a receiver", y.event(0, 1, 2), 0);
        Due.due("partner of the other send", y.event(1, 0, 2), 1);
    }

    private static void sendWithoutPartner() {
        RunCuts x = Due.read("!1!1;?0");
        Due.due("partner of the send that is received", x.event(0, 0, 2), 0);
        Due.due("partner of the send that is not", x.event(0, 1, 2), NONE);
        Due.due("run(), sends alone", Due.runOf("!1!1;!0"), 2);
    }

    private static void orderOfAll() {
        Due.due("run(), no partner", Due.runOf("?1;"), STATE);
        Due.due("run(), one send for two receives", Due.runOf("!1;?0?0"), STATE);
        Due.due("run(), the send is for another", Due.runOf("!2;?0;"), STATE);
        Due.due("run(), a ring of two", Due.runOf("?1!1;?0!0"), STATE);
        Due.due("run(), a ring of three", Due.runOf("?2!1;?0!2;?1!0"), STATE);
        Due.due("run(), a ring of four", Due.runOf("?3!1;?0!2;?1!3;?2!0"), STATE);
        Due.due("run(), a ring with a beginning", Due.runOf("!1?3;?0!2;?1!3;?2!0"), 4);
        Due.due("run(), a receive of a later line", Due.runOf("?1;5!0"), 2);
    }

    private static void before() {
        RunCuts x = Due.read("1!12;?0!2;?1;4");
        Due.due("one after the other", x.order(0, 0, 0, 2), 1);
        Due.due("by a message", x.order(0, 0, 1, 0), 1);
        Due.due("by two messages", x.order(0, 1, 2, 0), 1);
        Due.due("behind the send", x.order(0, 2, 1, 0), 0);
        Due.due("no message", x.order(3, 0, 2, 0), 0);
        RunCuts y = Due.read("!1;5");
        Due.due("a message that is not received", y.order(0, 0, 1, 0), 0);
    }

    private static void vectors() {
        RunCuts x = Due.read("1!12;?0!2;?1;4");
        vector(x, 0, 0, 1, 0, 0, 0);
        vector(x, 0, 2, 3, 0, 0, 0);
        vector(x, 1, 0, 2, 1, 0, 0);
        vector(x, 2, 0, 2, 2, 1, 0);
        vector(x, 3, 0, 0, 0, 0, 1);
    }

    private static void vector(RunCuts x, int p, int e, int... wants) {
        for (int q = 0; q < wants.length; q++) {
            Due.due("vector of event " + e + " of " + p + " for " + q, x.event(p, e, 3 + q), wants[q]);
        }
    }

    private static void pageOfThirtySix() {
        RunCuts x = new RunCuts();
        Due.due("letter(31)", x.letter(31), RunCuts.OUTSIDE);
        Due.due("letter(127)", x.letter(127), RunCuts.OUTSIDE);
        for (int i = 1; i <= 36; i++) Due.due("letter() number " + i, x.letter(i % 2 == 0 ? 32 : 126), i);
        Due.due("letter() number 37", x.letter(32), FULL);
        Due.due("run(), the longest text", Due.runOf("!1!2!3!1;!0!2!3!0;!0!1!3!0;!0!1!2!0"), 4);
    }

    private static void separators() {
        RunCuts x = Due.read("1;2!3;;45");
        int[] sizes = {1, 2, 0, 2};
        for (int p = 0; p < 4; p++) Due.due("events of " + p, x.local(p, 0), sizes[p] + 1);
        Due.due("event(3, 1, 1)", x.event(3, 1, 1), 5);
        Due.due("fault(), a blank", Due.faultOf("1 2;"), 1);
        Due.due("fault(), a comma", Due.faultOf("1;2,3"), 3);
    }

    private static void signs() {
        RunCuts x = Due.read("09!3;!2;?1!3;?0?2");
        int[] kinds = {0, 0, 1};
        int[] details = {0, 9, 3};
        for (int e = 0; e < 3; e++) {
            Due.due("kind of " + e, x.event(0, e, 0), kinds[e]);
            Due.due("detail of " + e, x.event(0, e, 1), details[e]);
        }
        Due.due("kind of ?0", x.event(3, 0, 0), 2);
        Due.due("detail of ?0", x.event(3, 0, 1), 0);
        Due.due("detail of ?2", x.event(3, 1, 1), 2);
        String[] bad = {"/;", ":;", "!4;", "?4;", "!/;", "?/;", "!:;", "!;", "?;", "!!1;", "!?1;", "-1;"};
        for (String text : bad) Due.due("run() of " + text, Due.runOf(text), STATE);
    }

    private static void processesWithoutEvents() {
        RunCuts x = Due.read(";1;");
        Due.due("event(0, 0, 0)", x.event(0, 0, 0), UNKNOWN);
        Due.due("value(10, 0)", x.value(10, 0), 0);
        Due.due("value(10, 2)", x.value(10, 2), 0);
        Due.due("lattice(0)", x.lattice(0), 2);
        Due.due("count(1), no events at all", Due.read(";;;").count(1), 0);
        Due.due("lattice(0), no events at all", Due.read(";;;").lattice(0), 1);
    }

    private static void cuts() {
        Sentences.chapter("Cuts");
        Sentences.holds("A cut tells for each process how many of its first events belong to it.",
            ComputationSentences::firstEvents);
        Sentences.holds("As a number it has one decimal digit for each process, in order (for three processes, 302"
            + " means 3, 0, 2).", ComputationSentences::digits);
        Sentences.holds("It is consistent if, for each receive that belongs to it, its partner belongs to it.",
            ComputationSentences::consistentCuts);
        Sentences.holds("Its level is the number of its events.", ComputationSentences::levels);
        Sentences.holds("In a cut, a process has the value that it has after its events in the cut,",
            ComputationSentences::valuesInCuts);
        Sentences.holds("and the messages under way from p to q are the sends of p to q in the cut whose partners"
            + " are not in it (or do not exist).", ComputationSentences::messagesUnderWay);
        Sentences.holds("From here on, all cuts are consistent, if nothing else is said.",
            ComputationSentences::consistentFromHereOn);
        Sentences.holds("A path is a sequence of cuts from the cut without events to the cut with all events, each"
            + " of which has one event more than the one before.", ComputationSentences::paths);
    }

    private static void firstEvents() {
        RunCuts x = Due.read("123456789;1234567");
        for (int n = 0; n <= 9; n++) Due.due("value(" + 10 * n + ", 0)", x.value(10 * n, 0), n);
        for (int n = 0; n <= 7; n++) Due.due("value(" + n + ", 1)", x.value(n, 1), n);
        Due.due("value(98, 0)", x.value(98, 0), UNKNOWN);
    }

    private static void digits() {
        RunCuts x = Due.read("123;4;56");
        Due.due("value(302, 0)", x.value(302, 0), 3);
        Due.due("value(302, 1)", x.value(302, 1), 0);
        Due.due("value(302, 2)", x.value(302, 2), 6);
        Due.due("value(2, 0), zeros before", x.value(2, 0), 0);
        Due.due("value(1302, 0), a digit too many", x.value(1302, 0), UNKNOWN);
        Due.due("value(321, 0), a digit too great", x.value(321, 0), UNKNOWN);
        Due.due("cut(100, 0), two digits", Due.read("1;1").cut(100, 0), UNKNOWN);
        Due.due("cut(1111, 0), four digits", Due.read("1;1;1;1").cut(1111, 0), 1);
    }

    private static void consistentCuts() {
        RunCuts x = Due.read("?1!15;!06?0");
        int[] yes = {0, 1, 2, 11, 12, 21, 22, 23, 31, 32, 33};
        int[] no = {3, 10, 13, 20, 30};
        for (int cut : yes) Due.due("cut(" + cut + ", 0)", x.cut(cut, 0), 1);
        for (int cut : no) Due.due("cut(" + cut + ", 0)", x.cut(cut, 0), 0);
        RunCuts y = Due.read("!1!1;?0?0");
        Due.due("one of two receives lacks its partner", y.cut(12, 0), 0);
        RunCuts z = Due.read("!1;?0!2;?1");
        Due.due("the partner's process has not come so far", z.cut(111, 0), 0);
        Due.due("the partner is there, but not its own past", z.cut(21, 0), 0);
        Due.due("all partners are there", z.cut(121, 0), 1);
    }

    private static void levels() {
        RunCuts x = Due.read("1111;2222;3333;4444");
        Due.due("cut(0, 1)", x.cut(0, 1), 0);
        Due.due("cut(1, 1)", x.cut(1, 1), 1);
        Due.due("cut(1000, 1)", x.cut(1000, 1), 1);
        Due.due("cut(1234, 1)", x.cut(1234, 1), 10);
        Due.due("cut(4444, 1)", x.cut(4444, 1), 16);
        Due.due("cut(1, 1), not consistent", Due.read("!1;?0").cut(1, 1), 1);
    }

    private static void valuesInCuts() {
        RunCuts x = Due.read("4!15;?06");
        int[] cuts = {0, 10, 20, 30};
        int[] values = {0, 4, 4, 5};
        for (int i = 0; i < 4; i++) Due.due("value(" + cuts[i] + ", 0)", x.value(cuts[i], 0), values[i]);
        Due.due("value(21, 1)", x.value(21, 1), 0);
        Due.due("value(22, 1)", x.value(22, 1), 6);
    }

    private static void messagesUnderWay() {
        RunCuts x = Due.read("!1!1;?0");
        int[] cuts = {0, 10, 11, 20, 21};
        int[] under = {0, 1, 0, 2, 1};
        for (int i = 0; i < 5; i++) {
            Due.due("under(" + cuts[i] + ", 0, 1)", x.under(cuts[i], 0, 1), under[i]);
            Due.due("under(" + cuts[i] + ", 1, 0)", x.under(cuts[i], 1, 0), 0);
            Due.due("cut(" + cuts[i] + ", 4)", x.cut(cuts[i], 4), under[i]);
        }
    }

    private static void consistentFromHereOn() {
        RunCuts x = Due.read("!1;?0");
        Due.due("lattice(0)", x.lattice(0), 3);
        Due.due("level(1, 0)", x.level(1, 0), 10);
        Due.due("level(1, 1)", x.level(1, 1), UNKNOWN);
        Due.due("wished(1)", x.wished(1), 3);
        Due.due("under(1, 0, 1)", x.under(1, 0, 1), STATE);
        Due.due("meet(1, 11)", x.meet(1, 11), STATE);
    }

    private static void paths() {
        Due.due("paths without events", Due.read(";").lattice(3), 1);
        Due.due("paths of one process", Due.read("12;").lattice(3), 1);
        Due.due("paths of two events", Due.read("1;2").lattice(3), 2);
        Due.due("paths of four processes", Due.read("1;2;3;4").lattice(3), 24);
        Due.due("paths with a message", Due.read("!1;?0").lattice(3), 1);
        Due.due("paths of sixteen events", Due.read("1111;2222;3333;4444").lattice(3), 63063000);
    }
}
