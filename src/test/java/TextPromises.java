/** Promises 1 to 5, sentence by sentence. */
final class TextPromises {
    private static final int UNKNOWN = RunCuts.UNKNOWN, OUTSIDE = RunCuts.OUTSIDE;
    private static final int STATE = RunCuts.STATE, FULL = RunCuts.FULL;

    private TextPromises() {
    }

    static void test() {
        Sentences.chapter("Promise 1: A new object");
        Sentences.holds("Creates an object without a computation,", TextPromises::withoutComputation);
        Sentences.holds("with an empty page.", TextPromises::withEmptyPage);
        letters();
        blanks();
        faults();
        runs();
    }

    private static void withoutComputation() {
        RunCuts x = new RunCuts();
        for (int what = 0; what <= 7; what++) Due.due("count(" + what + ")", x.count(what), 0);
        Due.due("lattice(0)", x.lattice(0), STATE);
        Due.due("local(0, 0)", x.local(0, 0), UNKNOWN);
        Due.due("played(0)", x.played(0), UNKNOWN);
        Due.due("shots(0)", x.shots(0), STATE);
    }

    private static void withEmptyPage() {
        Due.due("blank()", new RunCuts().blank(), 0);
        Due.due("fault()", new RunCuts().fault(), 0);
        Due.due("letter(32)", new RunCuts().letter(32), 1);
        Due.due("run()", new RunCuts().run(), STATE);
    }

    private static void letters() {
        Sentences.chapter("Promise 2: letter");
        Sentences.holds("Appends a character to the page.", TextPromises::letterAppends);
        Sentences.holds("its code, 32 to 126", TextPromises::letterCodes);
        Sentences.holds("Returns the number of characters of the page then;", TextPromises::letterReturns);
        Sentences.holds("OUTSIDE if code is out of range;", TextPromises::letterOutside);
        Sentences.holds("FULL if the page has 36 characters.", TextPromises::letterFull);
    }

    private static void letterAppends() {
        RunCuts x = new RunCuts();
        x.letter('7');
        x.letter(';');
        Due.due("run()", x.run(), 2);
        Due.due("event(0, 0, 1)", x.event(0, 0, 1), 7);
        Due.due("event(1, 0, 1)", x.event(1, 0, 1), UNKNOWN);
    }

    private static void letterCodes() {
        for (int code = 32; code <= 126; code++) Due.due("letter(" + code + ")", new RunCuts().letter(code), 1);
    }

    private static void letterReturns() {
        RunCuts x = new RunCuts();
        for (int i = 1; i <= 36; i++) Due.due("letter(50), number " + i, x.letter(50), i);
        x.blank();
        Due.due("letter(50) of an empty page", x.letter(50), 1);
    }

    private static void letterOutside() {
        int[] codes = {31, 127, 0, -1, -32, 128, 256 + 50, 65536 + 50, Integer.MIN_VALUE, Integer.MAX_VALUE};
        RunCuts x = Due.typed("1;");
        for (int code : codes) Due.refused(x, "letter(" + code + ")", () -> x.letter(code), OUTSIDE);
        Due.due("count(5)", x.count(5), 2);
    }

    private static void letterFull() {
        RunCuts x = Due.typed("12345678901234567890123456789012345");
        Due.due("letter(';'), the last one", x.letter(';'), 36);
        Due.refused(x, "letter(';'), one too many", () -> x.letter(';'), FULL);
        Due.refused(x, "letter(126), one too many", () -> x.letter(126), FULL);
        Due.due("blank()", x.blank(), 36);
        Due.due("letter(';') again", x.letter(';'), 1);
    }

    private static void blanks() {
        Sentences.chapter("Promise 3: blank");
        Sentences.holds("Empties the page.", TextPromises::blankEmpties);
        Sentences.holds("Returns how many characters it had.", TextPromises::blankReturns);
    }

    private static void blankEmpties() {
        RunCuts x = Due.typed("1?");
        x.blank();
        Due.due("count(5)", x.count(5), 0);
        Due.due("fault()", x.fault(), 0);
        Due.type(x, ";4");
        Due.due("run()", x.run(), 2);
        Due.due("event(0, 0, 0)", x.event(0, 0, 0), UNKNOWN);
        x.play(0);
        x.shot(1, 1);
        x.letter('9');
        x.blank();
        Due.due("shots(0): the computation stays", x.shots(0), 1);
    }

    private static void blankReturns() {
        Due.due("blank() of nothing", new RunCuts().blank(), 0);
        Due.due("blank() of one", Due.typed("x").blank(), 1);
        RunCuts x = Due.typed("123456789012345678901234567890123456789");
        Due.due("blank() of a full page", x.blank(), 36);
        Due.due("blank() again", x.blank(), 0);
        Due.due("blank() behind run()", Due.read(";").blank(), 0);
    }

    private static void fault(String text, int want) {
        Due.due("fault() of " + text, Due.faultOf(text), want);
    }

    private static void faults() {
        Sentences.chapter("Promise 4: fault");
        Sentences.holds("Finds the first character of the page with which the text so far is not the beginning of a"
            + " text as described above", TextPromises::faultFirst);
        Sentences.holds("(with at most four processes,", TextPromises::faultFourProcesses);
        Sentences.holds("nine events of one process,", TextPromises::faultNineEvents);
        Sentences.holds("and sixteen of all;", TextPromises::faultSixteenEvents);
        Sentences.holds("apart from that, the meaning of the digits behind ! and ? does not matter).",
            TextPromises::faultMeaning);
        Sentences.holds("Returns its index, from 0;", TextPromises::faultIndex);
        Sentences.holds("the number of characters if there is none.", TextPromises::faultNone);
    }

    private static void faultFirst() {
        fault("12x;;y", 2);
        fault("1!;", 2);
        fault("1!4;", 2);
        fault("?:", 1);
        fault("?/", 1);
        fault("!!1", 1);
        fault("!?1", 1);
        fault("! 1", 1);
        for (int code = 32; code <= 126; code++) {
            boolean begins = code >= '0' && code <= '9' || code == '!' || code == '?' || code == ';';
            fault(String.valueOf((char) code), begins ? 1 : 0);
            boolean names = code >= '0' && code <= '3';
            fault("!" + (char) code, names ? 2 : 1);
            fault("5?" + (char) code, names ? 3 : 2);
        }
    }

    private static void faultFourProcesses() {
        fault(";;;", 3);
        fault(";;;;", 3);
        fault("1;2;3;4;5", 7);
        fault("1;2;3;4;", 7);
    }

    private static void faultNineEvents() {
        fault("123456789", 9);
        fault("1234567890", 9);
        fault("123456789!", 9);
        fault("123456789?1", 9);
        fault("123456789;", 10);
        fault("!1?1!1?1!1?1!1?1!1", 18);
        fault("!1?1!1?1!1?1!1?1!1!", 18);
        fault(";;;123456789", 12);
        fault(";;;1234567890", 12);
    }

    private static void faultSixteenEvents() {
        fault("123456789;1234567", 17);
        fault("123456789;12345678", 17);
        fault("123456789;1234567!", 17);
        fault("123456789;1234567;", 18);
        fault("123456789;1234567;;", 19);
        fault("123456789;1234567;;0", 19);
        fault(";123456789;12345678", 18);
        fault("1234;1234;1234;1234", 19);
        fault("1234;1234;1234;1234?0", 19);
        fault("!1!1!1!1;!1!1!1!1;!1!1!1!1;!1!1!1!1", 35);
        fault("!1!1!1!1;!1!1!1!1;!1!1!1!1;!1!1!1!1!", 35);
        fault("!1!1!1!1;!1!1!1!1;!1!1!1!1;!1!1!1!1;", 35);
    }

    private static void faultMeaning() {
        fault("!3", 2);
        fault("!0;!1", 5);
        fault("?3;?3", 5);
        fault("?0?0?0", 6);
        fault("?1!1;?0!0", 9);
    }

    private static void faultIndex() {
        fault("x", 0);
        fault("1x", 1);
        fault("!1;!0 ", 5);
        fault("12345678901234567890123456789012345x", 9);
    }

    private static void faultNone() {
        fault("", 0);
        fault("1", 1);
        fault("!", 1);
        fault("1;?", 3);
        fault("!1;?0", 5);
        RunCuts x = Due.typed("1x");
        x.blank();
        Due.type(x, "1");
        Due.due("fault(), a sign of an earlier page", x.fault(), 1);
    }

    private static void runs() {
        Sentences.chapter("Promise 5: run");
        Sentences.holds("Reads the page as the computation, which replaces the present one,",
            TextPromises::runReplaces);
        Sentences.holds("and empties the page.", TextPromises::runEmptiesPage);
        Sentences.holds("The play and the snapshot are removed,", TextPromises::runRemovesPlay);
        Sentences.holds("and all values are allowed;", TextPromises::runAllowsAll);
        Sentences.holds("the kind and the number of the predicate stay.", TextPromises::runKeepsWish);
        Sentences.holds("Returns the number of processes;", TextPromises::runReturns);
        Sentences.holds("STATE if the page is not the text of a computation", TextPromises::runNoText);
        Sentences.holds("(also if a digit names a process that does not exist,", TextPromises::runNoProcess);
        Sentences.holds("or the process itself,", TextPromises::runProcessItself);
        Sentences.holds("a receive has no partner,", TextPromises::runNoPartner);
        Sentences.holds("or there is no order as described).", TextPromises::runNoOrder);
    }

    private static void refusedRun(String text) {
        RunCuts x = Due.read("1!1;?02;3");
        x.play(5);
        x.shot(1, 2);
        x.allow(1, 77);
        Due.type(x, text);
        Due.refused(x, "run() of " + text, x::run, STATE);
        Due.due("blank() behind a refused run() of " + text, x.blank(), text.length());
        Due.due("run() of " + text + " on a new object", Due.runOf(text), STATE);
    }

    private static void runReplaces() {
        RunCuts x = Due.read("!1!1!19;?0?0?0;5");
        Due.type(x, "2;");
        Due.due("run()", x.run(), 2);
        Due.due("count(1)", x.count(1), 1);
        Due.due("event(0, 0, 1)", x.event(0, 0, 1), 2);
        Due.due("event(0, 1, 0)", x.event(0, 1, 0), UNKNOWN);
        Due.due("event(1, 0, 0)", x.event(1, 0, 0), UNKNOWN);
        Due.due("event(2, 0, 0)", x.event(2, 0, 0), UNKNOWN);
        Due.due("lattice(0)", x.lattice(0), 2);
        Due.due("receive(1, 0), sent in the computation before", x.receive(1, 0), STATE);
    }

    private static void runEmptiesPage() {
        RunCuts x = Due.typed("!1;?0");
        Due.due("run()", x.run(), 2);
        Due.due("count(5)", x.count(5), 0);
        Due.due("run() again", x.run(), STATE);
        Due.due("count(0)", x.count(0), 2);
    }

    private static void runRemovesPlay() {
        RunCuts x = Due.read("1;2");
        x.play(0);
        x.shot(0, 1);
        Due.type(x, "1;2");
        Due.due("played(0) before run()", x.played(0), 0);
        Due.due("run()", x.run(), 2);
        Due.due("played(0)", x.played(0), UNKNOWN);
        Due.due("shots(0)", x.shots(0), STATE);
        Due.due("shot(0, 0)", x.shot(0, 0), STATE);
    }

    private static void runAllowsAll() {
        RunCuts x = Due.read(";;;");
        for (int p = 0; p < 4; p++) x.allow(p, p);
        Due.type(x, ";;");
        Due.due("run(), three processes", x.run(), 3);
        Due.type(x, ";;;");
        Due.due("run(), four processes", x.run(), 4);
        for (int p = 0; p < 4; p++) Due.due("allow(" + p + ", 0)", x.allow(p, 0), 1023);
    }

    private static void runKeepsWish() {
        RunCuts x = new RunCuts();
        x.wish(1, 4);
        Due.type(x, "4;");
        x.run();
        Due.due("wished(2), a sum of 4", x.wished(2), 10);
        Due.type(x, "3;4");
        x.run();
        Due.due("wished(2), a sum of 4", x.wished(2), 1);
        Due.due("wish(0, 0)", x.wish(0, 0), 1);
    }

    private static void runReturns() {
        String[] texts = {";", ";;", ";;;", "1;", "123456789;1234567", "1;2;3;4", "!1!2!3;?0;?0;?0"};
        int[] wants = {2, 3, 4, 2, 2, 4, 4};
        for (int i = 0; i < texts.length; i++) Due.due("run() of " + texts[i], Due.runOf(texts[i]), wants[i]);
    }

    private static void runNoText() {
        String[] texts = {"", "1", "!1", "12345", ";;;;", "1;2;3;4;5", "1234567890;", "123456789;12345678", "x;",
            "1 ;", ";!", ";?", "1;2!", "!4;", ";;;?4", "123456789012345678901234567890123456"};
        for (String text : texts) refusedRun(text);
        RunCuts x = Due.typed(";!0");
        x.blank();
        Due.type(x, ";!");
        Due.due("run(), the digit stood on an earlier page", x.run(), STATE);
    }

    private static void runNoProcess() {
        String[] texts = {"!2;", "!3;", ";!2", ";;!3", "?2;", ";?3", "!3;;?0", "1;2!3;"};
        for (String text : texts) refusedRun(text);
        Due.due("run(), all exist", Due.runOf("!3;!2;!1;!0"), 4);
    }

    private static void runProcessItself() {
        String[] texts = {"!0;", ";!1", ";;!2", ";;;!3", "?0;", "!0?0;", ";!1?1"};
        for (String text : texts) refusedRun(text);
    }

    private static void runNoPartner() {
        String[] texts = {"?1;", ";?0", "!1;?0?0", "!1!1;?0?0?0", "!2;?0;", "!1;;?0", "?1;?0", ";!0;?0"};
        for (String text : texts) refusedRun(text);
        RunCuts x = Due.typed("!1!1;");
        x.run();
        Due.type(x, ";");
        x.run();
        Due.type(x, ";?0");
        Due.due("run(), the send stood in an earlier computation", x.run(), STATE);
        x.blank();
        Due.type(x, "!1!1;?3");
        x.run();
        x.blank();
        Due.type(x, ";?0");
        Due.due("run(), the send stood in a text that was refused", x.run(), STATE);
    }

    private static void runNoOrder() {
        String[] texts = {"?1!1;?0!0", "!1?1!1;?0?0!0", "?2!1;?0!2;?1!0", "?1!2;?2!0;?0!1", "1;?2!2;?1!1",
            "?3!1;?0!2;?1!3;?2!0"};
        for (String text : texts) refusedRun(text);
        Due.due("run(), each sends first", Due.runOf("!1?1;!0?0"), 2);
        Due.due("run(), the last one begins", Due.runOf("?1!3;?2!0;?3!1;!2?0"), 4);
    }
}
