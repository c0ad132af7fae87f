/** Promises 1 to 5: the new object, and the page. */
public final class TextsTest {
    public static void main(String[] args) {
        newObject();
        constants();
        letters();
        blanks();
        faults();
        runsThatAreRead();
        runsThatAreRefused();
        whatRunChanges();
        Due.end();
    }

    private static void newObject() {
        RunCuts x = new RunCuts();
        for (int what = 0; what <= 7; what++) Due.due("count(" + what + ")", x.count(what), 0);
        long h = 1549;
        for (int i = 0; i < 8; i++) h = 31 * h;
        Due.due("digest()", x.digest(), h);
        Due.due("fault()", x.fault(), 0);
        Due.due("blank()", x.blank(), 0);
        Due.due("run()", x.run(), RunCuts.STATE);
        Due.due("local(0, 0)", x.local(0, 0), RunCuts.UNKNOWN);
        Due.due("send(0, 1)", x.send(0, 1), RunCuts.UNKNOWN);
        Due.due("receive(0, 1)", x.receive(0, 1), RunCuts.UNKNOWN);
        Due.due("back(0)", x.back(0), RunCuts.UNKNOWN);
        Due.due("event(0, 0, 0)", x.event(0, 0, 0), RunCuts.UNKNOWN);
        Due.due("order(0, 0, 0, 0)", x.order(0, 0, 0, 0), RunCuts.UNKNOWN);
        Due.due("cut(0, 0)", x.cut(0, 0), RunCuts.STATE);
        Due.due("cut(-1, 9)", x.cut(-1, 9), RunCuts.STATE);
        Due.due("value(0, 0)", x.value(0, 0), RunCuts.STATE);
        Due.due("under(0, 0, 1)", x.under(0, 0, 1), RunCuts.STATE);
        Due.due("meet(0, 0)", x.meet(0, 0), RunCuts.STATE);
        Due.due("join(0, 0)", x.join(0, 0), RunCuts.STATE);
        Due.due("lattice(0)", x.lattice(0), RunCuts.STATE);
        Due.due("lattice(5)", x.lattice(5), RunCuts.OUTSIDE);
        Due.due("level(0, 0)", x.level(0, 0), RunCuts.STATE);
        Due.due("allow(0, 0)", x.allow(0, 0), RunCuts.UNKNOWN);
        Due.due("wished(0)", x.wished(0), RunCuts.STATE);
        Due.due("wished(4)", x.wished(4), RunCuts.OUTSIDE);
        Due.due("around(0)", x.around(0), RunCuts.STATE);
        Due.due("least()", x.least(), RunCuts.STATE);
        Due.due("strong()", x.strong(), RunCuts.STATE);
        Due.due("interval(0, 0, 0)", x.interval(0, 0, 0), RunCuts.STATE);
        Due.due("lean(0)", x.lean(0), RunCuts.STATE);
        Due.due("lean(4)", x.lean(4), RunCuts.OUTSIDE);
        Due.due("play(0)", x.play(0), RunCuts.STATE);
        Due.due("play(-1)", x.play(-1), RunCuts.STATE);
        Due.due("played(0)", x.played(0), RunCuts.UNKNOWN);
        Due.due("played(-1)", x.played(-1), RunCuts.UNKNOWN);
        Due.due("shot(0, 0)", x.shot(0, 0), RunCuts.STATE);
        Due.due("shots(0)", x.shots(0), RunCuts.STATE);
        Due.due("wish(0, 0)", x.wish(0, 0), 0);
        Due.due("digest() after refusals", x.digest(), h);
    }

    private static void constants() {
        Due.due("NONE", RunCuts.NONE, -1);
        Due.due("UNKNOWN", RunCuts.UNKNOWN, -101);
        Due.due("OUTSIDE", RunCuts.OUTSIDE, -102);
        Due.due("STATE", RunCuts.STATE, -103);
        Due.due("FULL", RunCuts.FULL, -104);
    }

    private static void letters() {
        RunCuts x = new RunCuts();
        int[] bad = {31, 127, 0, -1, 200, Integer.MIN_VALUE, Integer.MAX_VALUE};
        for (int code : bad) Due.due("letter(" + code + ")", x.letter(code), RunCuts.OUTSIDE);
        Due.due("count(5)", x.count(5), 0);
        Due.due("letter(32)", x.letter(32), 1);
        Due.due("letter(126)", x.letter(126), 2);
        for (int i = 3; i <= 36; i++) Due.due("letter(49)", x.letter(49), i);
        Due.due("letter(49), full", x.letter(49), RunCuts.FULL);
        Due.due("letter(31), full", x.letter(31), RunCuts.OUTSIDE);
        Due.due("count(5)", x.count(5), 36);
        Due.due("blank()", x.blank(), 36);
        Due.due("letter(49)", x.letter(49), 1);
    }

    private static void blanks() {
        RunCuts x = new RunCuts();
        Due.type(x, "abc");
        Due.due("blank()", x.blank(), 3);
        Due.due("blank() again", x.blank(), 0);
        Due.due("count(5)", x.count(5), 0);
        Due.due("fault()", x.fault(), 0);
        RunCuts y = Due.read(";");
        y.play(0);
        Due.type(y, "12");
        Due.due("blank() with a run", y.blank(), 2);
        Due.due("count(0)", y.count(0), 2);
        Due.due("shot(0, 0)", y.shot(0, 0), 0);
    }

    private static void faults() {
        fault("", 0);
        fault("0", 1);
        fault("9", 1);
        fault(":", 0);
        fault("/", 0);
        fault(" ", 0);
        fault("a", 0);
        fault("1 2", 1);
        fault("1ab", 1);
        fault(";", 1);
        fault("!", 1);
        fault("?", 1);
        fault("!0", 2);
        fault("!3", 2);
        fault("?3", 2);
        fault("!4", 1);
        fault("?4", 1);
        fault("?9", 1);
        fault("!!", 1);
        fault("?;", 1);
        fault("?/", 1);
        fault("5?;", 2);
        fault(";;;", 3);
        fault(";;;;", 3);
        fault("1;2;3;4", 7);
        fault("1;2;3;4;", 7);
        fault("?3!3;?2", 7);
        fault("012345678", 9);
        fault("0123456789", 9);
        fault("012345678!", 9);
        fault("012345678?", 9);
        fault("012345678x", 9);
        fault("012345678;", 10);
        fault("!1!1!1!1!1!1!1!1!1", 18);
        fault("!1!1!1!1!1!1!1!1!1!", 18);
        fault(";012345678;1", 12);
        fault("012345678;0123456", 17);
        fault("012345678;0123456;;", 19);
        fault("012345678;01234567", 17);
        fault("012345678;0123456;!", 18);
        fault("0123;0123;0123;0123", 19);
        fault("0123;0123;0123;0123?", 19);
        fault("!1!1!1!1;!0!0!0!0;!0!0!0!0;!0!0!0!0", 35);
        fault("!1!1!1!1;!0!0!0!0;!0!0!0!0;!0!0!0!0!", 35);
        fault("!1!1!1!1;!0!0!0!0;!0!0!0!0;!0!0!0!0;", 35);
        fault("111111111111111111111111111111111111", 9);
        fault("x;;;;;", 0);
    }

    private static void fault(String text, int want) {
        Due.due("fault() of " + text, Due.faultOf(text), want);
    }

    private static void runsThatAreRead() {
        Due.due("run()", Due.runOf(";"), 2);
        Due.due("run()", Due.runOf(";;"), 3);
        Due.due("run()", Due.runOf(";;;"), 4);
        Due.due("run()", Due.runOf("012345678;0123456"), 2);
        Due.due("run()", Due.runOf("!1!1!1!1;!0!0!0!0;!0!0!0!0;!0!0!0!0"), 4);
        Due.due("run()", Due.runOf("!1?1;!0?0"), 2);
        Due.due("run()", Due.runOf("?1;!0!0!0"), 2);
        Due.due("run()", Due.runOf("!1?2;?0!2;?1!0"), 3);
        Due.due("run()", Due.runOf("?1!2;!0?2;?0!1"), 3);
        Due.due("run()", Due.runOf("!3;;;?0"), 4);
    }

    private static void runsThatAreRefused() {
        String[] texts = {"", "1", "123", "1!;", "!;", "1;!", "1;?", "a;", "1; ", ";;;;", "0123456789;",
            "012345678;01234567", "!0;", ";!1", "?0;", "!2;", ";;!3", "!3;;", "?1;", "?2;!0", "!1;?0?0",
            ";!0;?0", "!2;?0;", "?1!1;?0!0", "!1?1!1;?0?0!0", "?2!1;?0!2;?1!0", "?1!2;?2!0;?0!1", "!1;?0;4x"};
        for (String text : texts) Due.due("run() of " + text, Due.runOf(text), RunCuts.STATE);
    }

    private static void whatRunChanges() {
        RunCuts x = Due.read("1!1;?0");
        Due.due("count(6)", x.count(6), 1);
        Due.due("count(5)", x.count(5), 0);
        x.allow(0, 5);
        x.wish(3, 7);
        x.play(3);
        x.shot(0, 1);
        Due.type(x, "?1;");
        long before = x.digest();
        Due.due("run(), no partner", x.run(), RunCuts.STATE);
        Due.due("digest()", x.digest(), before);
        Due.due("count(5)", x.count(5), 3);
        Due.due("count(6)", x.count(6), 1);
        x.blank();
        Due.type(x, ";;4");
        Due.due("run()", x.run(), 3);
        Due.due("count(0)", x.count(0), 3);
        Due.due("count(1)", x.count(1), 1);
        Due.due("count(5)", x.count(5), 0);
        Due.due("count(6)", x.count(6), 2);
        Due.due("count(7)", x.count(7), 1);
        Due.due("shots(0)", x.shots(0), RunCuts.STATE);
        Due.due("played(0)", x.played(0), RunCuts.UNKNOWN);
        Due.due("shot(0, 0)", x.shot(0, 0), RunCuts.STATE);
        for (int p = 0; p < 3; p++) Due.due("allow(" + p + ", 0)", x.allow(p, 0), 1023);
        Due.due("wished(0) with v = 7", x.wished(0), 0);
        Due.due("wish(3, 4)", x.wish(3, 4), 3);
        Due.due("wished(2) with v = 4", x.wished(2), 1);
    }
}
