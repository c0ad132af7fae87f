/** Promises 12 to 18: cuts and their lattice. */
public final class CutsTest {
    private static final String MIXED = "1!12;?03!0;7";

    public static void main(String[] args) {
        cuts();
        cutErrors();
        values();
        messagesUnderWay();
        meetsAndJoins();
        lattices();
        levels();
        Due.end();
    }

    private static void cuts() {
        RunCuts x = Due.read(MIXED);
        row(x, 0, 1, 0, 1, 5, 0, 28);
        row(x, 1, 1, 1, 1, 1, 0, 4);
        row(x, 100, 1, 1, 1, 5, 0, 24);
        row(x, 200, 1, 2, 1, 7, 1, 20);
        row(x, 230, 1, 5, 1, 5, 1, 2);
        row(x, 331, 1, 7, 1, 0, 1, 28);
        Due.due("cut(10, 0)", x.cut(10, 0), 0);
        Due.due("cut(131, 0)", x.cut(131, 0), 0);
        Due.due("cut(131, 1)", x.cut(131, 1), 5);
        Due.due("cut(230, 5), first of all", Due.read(MIXED).cut(230, 5), 2);
        RunCuts y = Due.read("!1!1;?0?0");
        row(y, 20, 1, 2, 1, 2, 2, 1);
        row(y, 21, 1, 3, 1, 2, 1, 2);
        row(y, 11, 1, 2, 1, 1, 0, 1);
        Due.due("cut(12, 0)", y.cut(12, 0), 0);
        y.wish(2, 0);
        Due.due("cut(11, 2)", y.cut(11, 2), 1);
        Due.due("cut(20, 2)", y.cut(20, 2), 0);
        RunCuts z = Due.read("1111;2222;3333;4444");
        row(z, 2222, 1, 8, 1, 15, 0, 2520 * 2520);
        row(z, 4444, 1, 16, 1, 0, 0, 63063000);
        row(z, 0, 1, 0, 1, 15, 0, 63063000);
        row(z, 4000, 1, 4, 1, 14, 0, 34650);
    }

    private static void row(RunCuts x, int cut, int... wants) {
        for (int what = 0; what < wants.length; what++) {
            Due.due("cut(" + cut + ", " + what + ")", x.cut(cut, what), wants[what]);
        }
    }

    private static void cutErrors() {
        RunCuts x = Due.read(MIXED);
        int[] bad = {-1, 332, 341, 431, 400, 2, 40, 1000, 1331, 999, Integer.MAX_VALUE, Integer.MIN_VALUE};
        for (int cut : bad) {
            Due.due("cut(" + cut + ", 0)", x.cut(cut, 0), RunCuts.UNKNOWN);
            Due.due("cut(" + cut + ", 6)", x.cut(cut, 6), RunCuts.UNKNOWN);
            Due.due("value(" + cut + ", 0)", x.value(cut, 0), RunCuts.UNKNOWN);
            Due.due("under(" + cut + ", 0, 1)", x.under(cut, 0, 1), RunCuts.UNKNOWN);
            Due.due("meet(" + cut + ", 10)", x.meet(cut, 10), RunCuts.UNKNOWN);
            Due.due("join(10, " + cut + ")", x.join(10, cut), RunCuts.UNKNOWN);
        }
        Due.due("cut(0, 6)", x.cut(0, 6), RunCuts.OUTSIDE);
        Due.due("cut(0, -1)", x.cut(0, -1), RunCuts.OUTSIDE);
        Due.due("cut(10, 6)", x.cut(10, 6), RunCuts.OUTSIDE);
        for (int what = 2; what <= 5; what++) Due.due("cut(10, what)", x.cut(10, what), RunCuts.STATE);
        Due.due("cut(100, 0) of two", Due.read("123456789;1").cut(100, 0), RunCuts.UNKNOWN);
        Due.due("cut(91, 1) of two", Due.read("123456789;1").cut(91, 1), 10);
        Due.due("cut(10000, 0) of four", Due.read("1;1;1;1").cut(10000, 0), RunCuts.UNKNOWN);
        Due.due("cut(1111, 1) of four", Due.read("1;1;1;1").cut(1111, 1), 4);
    }

    private static void values() {
        RunCuts x = Due.read(MIXED);
        Due.due("value(0, 0)", x.value(0, 0), 0);
        Due.due("value(100, 0)", x.value(100, 0), 1);
        Due.due("value(200, 0)", x.value(200, 0), 1);
        Due.due("value(331, 0)", x.value(331, 0), 2);
        Due.due("value(331, 1)", x.value(331, 1), 3);
        Due.due("value(210, 1)", x.value(210, 1), 0);
        Due.due("value(120, 1), not consistent", x.value(120, 1), 3);
        Due.due("value(330, 2)", x.value(330, 2), 0);
        Due.due("value(331, 2)", x.value(331, 2), 7);
        Due.due("value(0, 3)", x.value(0, 3), RunCuts.UNKNOWN);
        Due.due("value(0, -1)", x.value(0, -1), RunCuts.UNKNOWN);
    }

    private static void messagesUnderWay() {
        RunCuts x = Due.read("!1!2!1!1;?0!2?0;?0?1");
        Due.due("under(400, 0, 1)", x.under(400, 0, 1), 3);
        Due.due("under(400, 0, 2)", x.under(400, 0, 2), 1);
        Due.due("under(400, 1, 2)", x.under(400, 1, 2), 0);
        Due.due("under(430, 0, 1)", x.under(430, 0, 1), 1);
        Due.due("under(430, 1, 2)", x.under(430, 1, 2), 1);
        Due.due("under(432, 1, 2)", x.under(432, 1, 2), 0);
        Due.due("under(432, 0, 2)", x.under(432, 0, 2), 0);
        Due.due("under(432, 0, 1)", x.under(432, 0, 1), 1);
        Due.due("under(432, 2, 1)", x.under(432, 2, 1), 0);
        Due.due("under(400, 0, 0)", x.under(400, 0, 0), RunCuts.UNKNOWN);
        Due.due("under(400, 0, 3)", x.under(400, 0, 3), RunCuts.UNKNOWN);
        Due.due("under(400, -1, 0)", x.under(400, -1, 0), RunCuts.UNKNOWN);
        Due.due("under(10, 0, 1)", x.under(10, 0, 1), RunCuts.STATE);
        Due.due("under(10, 0, 0)", x.under(10, 0, 0), RunCuts.UNKNOWN);
    }

    private static void meetsAndJoins() {
        RunCuts x = Due.read(MIXED);
        Due.due("meet(211, 300)", x.meet(211, 300), 200);
        Due.due("join(211, 300)", x.join(211, 300), 311);
        Due.due("meet(0, 331)", x.meet(0, 331), 0);
        Due.due("join(0, 331)", x.join(0, 331), 331);
        Due.due("meet(220, 301)", x.meet(220, 301), 200);
        Due.due("join(1, 230)", x.join(1, 230), 231);
        Due.due("meet(110, 0)", x.meet(110, 0), RunCuts.STATE);
        Due.due("meet(0, 110)", x.meet(0, 110), RunCuts.STATE);
        Due.due("join(0, 10)", x.join(0, 10), RunCuts.STATE);
        Due.due("join(10, 400)", x.join(10, 400), RunCuts.UNKNOWN);
    }

    private static void lattices() {
        lattice(";", 1, 1, 0, 1, 0);
        lattice("12;", 3, 1, 0, 1, 2);
        lattice("12;3", 6, 2, 1, 3, 3);
        lattice("12;34", 9, 3, 2, 6, 4);
        lattice("!1;?0", 3, 1, 0, 1, 2);
        lattice(MIXED, 20, 4, 4, 28, 7);
        lattice("1111;2222;3333;4444", 625, 85, 8, 63063000, 16);
        lattice("123456789;1234567", 80, 8, 7, 11440, 16);
        lattice("!1?1;?0!0", 5, 1, 0, 1, 4);
        RunCuts x = Due.read(";");
        Due.due("lattice(5)", x.lattice(5), RunCuts.OUTSIDE);
        Due.due("lattice(-1)", x.lattice(-1), RunCuts.OUTSIDE);
    }

    private static void lattice(String text, int... wants) {
        RunCuts x = Due.read(text);
        for (int what = 0; what < wants.length; what++) {
            Due.due("lattice(" + what + ") of " + text, x.lattice(what), wants[what]);
        }
    }

    private static void levels() {
        RunCuts x = Due.read("12;34");
        Due.due("level(0, 0)", x.level(0, 0), 0);
        Due.due("level(2, 0)", x.level(2, 0), 2);
        Due.due("level(2, 1)", x.level(2, 1), 11);
        Due.due("level(2, 2)", x.level(2, 2), 20);
        Due.due("level(2, 3)", x.level(2, 3), RunCuts.UNKNOWN);
        Due.due("level(4, 0)", x.level(4, 0), 22);
        Due.due("level(4, 1)", x.level(4, 1), RunCuts.UNKNOWN);
        Due.due("level(5, 0)", x.level(5, 0), RunCuts.UNKNOWN);
        Due.due("level(17, 0)", x.level(17, 0), RunCuts.UNKNOWN);
        Due.due("level(-1, 0)", x.level(-1, 0), RunCuts.UNKNOWN);
        Due.due("level(0, -1)", x.level(0, -1), RunCuts.UNKNOWN);
        Due.due("level(MAX, 0)", x.level(Integer.MAX_VALUE, 0), RunCuts.UNKNOWN);
        Due.due("level(0, MIN)", x.level(0, Integer.MIN_VALUE), RunCuts.UNKNOWN);
        RunCuts y = Due.read("1111;2222;3333;4444");
        Due.due("level(16, 0)", y.level(16, 0), 4444);
        Due.due("level(16, 1)", y.level(16, 1), RunCuts.UNKNOWN);
        Due.due("level(17, 0)", y.level(17, 0), RunCuts.UNKNOWN);
        Due.due("level(8, 0)", y.level(8, 0), 44);
        Due.due("level(8, 84)", y.level(8, 84), 4400);
        Due.due("level(8, 85)", y.level(8, 85), RunCuts.UNKNOWN);
        RunCuts z = Due.read("!1;?0");
        Due.due("level(1, 0)", z.level(1, 0), 10);
        Due.due("level(1, 1)", z.level(1, 1), RunCuts.UNKNOWN);
        z.local(1, 4);
        Due.due("level(3, 0) after local()", z.level(3, 0), 12);
        z.back(1);
        Due.due("cut(11, 5) after back()", z.cut(11, 5), 1);
    }
}
