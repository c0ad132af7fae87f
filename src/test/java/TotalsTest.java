/** Promises 31 and 32: the counts and the digest. */
public final class TotalsTest {
    public static void main(String[] args) {
        counts();
        digestOfNothing();
        digestOfEmptyRun();
        digestOfOtherKind();
        digestOfEvents();
        digestChangesNothing();
        Due.end();
    }

    private static void counts(RunCuts x, String when, int... wants) {
        for (int what = 0; what < wants.length; what++) {
            Due.due("count(" + what + ") " + when, x.count(what), wants[what]);
        }
    }

    private static void counts() {
        RunCuts x = new RunCuts();
        Due.due("count(8)", x.count(8), RunCuts.OUTSIDE);
        Due.due("count(-1)", x.count(-1), RunCuts.OUTSIDE);
        Due.type(x, "12!1!1;?0;");
        counts(x, "typed", 0, 0, 0, 0, 0, 10, 0, 0);
        x.run();
        counts(x, "read", 3, 5, 2, 2, 1, 0, 1, 0);
        x.receive(1, 0);
        x.local(2, 2);
        x.local(2, 2);
        counts(x, "changed", 3, 8, 4, 2, 2, 0, 1, 0);
        x.back(2);
        x.play(0);
        x.shot(0, 0);
        x.shot(0, 9);
        x.shot(1, 1);
        counts(x, "shot twice", 3, 7, 3, 2, 2, 0, 1, 2);
        x.run();
        Due.type(x, ";");
        x.run();
        counts(x, "read again", 2, 0, 0, 0, 0, 0, 2, 2);
    }

    private static long fold(int... told) {
        long h = 1549;
        for (int v : told) h = 31 * h + v;
        return h;
    }

    private static void digestOfNothing() {
        RunCuts x = new RunCuts();
        Due.type(x, "a~");
        Due.due("digest() of a page", x.digest(), fold('a', '~', 0, 0, 0, 0, 0, 2, 0, 0));
        x.wish(1, 3);
        Due.due("digest() of a wish", x.digest(), fold('a', '~', 0, 0, 0, 0, 0, 2, 0, 0));
    }

    private static void digestOfEmptyRun() {
        RunCuts x = Due.read(";");
        Due.due("digest() of an empty run", x.digest(), fold(1, 1, 0, 1, 0, 0, 1, 0, 0, 1, 1, 1, 0, 1,
            0, 1, 0, 0, 0, 0, 0, 1, 1, 1, 2, 0, 0, 0, 0, 0, 1, 0));
        x.play(0);
        x.shot(0, 0);
        x.letter(33);
        Due.due("digest() with a snapshot", x.digest(), fold(1, 1, 0, 1, 0, 0, 1, 0, 0, 1, 1, 1, 0, 1,
            0, 1, 0, 0, 0, 0, 0, 1, 1, 1, 0, 0, 0, 33, 2, 0, 0, 0, 0, 1, 1, 1));
    }

    private static void digestOfOtherKind() {
        RunCuts x = Due.read(";");
        x.wish(1, 5);
        Due.due("digest() of a sum", x.digest(), fold(1, 1, 0, 1, 0, 0, 0, 0, 0, 1, 0, 0, -1, 0,
            2, 0, 0, 0, 0, 0, 1, 0));
    }

    private static void digestOfEvents() {
        RunCuts x = Due.read("!1;?0");
        x.allow(1, 2);
        x.play(0);
        x.shot(0, 1);
        Due.due("digest() of a message", x.digest(), fold(1, 1, 0, 1, 0, -1, -1, 2, 0, 0, 1, 1, -1, -1,
            3, 1, 0, 1, 2, 0, 0, 1, 0, 1, 10, 0, 2, 1, 1, 11, 0, 0, 0, 1,
            0, 0, -1, 0, 0, 1, -1, 0, 0, 1, 2, 3, 0, 0,
            0, 1, 11, 0, 2, 2, 2, 0, 1, 1, 0, 1, 1));
    }

    private static void digestChangesNothing() {
        RunCuts x = Due.read("1!12;?03!0;7");
        long first = x.digest();
        Due.due("digest() again", x.digest(), first);
        x.allow(0, 2);
        Due.due("digest() differs", x.digest() == first ? 1 : 0, 0);
        x.allow(0, 1023);
        Due.due("digest() back", x.digest(), first);
        x.local(2, 4);
        x.back(2);
        Due.due("digest() after back()", x.digest(), first);
    }
}
