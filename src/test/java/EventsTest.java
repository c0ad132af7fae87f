/** Promises 6 to 11: events that are added, removed, told and compared. */
public final class EventsTest {
    public static void main(String[] args) {
        locals();
        sends();
        receives();
        backs();
        room();
        whatChangesRemove();
        properties();
        vectors();
        orders();
        Due.end();
    }

    private static void locals() {
        RunCuts x = Due.read(";;");
        Due.due("local(0, 0)", x.local(0, 0), 1);
        Due.due("local(0, 9)", x.local(0, 9), 2);
        Due.due("local(2, 5)", x.local(2, 5), 1);
        Due.due("local(0, 10)", x.local(0, 10), RunCuts.OUTSIDE);
        Due.due("local(0, -1)", x.local(0, -1), RunCuts.OUTSIDE);
        Due.due("local(3, 1)", x.local(3, 1), RunCuts.UNKNOWN);
        Due.due("local(-1, 1)", x.local(-1, 1), RunCuts.UNKNOWN);
        Due.due("local(3, 10)", x.local(3, 10), RunCuts.UNKNOWN);
        Due.due("local(MIN, 1)", x.local(Integer.MIN_VALUE, 1), RunCuts.UNKNOWN);
        Due.due("local(0, MAX)", x.local(0, Integer.MAX_VALUE), RunCuts.OUTSIDE);
        Due.due("event(0, 1, 1)", x.event(0, 1, 1), 9);
        Due.due("value(201, 0)", x.value(201, 0), 9);
        Due.due("value(201, 2)", x.value(201, 2), 5);
        Due.due("count(1)", x.count(1), 3);
    }

    private static void sends() {
        RunCuts x = Due.read(";");
        Due.due("send(0, 0)", x.send(0, 0), RunCuts.UNKNOWN);
        Due.due("send(0, 2)", x.send(0, 2), RunCuts.UNKNOWN);
        Due.due("send(2, 0)", x.send(2, 0), RunCuts.UNKNOWN);
        Due.due("send(0, -1)", x.send(0, -1), RunCuts.UNKNOWN);
        Due.due("send(0, 1)", x.send(0, 1), 1);
        Due.due("send(0, 1)", x.send(0, 1), 2);
        Due.due("event(0, 0, 0)", x.event(0, 0, 0), 1);
        Due.due("event(0, 0, 1)", x.event(0, 0, 1), 1);
        Due.due("event(0, 0, 2)", x.event(0, 0, 2), RunCuts.NONE);
        Due.due("cut(20, 4)", x.cut(20, 4), 2);
    }

    private static void receives() {
        RunCuts x = Due.read(";;");
        Due.due("receive(1, 0)", x.receive(1, 0), RunCuts.STATE);
        Due.due("receive(1, 1)", x.receive(1, 1), RunCuts.UNKNOWN);
        Due.due("receive(1, 3)", x.receive(1, 3), RunCuts.UNKNOWN);
        Due.due("receive(3, 1)", x.receive(3, 1), RunCuts.UNKNOWN);
        x.send(0, 1);
        x.send(0, 2);
        x.send(0, 1);
        Due.due("receive(0, 1)", x.receive(0, 1), RunCuts.STATE);
        Due.due("receive(1, 2)", x.receive(1, 2), RunCuts.STATE);
        Due.due("receive(1, 0)", x.receive(1, 0), 1);
        Due.due("receive(1, 0)", x.receive(1, 0), 2);
        Due.due("receive(1, 0)", x.receive(1, 0), RunCuts.STATE);
        Due.due("receive(2, 0)", x.receive(2, 0), 1);
        Due.due("partner of the first", x.event(1, 0, 2), 0);
        Due.due("partner of the second", x.event(1, 1, 2), 2);
        Due.due("partner of the third", x.event(2, 0, 2), 1);
        Due.due("partner of the send", x.event(0, 2, 2), 1);
    }

    private static void backs() {
        RunCuts x = Due.read("1!1;2?0");
        Due.due("back(-1)", x.back(-1), RunCuts.UNKNOWN);
        Due.due("back(2)", x.back(2), RunCuts.UNKNOWN);
        Due.due("back(0), sent", x.back(0), RunCuts.STATE);
        Due.due("back(1)", x.back(1), 1);
        Due.due("partner is gone", x.event(0, 1, 2), RunCuts.NONE);
        Due.due("event(1, 1, 0)", x.event(1, 1, 0), RunCuts.UNKNOWN);
        Due.due("receive(1, 0)", x.receive(1, 0), 2);
        Due.due("back(1)", x.back(1), 1);
        Due.due("back(0)", x.back(0), 1);
        Due.due("receive(1, 0)", x.receive(1, 0), RunCuts.STATE);
        Due.due("back(0)", x.back(0), 0);
        Due.due("back(0), empty", x.back(0), RunCuts.STATE);
        Due.due("back(1)", x.back(1), 0);
        Due.due("count(1)", x.count(1), 0);
        Due.due("lattice(0)", x.lattice(0), 1);
    }

    private static void room() {
        RunCuts x = Due.read("012345678;");
        Due.due("local(0, 1), nine", x.local(0, 1), RunCuts.FULL);
        Due.due("local(0, 10), nine", x.local(0, 10), RunCuts.OUTSIDE);
        Due.due("send(0, 1), nine", x.send(0, 1), RunCuts.FULL);
        Due.due("send(0, 0), nine", x.send(0, 0), RunCuts.UNKNOWN);
        Due.due("receive(0, 1), nine, no partner", x.receive(0, 1), RunCuts.STATE);
        Due.due("send(1, 0)", x.send(1, 0), 1);
        Due.due("receive(0, 1), nine", x.receive(0, 1), RunCuts.FULL);
        Due.due("back(0)", x.back(0), 8);
        Due.due("receive(0, 1)", x.receive(0, 1), 9);
        for (int i = 2; i <= 7; i++) Due.due("local(1, 1)", x.local(1, 1), i);
        Due.due("local(1, 1), sixteen", x.local(1, 1), RunCuts.FULL);
        Due.due("send(1, 0), sixteen", x.send(1, 0), RunCuts.FULL);
        Due.due("receive(1, 0), sixteen, no partner", x.receive(1, 0), RunCuts.STATE);
        RunCuts y = Due.read("!1!1!1!1;!0!0!0!0;!0!0!0!0;!0!0!0!0");
        Due.due("receive(1, 0), sixteen", y.receive(1, 0), RunCuts.FULL);
        Due.due("back(3)", y.back(3), 3);
        Due.due("receive(1, 0)", y.receive(1, 0), 5);
    }

    private static void whatChangesRemove() {
        for (int change = 0; change < 4; change++) {
            RunCuts x = Due.read("1!1;");
            x.allow(0, 6);
            x.wish(3, 1);
            x.play(0);
            x.shot(0, 1);
            x.local(5, 0);
            x.local(0, 10);
            x.send(0, 0);
            x.receive(0, 1);
            x.back(1);
            Due.due("shots(0) after refusals", x.shots(0), 10);
            Due.due("played(1) after refusals", x.played(1), 0);
            if (change == 0) x.local(0, 1);
            if (change == 1) x.send(0, 1);
            if (change == 2) x.receive(1, 0);
            if (change == 3) x.back(0);
            Due.due("shots(0) after change " + change, x.shots(0), RunCuts.STATE);
            Due.due("played(0) after change " + change, x.played(0), RunCuts.UNKNOWN);
            Due.due("shot(0, 0) after change " + change, x.shot(0, 0), RunCuts.STATE);
            Due.due("allow(0, 0) after change " + change, x.allow(0, 0), 6);
            Due.due("wish(0, 0) after change " + change, x.wish(0, 0), 3);
            Due.due("count(6) after change " + change, x.count(6), 1);
        }
    }

    private static void properties() {
        RunCuts x = Due.read("1!1;?0!0!0");
        Due.due("event(-1, 0, 0)", x.event(-1, 0, 0), RunCuts.UNKNOWN);
        Due.due("event(2, 0, 0)", x.event(2, 0, 0), RunCuts.UNKNOWN);
        Due.due("event(0, -1, 0)", x.event(0, -1, 0), RunCuts.UNKNOWN);
        Due.due("event(0, 2, 0)", x.event(0, 2, 0), RunCuts.UNKNOWN);
        Due.due("event(0, 2, 7)", x.event(0, 2, 7), RunCuts.UNKNOWN);
        Due.due("event(0, MAX, 0)", x.event(0, Integer.MAX_VALUE, 0), RunCuts.UNKNOWN);
        Due.due("event(0, 0, 7)", x.event(0, 0, 7), RunCuts.OUTSIDE);
        Due.due("event(0, 0, -1)", x.event(0, 0, -1), RunCuts.OUTSIDE);
        row(x, 0, 0, 0, 1, -1, 1, 0, -1, -1);
        row(x, 0, 1, 1, 1, 0, 2, 0, -1, -1);
        row(x, 1, 0, 2, 0, 1, 2, 1, -1, -1);
        row(x, 1, 1, 1, 0, -1, 2, 2, -1, -1);
        row(x, 1, 2, 1, 0, -1, 2, 3, -1, -1);
    }

    private static void vectors() {
        RunCuts x = Due.read("!1?2;?0!3;?3!0;?1!2");
        row(x, 0, 0, 1, 1, 0, 1, 0, 0, 0);
        row(x, 1, 0, 2, 0, 0, 1, 1, 0, 0);
        row(x, 1, 1, 1, 3, 0, 1, 2, 0, 0);
        row(x, 3, 0, 2, 1, 1, 1, 2, 0, 1);
        row(x, 3, 1, 1, 2, 0, 1, 2, 0, 2);
        row(x, 2, 0, 2, 3, 1, 1, 2, 1, 2);
        row(x, 2, 1, 1, 0, 1, 1, 2, 2, 2);
        row(x, 0, 1, 2, 2, 1, 2, 2, 2, 2);
    }

    private static void row(RunCuts x, int p, int e, int... wants) {
        for (int what = 0; what < wants.length; what++) {
            Due.due("event(" + p + ", " + e + ", " + what + ")", x.event(p, e, what), wants[what]);
        }
    }

    private static void orders() {
        RunCuts x = Due.read("1!1?2;?02!2;?1!0");
        Due.due("same", x.order(0, 1, 0, 1), 2);
        Due.due("same process", x.order(0, 0, 0, 2), 1);
        Due.due("same process, back", x.order(0, 2, 0, 0), -1);
        Due.due("message", x.order(0, 1, 1, 0), 1);
        Due.due("message, back", x.order(1, 0, 0, 1), -1);
        Due.due("two messages", x.order(0, 0, 2, 0), 1);
        Due.due("all round", x.order(1, 0, 0, 2), 1);
        Due.due("same numbers", x.order(0, 0, 1, 0), 1);
        RunCuts y = Due.read("12;34");
        Due.due("neither", y.order(0, 0, 1, 1), 0);
        Due.due("neither", y.order(1, 0, 0, 0), 0);
        Due.due("order(0, 2, 0, 0)", y.order(0, 2, 0, 0), RunCuts.UNKNOWN);
        Due.due("order(0, 0, 0, 2)", y.order(0, 0, 0, 2), RunCuts.UNKNOWN);
        Due.due("order(2, 0, 0, 0)", y.order(2, 0, 0, 0), RunCuts.UNKNOWN);
        Due.due("order(0, 0, -1, 0)", y.order(0, 0, -1, 0), RunCuts.UNKNOWN);
        Due.due("order(5, 5, 5, 5)", y.order(5, 5, 5, 5), RunCuts.UNKNOWN);
    }
}
