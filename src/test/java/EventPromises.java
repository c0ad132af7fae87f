/** Promises 6 to 11, sentence by sentence. */
final class EventPromises {
    private static final int NONE = RunCuts.NONE, UNKNOWN = RunCuts.UNKNOWN, OUTSIDE = RunCuts.OUTSIDE;
    private static final int STATE = RunCuts.STATE, FULL = RunCuts.FULL;
    private static final int[] STRANGE = {-1, 2, 3, 4, 9, 10, Integer.MIN_VALUE, Integer.MAX_VALUE};
    private static final String FULL_RUN = "1234!1!1!1!1!1;1234567";

    private EventPromises() {
    }

    static void test() {
        locals();
        sends();
        receives();
        backs();
        events();
        orders();
    }

    private static void locals() {
        Sentences.chapter("Promise 6: local");
        Sentences.holds("Appends a local event to a process.", EventPromises::localAppends);
        Sentences.holds("By this method, and by send(), receive() and back(), the play and the snapshot are removed.",
            EventPromises::playIsRemoved);
        Sentences.holds("number of the process", EventPromises::localProcess);
        Sentences.holds("the value, 0 to 9", EventPromises::localValue);
        Sentences.holds("Returns how many events the process has then;", EventPromises::localReturns);
        Sentences.holds("UNKNOWN if there is no such process", EventPromises::localUnknown);
        Sentences.holds("(or no computation);", EventPromises::noComputation);
        Sentences.holds("OUTSIDE if v is out of range;", EventPromises::localOutside);
        Sentences.holds("FULL if the process has nine events,", EventPromises::localNine);
        Sentences.holds("or there are sixteen.", EventPromises::localSixteen);
    }

    private static void localAppends() {
        RunCuts x = Due.read("1;2");
        x.local(1, 6);
        Due.due("event(1, 1, 0)", x.event(1, 1, 0), 0);
        Due.due("event(1, 1, 1)", x.event(1, 1, 1), 6);
        Due.due("event(1, 0, 1), the one before", x.event(1, 0, 1), 2);
        Due.due("event(0, 1, 0), the other process", x.event(0, 1, 0), UNKNOWN);
        Due.due("lattice(0)", x.lattice(0), 6);
    }

    private static void playIsRemoved() {
        for (int change = 0; change < 4; change++) {
            RunCuts x = Due.read("1!1;");
            x.play(0);
            x.shot(0, 1);
            Due.due("shots(0) before change " + change, x.shots(0), 10);
            if (change == 0) x.local(1, 0);
            if (change == 1) x.send(1, 0);
            if (change == 2) x.receive(1, 0);
            if (change == 3) x.back(0);
            Due.due("played(0) behind change " + change, x.played(0), UNKNOWN);
            Due.due("shot(0, 0) behind change " + change, x.shot(0, 0), STATE);
            Due.due("shots(0) behind change " + change, x.shots(0), STATE);
            Due.due("count(7) behind change " + change, x.count(7), 1);
        }
        RunCuts y = Due.read(";");
        y.play(0);
        y.shot(0, 0);
        y.local(2, 0);
        y.send(0, 0);
        y.receive(0, 1);
        y.back(0);
        Due.due("shots(0) behind calls that are refused", y.shots(0), 0);
    }

    private static void localProcess() {
        RunCuts x = Due.read(";;;");
        for (int p = 0; p < 4; p++) Due.due("local(" + p + ", 1)", x.local(p, 1), 1);
        for (int p = 0; p < 4; p++) Due.due("value(1111, " + p + ")", x.value(1111, p), 1);
    }

    private static void localValue() {
        RunCuts x = Due.read(";");
        for (int v = 0; v <= 8; v++) Due.due("local(0, " + v + ")", x.local(0, v), v + 1);
        Due.due("local(1, 9)", x.local(1, 9), 1);
        for (int v = 0; v <= 8; v++) Due.due("event(0, " + v + ", 1)", x.event(0, v, 1), v);
        Due.due("event(1, 0, 1)", x.event(1, 0, 1), 9);
    }

    private static void localReturns() {
        RunCuts x = Due.read(";12");
        Due.due("local(0, 1), the first", x.local(0, 1), 1);
        Due.due("local(1, 1), the third", x.local(1, 1), 3);
        for (int n = 2; n <= 9; n++) Due.due("local(0, 1)", x.local(0, 1), n);
    }

    private static void localUnknown() {
        RunCuts x = Due.read("1;2");
        for (int p : STRANGE) Due.refused(x, "local(" + p + ", 1)", () -> x.local(p, 1), UNKNOWN);
        Due.refused(x, "local(2, 10)", () -> x.local(2, 10), UNKNOWN);
        RunCuts y = Due.read("1;2;");
        Due.due("local(2, 1) of three", y.local(2, 1), 1);
        Due.refused(y, "local(3, 1) of three", () -> y.local(3, 1), UNKNOWN);
    }

    private static void noComputation() {
        RunCuts x = Due.typed(";");
        for (int p = -1; p <= 4; p++) {
            int process = p;
            Due.refused(x, "local(" + p + ", 0)", () -> x.local(process, 0), UNKNOWN);
            Due.refused(x, "local(" + p + ", 10)", () -> x.local(process, 10), UNKNOWN);
        }
    }

    private static void localOutside() {
        RunCuts x = Due.read("1;2");
        int[] values = {-1, 10, 11, 256, 65536, Integer.MIN_VALUE, Integer.MAX_VALUE};
        for (int v : values) Due.refused(x, "local(0, " + v + ")", () -> x.local(0, v), OUTSIDE);
        RunCuts y = Due.read(FULL_RUN);
        Due.refused(y, "local(0, 10), nine and sixteen", () -> y.local(0, 10), OUTSIDE);
        Due.refused(y, "local(1, -1), sixteen", () -> y.local(1, -1), OUTSIDE);
    }

    private static void localNine() {
        RunCuts x = Due.read("12345678;");
        Due.due("local(0, 9), the ninth", x.local(0, 9), 9);
        Due.refused(x, "local(0, 9), the tenth", () -> x.local(0, 9), FULL);
        Due.due("local(1, 9), another process", x.local(1, 9), 1);
        Due.due("back(0)", x.back(0), 8);
        Due.due("local(0, 9) again", x.local(0, 9), 9);
    }

    private static void localSixteen() {
        RunCuts x = Due.read("123456789;123456;");
        Due.due("local(2, 9), the sixteenth", x.local(2, 9), 1);
        Due.refused(x, "local(2, 9), the seventeenth", () -> x.local(2, 9), FULL);
        Due.refused(x, "local(1, 9), the seventeenth", () -> x.local(1, 9), FULL);
        Due.due("back(0)", x.back(0), 8);
        Due.due("local(1, 9) again", x.local(1, 9), 7);
    }

    private static void sends() {
        Sentences.chapter("Promise 7: send");
        Sentences.holds("Appends a send to a process.", EventPromises::sendAppends);
        Sentences.holds("number of the process", EventPromises::sendProcesses);
        Sentences.holds("the process to which the message is sent", EventPromises::sendProcesses);
        Sentences.holds("Returns how many events the process has then;", EventPromises::sendReturns);
        Sentences.holds("UNKNOWN if there is no such process", EventPromises::sendUnknown);
        Sentences.holds("(or no computation),", EventPromises::sendNoComputation);
        Sentences.holds("or both are the same;", EventPromises::sendToItself);
        Sentences.holds("FULL if the process has nine events,", EventPromises::sendNine);
        Sentences.holds("or there are sixteen.", EventPromises::sendSixteen);
    }

    private static void sendAppends() {
        RunCuts x = Due.read("1;;");
        x.send(0, 2);
        Due.due("event(0, 1, 0)", x.event(0, 1, 0), 1);
        Due.due("event(0, 1, 1)", x.event(0, 1, 1), 2);
        Due.due("event(0, 1, 2)", x.event(0, 1, 2), NONE);
        Due.due("cut(200, 4)", x.cut(200, 4), 1);
        Due.due("under(200, 0, 2)", x.under(200, 0, 2), 1);
        Due.due("value(200, 0)", x.value(200, 0), 1);
    }

    private static void sendProcesses() {
        RunCuts x = Due.read(";;;");
        int[] sizes = new int[4];
        for (int p = 0; p < 4; p++) {
            for (int q = 0; q < 4; q++) {
                if (p != q) Due.due("send(" + p + ", " + q + ")", x.send(p, q), ++sizes[p]);
            }
        }
        Due.due("event(3, 2, 1)", x.event(3, 2, 1), 2);
        Due.due("count(3)", x.count(3), 12);
    }

    private static void sendReturns() {
        RunCuts x = Due.read(";123");
        for (int n = 1; n <= 9; n++) Due.due("send(0, 1)", x.send(0, 1), n);
        Due.due("send(1, 0)", x.send(1, 0), 4);
    }

    private static void sendUnknown() {
        RunCuts x = Due.read("1;2");
        for (int p : STRANGE) {
            Due.refused(x, "send(" + p + ", 0)", () -> x.send(p, 0), UNKNOWN);
            Due.refused(x, "send(0, " + p + ")", () -> x.send(0, p), UNKNOWN);
        }
        RunCuts y = Due.read(FULL_RUN);
        Due.refused(y, "send(0, 2), nine and sixteen", () -> y.send(0, 2), UNKNOWN);
        Due.refused(y, "send(2, 0), sixteen", () -> y.send(2, 0), UNKNOWN);
    }

    private static void sendNoComputation() {
        RunCuts x = Due.typed(";");
        Due.refused(x, "send(0, 1)", () -> x.send(0, 1), UNKNOWN);
        Due.refused(x, "send(1, 0)", () -> x.send(1, 0), UNKNOWN);
        Due.refused(x, "send(0, 0)", () -> x.send(0, 0), UNKNOWN);
    }

    private static void sendToItself() {
        RunCuts x = Due.read(";;;");
        for (int p = 0; p < 4; p++) {
            int process = p;
            Due.refused(x, "send(" + p + ", " + p + ")", () -> x.send(process, process), UNKNOWN);
        }
        RunCuts y = Due.read(FULL_RUN);
        Due.refused(y, "send(0, 0), nine and sixteen", () -> y.send(0, 0), UNKNOWN);
    }

    private static void sendNine() {
        RunCuts x = Due.read(";12345678");
        Due.due("send(1, 0), the ninth", x.send(1, 0), 9);
        Due.refused(x, "send(1, 0), the tenth", () -> x.send(1, 0), FULL);
        Due.due("send(0, 1), another process", x.send(0, 1), 1);
    }

    private static void sendSixteen() {
        RunCuts x = Due.read("1234;1234;1234;123");
        Due.due("send(3, 0), the sixteenth", x.send(3, 0), 4);
        for (int p = 0; p < 4; p++) {
            int process = p;
            int other = 3 - p;
            Due.refused(x, "send(" + p + ", " + other + ")", () -> x.send(process, other), FULL);
        }
    }

    private static void receives() {
        Sentences.chapter("Promise 8: receive");
        Sentences.holds("Appends a receive to a process.", EventPromises::receiveAppends);
        Sentences.holds("number of the process", EventPromises::receiveProcesses);
        Sentences.holds("the process from which the message comes", EventPromises::receiveProcesses);
        Sentences.holds("Returns how many events the process has then;", EventPromises::receiveReturns);
        Sentences.holds("UNKNOWN if there is no such process", EventPromises::receiveUnknown);
        Sentences.holds("(or no computation),", EventPromises::receiveNoComputation);
        Sentences.holds("or both are the same;", EventPromises::receiveFromItself);
        Sentences.holds("STATE if it would have no partner;", EventPromises::receiveNoPartner);
        Sentences.holds("FULL if the process has nine events,", EventPromises::receiveNine);
        Sentences.holds("or there are sixteen.", EventPromises::receiveSixteen);
    }

    private static void receiveAppends() {
        RunCuts x = Due.read("5!2!2;;1");
        x.receive(2, 0);
        Due.due("event(2, 1, 0)", x.event(2, 1, 0), 2);
        Due.due("event(2, 1, 1)", x.event(2, 1, 1), 0);
        Due.due("event(2, 1, 2)", x.event(2, 1, 2), 1);
        Due.due("event(0, 1, 2)", x.event(0, 1, 2), 1);
        Due.due("event(0, 2, 2)", x.event(0, 2, 2), NONE);
        Due.due("event(2, 1, 3)", x.event(2, 1, 3), 2);
        Due.due("cut(102, 0)", x.cut(102, 0), 0);
        Due.due("cut(302, 4)", x.cut(302, 4), 1);
    }

    private static void receiveProcesses() {
        RunCuts x = Due.read("!1!2;!2!3;!3!0;!0!1");
        for (int p = 0; p < 4; p++) {
            int from = (p + 3) % 4;
            Due.due("receive(" + p + ", " + from + ")", x.receive(p, from), 3);
            Due.due("event(" + p + ", 2, 1)", x.event(p, 2, 1), from);
            Due.due("event(" + from + ", 0, 2)", x.event(from, 0, 2), 2);
        }
    }

    private static void receiveReturns() {
        RunCuts x = Due.read("!1!1!1;77");
        for (int n = 3; n <= 5; n++) Due.due("receive(1, 0)", x.receive(1, 0), n);
    }

    private static void receiveUnknown() {
        RunCuts x = Due.read("!1;!0");
        for (int p : STRANGE) {
            Due.refused(x, "receive(" + p + ", 0)", () -> x.receive(p, 0), UNKNOWN);
            Due.refused(x, "receive(0, " + p + ")", () -> x.receive(0, p), UNKNOWN);
        }
    }

    private static void receiveNoComputation() {
        RunCuts x = Due.typed("!1;");
        Due.refused(x, "receive(1, 0)", () -> x.receive(1, 0), UNKNOWN);
        Due.refused(x, "receive(0, 1)", () -> x.receive(0, 1), UNKNOWN);
        Due.refused(x, "receive(0, 0)", () -> x.receive(0, 0), UNKNOWN);
    }

    private static void receiveFromItself() {
        RunCuts x = Due.read("!1!2!3;!0!2!3;!0!1!3;!0!1!2");
        for (int p = 0; p < 4; p++) {
            int process = p;
            Due.refused(x, "receive(" + p + ", " + p + ")", () -> x.receive(process, process), UNKNOWN);
        }
        RunCuts y = Due.read(FULL_RUN);
        Due.refused(y, "receive(0, 0), nine and sixteen", () -> y.receive(0, 0), UNKNOWN);
    }

    private static void receiveNoPartner() {
        RunCuts x = Due.read("!1;;!1");
        Due.refused(x, "receive(0, 1), nothing sent", () -> x.receive(0, 1), STATE);
        Due.refused(x, "receive(2, 0), sent to another", () -> x.receive(2, 0), STATE);
        Due.due("receive(1, 0)", x.receive(1, 0), 1);
        Due.refused(x, "receive(1, 0), one sent, two received", () -> x.receive(1, 0), STATE);
        Due.due("receive(1, 2), sent by another", x.receive(1, 2), 2);
        Due.due("back(1)", x.back(1), 1);
        Due.due("receive(1, 2) again", x.receive(1, 2), 2);
        Due.due("send(0, 1)", x.send(0, 1), 2);
        Due.due("receive(1, 0), two sent", x.receive(1, 0), 3);
        RunCuts y = Due.read(FULL_RUN);
        Due.refused(y, "receive(0, 1), nine and sixteen", () -> y.receive(0, 1), STATE);
        RunCuts z = Due.read("!1;");
        z.back(0);
        Due.refused(z, "receive(1, 0), the send has been removed", () -> z.receive(1, 0), STATE);
    }

    private static void receiveNine() {
        RunCuts x = Due.read("!1!1;12345678");
        Due.due("receive(1, 0), the ninth", x.receive(1, 0), 9);
        Due.refused(x, "receive(1, 0), the tenth", () -> x.receive(1, 0), FULL);
    }

    private static void receiveSixteen() {
        RunCuts x = Due.read("!1!1!1!1;123;1234;1234");
        Due.due("receive(1, 0), the sixteenth", x.receive(1, 0), 4);
        Due.refused(x, "receive(1, 0), the seventeenth", () -> x.receive(1, 0), FULL);
    }

    private static void backs() {
        Sentences.chapter("Promise 9: back");
        Sentences.holds("Removes the last event of a process.", EventPromises::backRemoves);
        Sentences.holds("number of the process", EventPromises::backProcesses);
        Sentences.holds("Returns how many events it has left;", EventPromises::backReturns);
        Sentences.holds("UNKNOWN if there is no such process", EventPromises::backUnknown);
        Sentences.holds("(or no computation);", EventPromises::backNoComputation);
        Sentences.holds("STATE if it has no events,", EventPromises::backNoEvents);
        Sentences.holds("or the last one is a send that has a partner.", EventPromises::backPartner);
    }

    private static void backRemoves() {
        RunCuts x = Due.read("12;34");
        x.back(0);
        Due.due("event(0, 0, 1)", x.event(0, 0, 1), 1);
        Due.due("event(0, 1, 0)", x.event(0, 1, 0), UNKNOWN);
        Due.due("event(1, 1, 1)", x.event(1, 1, 1), 4);
        Due.due("lattice(0)", x.lattice(0), 6);
        Due.due("cut(20, 0)", x.cut(20, 0), UNKNOWN);
        RunCuts y = Due.read("!1;3?0");
        y.back(1);
        Due.due("the partner of the send, its receive removed", y.event(0, 0, 2), NONE);
        Due.due("back(0), its receive removed", y.back(0), 0);
        Due.due("count(3)", y.count(3), 0);
    }

    private static void backProcesses() {
        RunCuts x = Due.read("1;2;3;4");
        for (int p = 3; p >= 0; p--) Due.due("back(" + p + ")", x.back(p), 0);
        Due.due("count(1)", x.count(1), 0);
        Due.due("count(0)", x.count(0), 4);
    }

    private static void backReturns() {
        RunCuts x = Due.read("123456789;1");
        for (int n = 8; n >= 0; n--) Due.due("back(0)", x.back(0), n);
        Due.due("back(1)", x.back(1), 0);
        Due.due("local(0, 5) of the empty process", x.local(0, 5), 1);
    }

    private static void backUnknown() {
        RunCuts x = Due.read("1;2");
        for (int p : STRANGE) Due.refused(x, "back(" + p + ")", () -> x.back(p), UNKNOWN);
    }

    private static void backNoComputation() {
        RunCuts x = Due.typed("1;2");
        for (int p = -1; p <= 4; p++) {
            int process = p;
            Due.refused(x, "back(" + p + ")", () -> x.back(process), UNKNOWN);
        }
    }

    private static void backNoEvents() {
        RunCuts x = Due.read(";1");
        x.play(0);
        x.shot(1, 1);
        Due.refused(x, "back(0)", () -> x.back(0), STATE);
        Due.due("back(1)", x.back(1), 0);
        Due.refused(x, "back(1)", () -> x.back(1), STATE);
    }

    private static void backPartner() {
        RunCuts x = Due.read("!1!1;?0");
        Due.due("back(0), a send without a partner", x.back(0), 1);
        Due.refused(x, "back(0), a send with a partner", () -> x.back(0), STATE);
        Due.due("back(1), a receive", x.back(1), 0);
        Due.due("back(0), a send without a partner", x.back(0), 0);
        Due.due("back(0), not the last one has a partner", Due.read("!15;?0").back(0), 1);
    }

    private static void events() {
        Sentences.chapter("Promise 10: event");
        Sentences.holds("Returns a property of an event.", EventPromises::eventProperties);
        Sentences.holds("number of the process", EventPromises::eventProcesses);
        Sentences.holds("number of the event", EventPromises::eventNumbers);
        Sentences.holds("0: its kind;", EventPromises::eventKinds);
        Sentences.holds("1: its value, or the other process;", EventPromises::eventDetails);
        Sentences.holds("2: the number of its partner in the other process, NONE if there is none;",
            EventPromises::eventPartners);
        Sentences.holds("3 + p: the number of its vector for process p, 0 to 3, NONE if there is no process p",
            EventPromises::eventVectors);
        Sentences.holds("Returns the property;", EventPromises::eventProperties);
        Sentences.holds("UNKNOWN if there is no such event;", EventPromises::eventUnknown);
        Sentences.holds("OUTSIDE if what is not 0 to 6.", EventPromises::eventOutside);
    }

    private static void row(RunCuts x, int p, int e, int... wants) {
        for (int what = 0; what < wants.length; what++) {
            Due.due("event(" + p + ", " + e + ", " + what + ")", x.event(p, e, what), wants[what]);
        }
    }

    private static void eventProperties() {
        RunCuts x = Due.read("!3;;;4?0");
        row(x, 0, 0, 1, 3, 1, 1, 0, 0, 0);
        row(x, 3, 0, 0, 4, NONE, 0, 0, 0, 1);
        row(x, 3, 1, 2, 0, 0, 1, 0, 0, 2);
    }

    private static void eventProcesses() {
        RunCuts x = Due.read("1;2;3;4");
        for (int p = 0; p < 4; p++) Due.due("event(" + p + ", 0, 1)", x.event(p, 0, 1), p + 1);
    }

    private static void eventNumbers() {
        RunCuts x = Due.read("012345678;");
        for (int e = 0; e < 9; e++) Due.due("event(0, " + e + ", 1)", x.event(0, e, 1), e);
        for (int e = 0; e < 9; e++) Due.due("event(0, " + e + ", 3)", x.event(0, e, 3), e + 1);
    }

    private static void eventKinds() {
        RunCuts x = Due.read("1!1?1;!0?0");
        for (int e = 0; e < 3; e++) Due.due("event(0, " + e + ", 0)", x.event(0, e, 0), e);
    }

    private static void eventDetails() {
        RunCuts x = Due.read("90!2!1;?0;?0");
        int[] wants = {9, 0, 2, 1};
        for (int e = 0; e < 4; e++) Due.due("event(0, " + e + ", 1)", x.event(0, e, 1), wants[e]);
        Due.due("event(2, 0, 1)", x.event(2, 0, 1), 0);
    }

    private static void eventPartners() {
        RunCuts x = Due.read("123456!1!1;123456?0");
        Due.due("the partner of a local event", x.event(0, 0, 2), NONE);
        Due.due("the partner of a send", x.event(0, 6, 2), 6);
        Due.due("the partner of a send that has none", x.event(0, 7, 2), NONE);
        Due.due("the partner of a receive", x.event(1, 6, 2), 6);
    }

    private static void eventVectors() {
        RunCuts x = Due.read("1;2");
        row(x, 0, 0, 0, 1, NONE, 1, 0, NONE, NONE);
        row(Due.read("1;2;"), 1, 0, 0, 2, NONE, 0, 1, 0, NONE);
        row(Due.read("1;2;;"), 0, 0, 0, 1, NONE, 1, 0, 0, 0);
        row(Due.read(";;;123456789"), 3, 8, 0, 9, NONE, 0, 0, 0, 9);
        row(Due.read("12!1;?0!2;?1!3;?2"), 3, 0, 2, 2, 1, 3, 2, 2, 1);
    }

    private static void eventUnknown() {
        RunCuts x = Due.read("1;23");
        int[] numbers = {-1, 2, 3, 9, 36, Integer.MIN_VALUE, Integer.MAX_VALUE};
        for (int n : numbers) {
            Due.refused(x, "event(" + n + ", 0, 0)", () -> x.event(n, 0, 0), UNKNOWN);
            Due.refused(x, "event(1, " + n + ", 0)", () -> x.event(1, n, 0), UNKNOWN);
            Due.refused(x, "event(1, " + n + ", 7)", () -> x.event(1, n, 7), UNKNOWN);
        }
        Due.refused(x, "event(0, 1, 0), of the other process", () -> x.event(0, 1, 0), UNKNOWN);
        RunCuts y = new RunCuts();
        Due.refused(y, "event(0, 0, 0), no computation", () -> y.event(0, 0, 0), UNKNOWN);
        Due.refused(y, "event(0, 0, 7), no computation", () -> y.event(0, 0, 7), UNKNOWN);
    }

    private static void eventOutside() {
        RunCuts x = Due.read("1;23");
        int[] whats = {-1, 7, 8, Integer.MIN_VALUE, Integer.MAX_VALUE};
        for (int what : whats) Due.refused(x, "event(0, 0, " + what + ")", () -> x.event(0, 0, what), OUTSIDE);
    }

    private static void orders() {
        Sentences.chapter("Promise 11: order");
        Sentences.holds("Compares two events.", EventPromises::orderOfOneProcess);
        Sentences.holds("the process of the first event", EventPromises::orderOfTwoProcesses);
        Sentences.holds("number of the first event", EventPromises::orderOfOneProcess);
        Sentences.holds("the process of the second event", EventPromises::orderOfTwoProcesses);
        Sentences.holds("number of the second event", EventPromises::orderOfOneProcess);
        Sentences.holds("Returns 1 if the first event is before the second one,", EventPromises::orderBefore);
        Sentences.holds("-1 if the second one is before the first one,", EventPromises::orderBehind);
        Sentences.holds("0 if neither is,", EventPromises::orderNeither);
        Sentences.holds("2 if they are the same event;", EventPromises::orderSame);
        Sentences.holds("UNKNOWN if one of them does not exist.", EventPromises::orderUnknown);
    }

    private static void order(String text, int p, int one, int q, int other, int want) {
        String call = "order(" + p + ", " + one + ", " + q + ", " + other + ") of " + text;
        Due.due(call, Due.read(text).order(p, one, q, other), want);
    }

    private static void orderOfOneProcess() {
        RunCuts x = Due.read("123456789;1");
        for (int e = 0; e < 9; e++) {
            for (int f = 0; f < 9; f++) {
                Due.due("order(0, " + e + ", 0, " + f + ")", x.order(0, e, 0, f), e == f ? 2 : e < f ? 1 : -1);
            }
        }
    }

    private static void orderOfTwoProcesses() {
        order(";;!3;?2", 2, 0, 3, 0, 1);
        order(";;!3;?2", 3, 0, 2, 0, -1);
        order("1;2;3;4", 0, 0, 3, 0, 0);
    }

    private static void orderBefore() {
        order("!1;?0", 0, 0, 1, 0, 1);
        order("1!1;?02", 0, 0, 1, 1, 1);
        order("!1;?0!2;?1!3;?2", 0, 0, 3, 0, 1);
        order("!1?1;?0!0", 0, 0, 0, 1, 1);
    }

    private static void orderBehind() {
        order("!1;?0", 1, 0, 0, 0, -1);
        order("1!1;?02", 1, 1, 0, 0, -1);
        order("!1;?0!2;?1!3;?2", 3, 0, 0, 0, -1);
        order("!1?1;?0!0", 0, 1, 0, 0, -1);
        order("!1?1;?0!0", 0, 1, 1, 0, -1);
    }

    private static void orderNeither() {
        order("1;2", 0, 0, 1, 0, 0);
        order("!12;?0", 0, 1, 1, 0, 0);
        order("!1;1?0", 0, 0, 1, 0, 0);
        order("!1!1;?0", 0, 1, 1, 0, 0);
        order("!1?1;!0?0", 0, 0, 1, 0, 0);
        order("!1?1;!0?0", 0, 1, 1, 1, 0);
    }

    private static void orderSame() {
        order("!1;?0", 0, 0, 0, 0, 2);
        order("!1;?0", 1, 0, 1, 0, 2);
        order(";;;123456789", 3, 8, 3, 8, 2);
    }

    private static void orderUnknown() {
        RunCuts x = Due.read("1;23");
        int[] numbers = {-1, 2, 3, 9, Integer.MIN_VALUE, Integer.MAX_VALUE};
        for (int n : numbers) {
            Due.refused(x, "order(" + n + ", 0, 1, 0)", () -> x.order(n, 0, 1, 0), UNKNOWN);
            Due.refused(x, "order(1, " + n + ", 1, 0)", () -> x.order(1, n, 1, 0), UNKNOWN);
            Due.refused(x, "order(1, 0, " + n + ", 0)", () -> x.order(1, 0, n, 0), UNKNOWN);
            Due.refused(x, "order(1, 0, 1, " + n + ")", () -> x.order(1, 0, 1, n), UNKNOWN);
            Due.refused(x, "order(1, " + n + ", 1, " + n + ")", () -> x.order(1, n, 1, n), UNKNOWN);
        }
        RunCuts y = new RunCuts();
        Due.refused(y, "order(0, 0, 0, 0), no computation", () -> y.order(0, 0, 0, 0), UNKNOWN);
    }
}
