import java.lang.reflect.Method;
import java.lang.reflect.Modifier;
import java.util.ArrayList;
import java.util.Arrays;
import java.util.List;

/** The document's chapter "Errors", and what stands before its description: the face, and the number of calls. */
final class ErrorSentences {
    private static final int NONE = RunCuts.NONE, UNKNOWN = RunCuts.UNKNOWN, OUTSIDE = RunCuts.OUTSIDE;
    private static final int STATE = RunCuts.STATE, FULL = RunCuts.FULL;
    private static final String FULL_PAGE = "123456789012345678901234567890123456";
    private static final String FULL_RUN = "123456789;1234567";
    private static final String MIXED = "1!12;?03!0;7";
    private static final int SCENARIOS = 7;

    private ErrorSentences() {
    }

    static void test() {
        Sentences.chapter("The public face");
        Sentences.holds("public static final int NONE = -1, UNKNOWN = -101, OUTSIDE = -102, STATE = -103,"
            + " FULL = -104;", ErrorSentences::constants);
        Sentences.holds("public RunCuts(); public int letter(int code);", ErrorSentences::signatures);
        Sentences.chapter("What it is");
        Sentences.holds("An object is used for at most 512 calls after it has been made;",
            ErrorSentences::fiveHundredAndTwelveCalls);
        Sentences.holds("what later calls answer is free.", ErrorSentences::laterCalls);
        Sentences.chapter("Errors");
        Sentences.holds("UNKNOWN (-101): there is no such process, event, cut, or other thing, as the method says.",
            ErrorSentences::unknown);
        Sentences.holds("OUTSIDE (-102): an argument is out of its range.", ErrorSentences::outside);
        Sentences.holds("STATE (-103): the call is not possible, as the method says.", ErrorSentences::state);
        Sentences.holds("FULL (-104): there is no room.", ErrorSentences::full);
        Sentences.holds("If several of them apply, the one that the method names first is returned.",
            ErrorSentences::firstNamed);
        Sentences.holds("A call that returns one of them changes nothing.", ErrorSentences::changesNothing);
        Sentences.holds("NONE (-1) means that there is no such value; it is returned only if no error applies.",
            ErrorSentences::none);
        Sentences.holds("(order() can also return -1 as its result.)", ErrorSentences::orderBackwards);
        Sentences.holds("The constructor and the methods follow, a promise each: the signature, then what it does.",
            ErrorSentences::signatures);
    }

    private static void constants() {
        Due.due("NONE", NONE, -1);
        Due.due("UNKNOWN", UNKNOWN, -101);
        Due.due("OUTSIDE", OUTSIDE, -102);
        Due.due("STATE", STATE, -103);
        Due.due("FULL", FULL, -104);
    }

    private static void fiveHundredAndTwelveCalls() {
        RunCuts x = new RunCuts();
        for (int i = 0; i < 170; i++) {
            Due.due("letter(';') of round " + i, x.letter(';'), 1);
            Due.due("run() of round " + i, x.run(), 2);
            Due.due("local(1, 9) of round " + i, x.local(1, 9), 1);
        }
        Due.due("count(6), call 511", x.count(6), 170);
        Due.due("value(1, 1), call 512", x.value(1, 1), 9);
    }

    private static void laterCalls() {
        RunCuts x = Due.read(FULL_RUN);
        int answered = 0;
        for (int i = 0; i < 3000; i++) {
            x.play(i);
            x.shot(i % 2, i % 17);
            x.allow(i % 2, i % 1024);
            x.digest();
            x.back(0);
            x.send(0, 1);
            answered++;
        }
        Due.due("rounds that end", answered, 3000);
    }

    private static void unknown() {
        RunCuts x = Due.read(MIXED);
        Due.due("a process", x.local(3, 1), -101);
        Due.due("an event", x.event(0, 3, 0), -101);
        Due.due("a cut", x.cut(400, 0), -101);
        Due.due("a level", x.level(8, 0), -101);
        Due.due("a place of a level", x.level(0, 1), -101);
        Due.due("a step of a path", x.around(7), -101);
        Due.due("an interval", x.interval(0, 1, 0), -101);
        Due.due("a step of a play", x.played(0), -101);
    }

    private static void outside() {
        RunCuts x = Due.read(MIXED);
        Due.due("a code", x.letter(127), -102);
        Due.due("a value", x.local(0, 10), -102);
        Due.due("a kind", x.wish(4, 0), -102);
        Due.due("a number", x.wish(0, 37), -102);
        Due.due("a bit mask", x.allow(0, 1024), -102);
        Due.due("a seed", x.play(-1), -102);
        Due.due("a what", x.count(8), -102);
    }

    private static void state() {
        RunCuts x = Due.read(MIXED);
        Due.due("no text of a computation", x.run(), -103);
        Due.due("no partner", x.receive(2, 0), -103);
        Due.due("a send with a partner", Due.read("!1;?0").back(0), -103);
        Due.due("a cut that is not consistent", x.cut(10, 2), -103);
        Due.due("no play", x.shot(0, 0), -103);
        Due.due("no snapshot", x.shots(0), -103);
        Due.due("no computation", new RunCuts().lattice(0), -103);
        x.wish(1, 0);
        Due.due("another kind", x.least(), -103);
    }

    private static void full() {
        Due.due("a page of 36", Due.typed(FULL_PAGE).letter('1'), -104);
        Due.due("a process of nine", Due.read("123456789;").local(0, 1), -104);
        Due.due("sixteen events", Due.read(FULL_RUN).send(1, 0), -104);
        Due.due("no room for a receive", Due.read("12345678;!0!0!0!0!0!0!0!0").receive(0, 1), -104);
    }

    private static void firstNamed() {
        firstNamedOfEvents();
        firstNamedOfCuts();
        firstNamedOfWishes();
        firstNamedOfPlays();
    }

    private static void firstNamedOfEvents() {
        RunCuts x = Due.read(FULL_RUN);
        Due.type(x, FULL_PAGE);
        Due.due("letter: OUTSIDE, FULL", x.letter(31), OUTSIDE);
        Due.due("local: UNKNOWN, OUTSIDE", x.local(2, 10), UNKNOWN);
        Due.due("local: OUTSIDE, FULL", x.local(0, 10), OUTSIDE);
        Due.due("send: UNKNOWN, FULL", x.send(0, 0), UNKNOWN);
        Due.due("send: UNKNOWN, FULL", x.send(0, 2), UNKNOWN);
        Due.due("receive: UNKNOWN, STATE, FULL", x.receive(0, 0), UNKNOWN);
        Due.due("receive: UNKNOWN, STATE, FULL", x.receive(0, 2), UNKNOWN);
        Due.due("receive: STATE, FULL", x.receive(0, 1), STATE);
        Due.due("event: UNKNOWN, OUTSIDE", x.event(0, 9, 7), UNKNOWN);
        Due.due("back: UNKNOWN, STATE", new RunCuts().back(0), UNKNOWN);
    }

    private static void firstNamedOfCuts() {
        RunCuts x = new RunCuts();
        Due.due("cut: STATE, UNKNOWN, OUTSIDE", x.cut(-1, 6), STATE);
        Due.due("value: STATE, UNKNOWN", x.value(-1, 0), STATE);
        Due.due("under: STATE, UNKNOWN", x.under(-1, 0, 0), STATE);
        Due.due("meet: STATE, UNKNOWN", x.meet(-1, -1), STATE);
        Due.due("join: STATE, UNKNOWN", x.join(-1, -1), STATE);
        Due.due("lattice: OUTSIDE, STATE", x.lattice(5), OUTSIDE);
        Due.due("level: STATE, UNKNOWN", x.level(-1, 0), STATE);
        RunCuts y = Due.read(MIXED);
        Due.due("cut: UNKNOWN, OUTSIDE", y.cut(400, 6), UNKNOWN);
        Due.due("cut: OUTSIDE, STATE", y.cut(10, 6), OUTSIDE);
        Due.due("under: UNKNOWN, STATE", y.under(10, 1, 1), UNKNOWN);
        Due.due("meet: UNKNOWN, STATE", y.meet(10, 400), UNKNOWN);
        Due.due("meet: UNKNOWN, STATE", y.meet(400, 10), UNKNOWN);
        Due.due("join: UNKNOWN, STATE", y.join(10, 400), UNKNOWN);
        Due.due("join: UNKNOWN, STATE", y.join(400, 10), UNKNOWN);
    }

    private static void firstNamedOfWishes() {
        RunCuts x = new RunCuts();
        Due.due("allow: UNKNOWN, OUTSIDE", x.allow(0, 1024), UNKNOWN);
        Due.due("wished: OUTSIDE, STATE", x.wished(4), OUTSIDE);
        Due.due("around: STATE, UNKNOWN", x.around(-1), STATE);
        Due.due("interval: STATE, UNKNOWN, OUTSIDE", x.interval(-1, -1, 2), STATE);
        Due.due("lean: OUTSIDE, STATE", x.lean(4), OUTSIDE);
        RunCuts y = Due.read(MIXED);
        Due.due("interval: UNKNOWN, OUTSIDE", y.interval(3, 0, 2), UNKNOWN);
        Due.due("interval: UNKNOWN, OUTSIDE", y.interval(0, 1, 2), UNKNOWN);
        y.wish(2, 0);
        Due.due("interval: STATE, UNKNOWN, OUTSIDE", y.interval(3, 9, 2), STATE);
        Due.due("lean: OUTSIDE, STATE", y.lean(-1), OUTSIDE);
    }

    private static void firstNamedOfPlays() {
        RunCuts x = new RunCuts();
        Due.due("play: STATE, OUTSIDE", x.play(-1), STATE);
        Due.due("shot: STATE, UNKNOWN, OUTSIDE", x.shot(-1, -1), STATE);
        Due.due("shots: OUTSIDE, STATE", x.shots(3), OUTSIDE);
        RunCuts y = Due.read(MIXED);
        Due.due("shot: STATE, UNKNOWN, OUTSIDE", y.shot(3, 8), STATE);
        y.play(0);
        Due.due("shot: UNKNOWN, OUTSIDE", y.shot(3, 8), UNKNOWN);
    }

    /** States in which each method is refused for each of its reasons. */
    private static RunCuts scenario(int number) {
        if (number == 0) return Due.typed("1!");
        if (number == 1) return Due.typed(FULL_PAGE);
        RunCuts x = Due.read(number == 2 ? ";" : number == 3 ? FULL_RUN : number == 4 ? "!1?1!1;!0?0;?3;!2" : MIXED);
        for (int p = 0; p < 4; p++) x.allow(p, 0b1110101011 >> p);
        if (number > 3) x.play(number);
        if (number > 3) x.shot(1, number - 1);
        if (number == 2) x.wish(3, 1);
        if (number == 4) x.wish(2, 0);
        if (number == 6) x.wish(1, 4);
        Due.type(x, number == 3 ? FULL_PAGE : "?1;");
        return x;
    }

    private static List<Long> told(RunCuts x) {
        List<Long> answers = new ArrayList<>();
        answers.add(x.digest());
        answers.add((long) x.wish(0, 0));
        for (int p = 0; p < 4; p++) answers.add((long) x.allow(p, 1));
        answers.add(x.digest());
        answers.add((long) x.fault());
        return answers;
    }

    private static void changesNothing() {
        int[] numbers = {Integer.MIN_VALUE, -1, 0, 1, 2, 4, 7, 10, 1024, Integer.MAX_VALUE};
        for (int number = 0; number < SCENARIOS; number++) {
            List<Long> before = told(scenario(number));
            for (Method method : RunCuts.class.getMethods()) {
                boolean asks = method.getDeclaringClass() == RunCuts.class && method.getReturnType() == int.class;
                if (asks) refuse(number, method, new ArrayList<>(), numbers, before);
            }
        }
    }

    private static void refuse(int number, Method method, List<Object> given, int[] numbers, List<Long> before) {
        if (given.size() < method.getParameterCount()) {
            for (int next : numbers) {
                given.add(next);
                refuse(number, method, given, numbers, before);
                given.remove(given.size() - 1);
            }
            return;
        }
        RunCuts x = scenario(number);
        int answer = ask(x, method, given);
        if (answer <= UNKNOWN && answer >= FULL) {
            String call = method.getName() + given + " of scenario " + number;
            Due.due("what stands behind " + call, told(x).equals(before) ? 1 : 0, 1);
        }
    }

    private static int ask(RunCuts x, Method method, List<Object> given) {
        try {
            return (Integer) method.invoke(x, given.toArray());
        } catch (ReflectiveOperationException thrown) {
            Due.due("exceptions of " + method.getName() + given, 1, 0);
            return NONE;
        }
    }

    private static void none() {
        RunCuts x = Due.read("5!1;");
        Due.due("a partner", x.event(0, 1, 2), NONE);
        Due.due("a partner of a local event", x.event(0, 0, 2), NONE);
        Due.due("a process of a vector", x.event(0, 0, 5), NONE);
        Due.due("a partner of no event", x.event(0, 2, 2), UNKNOWN);
        x.allow(0, 0);
        Due.due("a lowest cut", x.wished(2), NONE);
        Due.due("a least cut", x.least(), NONE);
        x.wish(1, 36);
        Due.due("a lowest cut of a sum", x.wished(2), NONE);
        Due.due("a least cut of a sum", x.least(), STATE);
    }

    private static void orderBackwards() {
        RunCuts x = Due.read("1!1;?0");
        Due.due("order(0, 1, 0, 0)", x.order(0, 1, 0, 0), -1);
        Due.due("order(1, 0, 0, 0)", x.order(1, 0, 0, 0), -1);
        Due.due("order(1, 0, 0, 2)", x.order(1, 0, 0, 2), UNKNOWN);
    }

    private static void signatures() {
        String ints = "letter1 blank0 fault0 run0 local2 send2 receive2 back1 event3 order4 cut2 value2 under3 meet2"
            + " join2 lattice1 level2 wish2 allow2 wished1 around1 least0 strong0 interval3 lean1 play1 played1"
            + " shot2 shots1 count1";
        List<String> wanted = new ArrayList<>(Arrays.asList(ints.split(" ")));
        for (Method method : RunCuts.class.getDeclaredMethods()) {
            if (!Modifier.isPublic(method.getModifiers())) continue;
            boolean known = method.getReturnType() == int.class
                ? wanted.remove(method.getName() + method.getParameterCount())
                : method.getName().equals("digest") && method.getReturnType() == long.class;
            Due.due("public " + method, known && !Modifier.isStatic(method.getModifiers()) ? 1 : 0, 1);
            for (Class<?> type : method.getParameterTypes()) {
                Due.due("int parameters of " + method, type == int.class ? 1 : 0, 1);
            }
        }
        Due.due("methods that are missing " + wanted, wanted.size(), 0);
        Due.due("constructors", RunCuts.class.getConstructors().length, 1);
        Due.due("fields of the face", RunCuts.class.getFields().length, 5);
    }
}
