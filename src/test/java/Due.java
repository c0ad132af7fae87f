import java.util.function.IntSupplier;

/** Compares answers with those that are due, and ends a test. */
final class Due {
    private static int right = 0;
    private static int wrong = 0;

    private Due() {
    }

    static void due(String call, long got, long want) {
        if (got == want) {
            right++;
            return;
        }
        wrong++;
        if (wrong <= 40) System.out.println(call + " answered " + got + ", due is " + want);
    }

    /** A call that is refused answers so, and changes nothing that the digest tells of. */
    static void refused(RunCuts x, String call, IntSupplier made, int want) {
        long before = x.digest();
        due(call, made.getAsInt(), want);
        due("digest() after " + call, x.digest(), before);
    }

    static int answers() {
        return right + wrong;
    }

    static int wrongOnes() {
        return wrong;
    }

    static void type(RunCuts x, String text) {
        for (int i = 0; i < text.length(); i++) x.letter(text.charAt(i));
    }

    /** A new object with this page. */
    static RunCuts typed(String text) {
        RunCuts x = new RunCuts();
        type(x, text);
        return x;
    }

    /** A new object that has read the text. */
    static RunCuts read(String text) {
        RunCuts x = typed(text);
        int processes = x.run();
        if (processes < 2) due("run() of " + text, processes, 2);
        return x;
    }

    static int faultOf(String text) {
        return typed(text).fault();
    }

    static int runOf(String text) {
        return typed(text).run();
    }

    static void end() {
        System.out.println(right + " answers as due, " + wrong + " not");
        if (wrong != 0 || right == 0) System.exit(1);
    }
}
