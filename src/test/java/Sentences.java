import java.io.IOException;
import java.nio.file.Files;
import java.nio.file.Path;
import java.util.LinkedHashMap;
import java.util.Map;

/**
 * Ties each test to the sentence of the document that it looks at: a sentence that the document does
 * not have, a test that looks at nothing, and words of the document without a test are all faults.
 */
final class Sentences {
    private static final Path DOCUMENT = Path.of("../shared/DOC.md");
    private static final Map<String, String> CHAPTERS = new LinkedHashMap<>();
    private static final Map<String, boolean[]> QUOTED = new LinkedHashMap<>();
    private static String heading = "";
    private static int tests = 0;

    private Sentences() {
    }

    static void open() throws IOException {
        StringBuilder text = new StringBuilder();
        String open = "";
        for (String line : Files.readAllLines(DOCUMENT)) {
            if (line.startsWith("#")) {
                keep(open, text);
                open = line.replaceFirst("#+ ", "");
            } else if (!line.startsWith("----") && !line.startsWith("```")) {
                text.append(' ').append(line);
            }
        }
        keep(open, text);
    }

    /** Signatures and names of arguments, which stand between backquotes, are not sentences. */
    private static void keep(String open, StringBuilder text) {
        String words = text.toString().replaceAll("`[^`]*`", " ").replaceAll("\\s+", " ");
        CHAPTERS.put(open, words);
        QUOTED.put(open, new boolean[words.length()]);
        text.setLength(0);
    }

    static void chapter(String name) {
        heading = name;
        if (!CHAPTERS.containsKey(name)) Due.due("chapters that are called " + name, 0, 1);
    }

    static void holds(String sentence, Runnable test) {
        if (!mark(sentence)) Due.due("places in " + heading + " that say: " + sentence, 0, 1);
        int answers = Due.answers();
        int wrong = Due.wrongOnes();
        test.run();
        tests++;
        if (Due.answers() == answers) Due.due("answers looked at for: " + sentence, 0, 1);
        if (Due.wrongOnes() != wrong) System.out.println("BROKEN in " + heading + ": " + sentence);
    }

    private static boolean mark(String sentence) {
        String words = CHAPTERS.getOrDefault(heading, "");
        int at = words.indexOf(sentence);
        boolean found = at >= 0;
        while (at >= 0) {
            for (int i = at; i < at + sentence.length(); i++) QUOTED.get(heading)[i] = true;
            at = words.indexOf(sentence, at + 1);
        }
        return found;
    }

    /** All chapters of the description and of the promises must have been quoted whole. */
    static void end() {
        boolean promised = false;
        for (String name : CHAPTERS.keySet()) {
            if (name.equals("Computations")) promised = true;
            if (name.equals("Not promised")) promised = false;
            if (promised) seekUnquoted(name);
        }
        System.out.println(tests + " tests of sentences");
    }

    private static void seekUnquoted(String name) {
        String words = CHAPTERS.get(name);
        StringBuilder rest = new StringBuilder();
        for (int i = 0; i < words.length(); i++) {
            if (!QUOTED.get(name)[i]) rest.append(words.charAt(i));
        }
        String left = rest.toString().replaceAll("\\W+", " ").trim();
        Due.due("untested words of " + name + " (" + left + ")", left.length(), 0);
    }
}
