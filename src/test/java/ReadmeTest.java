import java.io.File;
import java.io.IOException;
import java.lang.reflect.Method;
import java.lang.reflect.Modifier;
import java.nio.file.Files;
import java.nio.file.Path;
import java.util.Set;
import java.util.TreeSet;
import java.util.regex.Matcher;
import java.util.regex.Pattern;

/** README.md: its calls answer what stands behind them, and it names all methods, errors and tests. */
public final class ReadmeTest {
    private static final Pattern TYPING = Pattern.compile(
        "for \\(char c : \"(.*)\"\\.toCharArray\\(\\)\\) x\\.letter\\(c\\);");
    private static final Pattern CALL = Pattern.compile("x\\.(\\w+)\\(([-0-9, ]*)\\); +// (-?[0-9]+)\\b.*");

    private static RunCuts x = null;
    private static int calls = 0;

    private ReadmeTest() {
    }

    public static void main(String[] args) throws ReflectiveOperationException, IOException {
        Set<String> quoted = new TreeSet<>();
        boolean java = false;
        for (String line : Files.readAllLines(Path.of("README.md"))) {
            if (line.startsWith("```")) java = line.equals("```java");
            else if (java) follow(line);
            Matcher words = Pattern.compile("`(\\w+)`").matcher(line);
            while (line.startsWith("|") && words.find()) quoted.add(words.group(1));
        }
        Due.due("README.md shows calls", calls > 20 ? 1 : 0, 1);
        Set<String> due = new TreeSet<>();
        for (Method method : RunCuts.class.getDeclaredMethods()) {
            if (Modifier.isPublic(method.getModifiers())) due.add(method.getName());
        }
        for (String file : new File("src/test/java").list()) {
            if (file.endsWith("Test.java")) due.add(file.replace(".java", ""));
        }
        for (String error : new String[] {"UNKNOWN", "OUTSIDE", "STATE", "FULL"}) due.add(error);
        for (String name : due) Due.due("README.md names " + name, quoted.contains(name) ? 1 : 0, 1);
        Due.end();
    }

    private static void follow(String line) throws ReflectiveOperationException {
        Matcher typing = TYPING.matcher(line);
        Matcher call = CALL.matcher(line);
        if (line.equals("RunCuts x = new RunCuts();")) x = new RunCuts();
        else if (typing.matches()) Due.type(x, typing.group(1));
        else if (call.matches()) make(call.group(1), call.group(2), Long.parseLong(call.group(3)));
        else Due.due("lines like " + line, 1, 0);
    }

    private static void make(String name, String list, long want) throws ReflectiveOperationException {
        String[] parts = list.isEmpty() ? new String[0] : list.split(", ");
        Class<?>[] types = new Class<?>[parts.length];
        Object[] values = new Object[parts.length];
        for (int i = 0; i < parts.length; i++) {
            types[i] = int.class;
            values[i] = Integer.valueOf(parts[i]);
        }
        Number got = (Number) RunCuts.class.getMethod(name, types).invoke(x, values);
        calls++;
        Due.due(name + "(" + list + ") of README.md", got.longValue(), want);
    }
}
