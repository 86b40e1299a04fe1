import java.io.IOException;
import java.lang.reflect.Method;
import java.lang.reflect.Modifier;
import java.nio.file.Files;
import java.nio.file.Path;
import java.util.regex.Matcher;
import java.util.regex.Pattern;

/** README.md shows how to use the class: its example must be true, and no public method may be missing. */
public final class ReadmeTest {
    private static final Pattern MADE = Pattern.compile("StgSynth x = new StgSynth\\((-?\\d+), (-?\\d+)\\);.*");
    private static final Pattern CALL = Pattern.compile("x\\.(\\w+)\\((.*?)\\); +// (true|false|-?\\d+)\\b.*");
    private static final int LEAST_CALLS = 15;

    private static int wrong = 0;
    private static int calls = 0;
    private static StgSynth x;

    public static void main(String[] args) throws IOException, ReflectiveOperationException {
        String readme = Files.readString(Path.of("README.md"));
        boolean inExample = false;
        for (String line : readme.split("\n")) {
            if (line.startsWith("```")) {
                inExample = line.equals("```java");
            } else if (inExample) {
                tryLine(line);
            }
        }
        if (calls < LEAST_CALLS) {
            complain("the example has only " + calls + " calls");
        }
        checkNames(readme);
        System.out.println(wrong == 0 ? "README.md is true" : wrong + " things in README.md are not so");
        if (wrong != 0) {
            System.exit(1);
        }
    }

    private static void tryLine(String line) throws ReflectiveOperationException {
        Matcher made = MADE.matcher(line);
        Matcher call = CALL.matcher(line);
        if (made.matches()) {
            x = new StgSynth(Integer.parseInt(made.group(1)), Integer.parseInt(made.group(2)));
        } else if (call.matches()) {
            calls++;
            String got = String.valueOf(answer(call.group(1), call.group(2)));
            if (!got.equals(call.group(3))) {
                complain(line + " answered " + got);
            }
        } else {
            complain("a line that is neither a making nor a call with its answer: " + line);
        }
    }

    private static Object answer(String name, String arguments) throws ReflectiveOperationException {
        String[] words = arguments.isEmpty() ? new String[0] : arguments.split(", ");
        Object[] values = new Object[words.length];
        for (int i = 0; i < words.length; i++) {
            values[i] = value(words[i]);
        }
        for (Method method : StgSynth.class.getDeclaredMethods()) {
            if (Modifier.isPublic(method.getModifiers()) && method.getName().equals(name)) {
                return method.invoke(x, values);
            }
        }
        throw new NoSuchMethodException(name);
    }

    private static Object value(String word) throws ReflectiveOperationException {
        if (word.equals("true") || word.equals("false")) {
            return Boolean.valueOf(word);
        }
        if (word.startsWith("StgSynth.")) {
            return StgSynth.class.getField(word.substring("StgSynth.".length())).getInt(null);
        }
        return Integer.valueOf(word);
    }

    private static void checkNames(String readme) {
        for (Method method : StgSynth.class.getDeclaredMethods()) {
            if (Modifier.isPublic(method.getModifiers()) && !readme.contains("`" + method.getName() + "(")) {
                complain("no word on " + method.getName());
            }
        }
    }

    private static void complain(String words) {
        wrong++;
        System.out.println(words);
    }
}
