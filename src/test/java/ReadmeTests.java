import java.io.IOException;
import java.lang.reflect.Method;
import java.lang.reflect.Modifier;
import java.nio.file.Files;
import java.nio.file.Path;
import java.util.TreeSet;
import java.util.regex.Matcher;
import java.util.regex.Pattern;

/** The examples of README.md: each answer is the one written behind it, and every call is shown. */
public final class ReadmeTests {
    private static final Check check = new Check();
    private static final Pattern TELL = Pattern.compile("tell\\(x, \"([^\"]*)\"\\);");
    private static final Pattern CALL = Pattern.compile("x\\.(\\w+)\\(([^)]*)\\); +// (-?\\d+).*");

    public static void main(String[] args) throws IOException, ReflectiveOperationException {
        PhraseSwaps x = new PhraseSwaps();
        TreeSet<String> shown = new TreeSet<>();
        for (String line : Files.readAllLines(Path.of("README.md"))) {
            Matcher tell = TELL.matcher(line);
            Matcher call = CALL.matcher(line);
            if (tell.matches()) {
                Check.tell(x, tell.group(1));
            } else if (call.matches()) {
                shown.add(call.group(1));
                check.due(line, answer(x, call.group(1), call.group(2)), Long.parseLong(call.group(3)));
            } else {
                check.due("an example without its answer: " + line, line.startsWith("x.") ? 1 : 0, 0);
            }
        }
        check.dueText("calls shown", shown.toString(), face().toString());
        check.finish("ReadmeTests");
    }

    private static TreeSet<String> face() {
        TreeSet<String> names = new TreeSet<>();
        for (Method method : PhraseSwaps.class.getDeclaredMethods()) {
            if (Modifier.isPublic(method.getModifiers())) {
                names.add(method.getName());
            }
        }
        return names;
    }

    private static long answer(PhraseSwaps x, String name, String list) throws ReflectiveOperationException {
        String[] words = list.isEmpty() ? new String[0] : list.split(", ");
        for (Method method : PhraseSwaps.class.getDeclaredMethods()) {
            if (method.getName().equals(name) && method.getParameterCount() == words.length) {
                Object[] numbers = new Object[words.length];
                for (int k = 0; k < words.length; k++) {
                    numbers[k] = number(words[k], method.getParameterTypes()[k]);
                }
                return ((Number) method.invoke(x, numbers)).longValue();
            }
        }
        throw new NoSuchMethodException(name);
    }

    /** A letter in its marks, or a number, as the parameter wants it. */
    private static Object number(String word, Class<?> type) {
        long value = word.startsWith("'") ? word.charAt(1) : Long.parseLong(word);
        return type == long.class ? (Object) value : (Object) (int) value;
    }
}
