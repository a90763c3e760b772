import java.io.IOException;
import java.lang.reflect.Constructor;
import java.lang.reflect.Field;
import java.lang.reflect.Method;
import java.lang.reflect.Modifier;
import java.nio.file.Files;
import java.nio.file.Path;
import java.util.ArrayList;
import java.util.List;
import java.util.TreeSet;
import java.util.regex.Matcher;
import java.util.regex.Pattern;

/** The face of the document, and what LANGUAGE.md rules out, as far as a text can show it. */
public final class FormTests {
    private static final Check check = new Check();
    private static final String[] FACE = {
        "int type(int)", "int job()", "int rule()", "int of(int,int)", "int spelt(int,int,int)", "int at(int,int)",
        "int count(int)", "int change(int,int)", "int turn(int)", "int pass(int)", "int pile(int)", "int put(int)",
        "int passPile()", "int undo()", "int comes(int,int)", "int used(int)", "int went(int)", "int rest()",
        "int sure(int)", "int lean(int)", "long longOdds(int,int,int)", "int image()", "int restore()",
        "int came(int,int,int,int,int)", "int film(int,int,int,int)", "int sheet(int,int,int)", "int drop(int)",
        "int item(int,int,int,long)", "int copy(int,int,int,int,int)",
    };

    public static void main(String[] args) throws IOException, ReflectiveOperationException {
        face();
        constants();
        members();
        lengths();
        words();
        check.finish("FormTests");
    }

    private static String told(Method method) {
        StringBuilder text = new StringBuilder(method.getReturnType() + " " + method.getName() + "(");
        for (Class<?> type : method.getParameterTypes()) {
            text.append(text.charAt(text.length() - 1) == '(' ? "" : ",").append(type);
        }
        return text.append(')').toString();
    }

    private static void face() {
        TreeSet<String> got = new TreeSet<>();
        for (Method method : PhraseSwaps.class.getDeclaredMethods()) {
            if (!Modifier.isPrivate(method.getModifiers())) {
                got.add((Modifier.isPublic(method.getModifiers()) ? "" : "hidden ") + told(method));
            }
        }
        check.dueText("face", got.toString(), new TreeSet<>(List.of(FACE)).toString());
        check.due("final", Modifier.isFinal(PhraseSwaps.class.getModifiers()) ? 1 : 0, 1);
        Constructor<?>[] made = PhraseSwaps.class.getDeclaredConstructors();
        check.due("constructors", made.length, 1);
        check.due("its parameters", made[0].getParameterCount(), 0);
    }

    private static void constants() throws ReflectiveOperationException {
        String[] names = {"BAD", "NOT", "FULL", "NONE", "NULL", "CAST", "INDEX", "SIZE", "STORE"};
        int[] values = {-1, -2, -3, -4, -11, -12, -13, -14, -15};
        for (int k = 0; k < names.length; k++) {
            check.due(names[k], PhraseSwaps.class.getField(names[k]).getInt(null), values[k]);
        }
        check.due("public fields", PhraseSwaps.class.getFields().length, names.length);
    }

    private static void members() {
        List<Class<?>> classes = new ArrayList<>(List.of(PhraseSwaps.class.getDeclaredClasses()));
        classes.add(PhraseSwaps.class);
        check.due("twelve classes at most", classes.size() <= 12 ? 1 : 0, 1);
        for (Class<?> one : classes) {
            if (one != PhraseSwaps.class) {
                check.due("static " + one, Modifier.isStatic(one.getModifiers()) ? 1 : 0, 1);
            }
            for (Method method : one.getDeclaredMethods()) {
                if (!Modifier.isPublic(method.getModifiers())) {
                    check.due("name of its own: " + method, isOfFace(method.getName()) ? 1 : 0, 0);
                }
                check.due("seven parameters at most: " + method, method.getParameterCount() <= 7 ? 1 : 0, 1);
            }
            int fields = 0;
            for (Field field : one.getDeclaredFields()) {
                int modifiers = field.getModifiers();
                fields += Modifier.isStatic(modifiers) ? 0 : 1;
                check.due("no static state: " + field, Modifier.isStatic(modifiers) && !Modifier.isFinal(modifiers) ? 1 : 0, 0);
            }
            check.due("twenty fields at most: " + one, fields <= 20 ? 1 : 0, 1);
        }
    }

    private static boolean isOfFace(String name) {
        boolean taken = false;
        for (String told : FACE) {
            taken |= told.contains(" " + name + "(");
        }
        return taken;
    }

    /** A method begins with its head and ends with a brace as far in as that. */
    private static void lengths() throws IOException {
        Pattern head = Pattern.compile("( ++)(?!(?:if|for|while|switch|else)\\b)[\\w\\[\\] ]+\\(.*\\) \\{");
        List<String> lines = Files.readAllLines(Path.of("src/main/java/PhraseSwaps.java"));
        int methods = 0;
        for (int k = 0; k < lines.size(); k++) {
            Matcher matcher = head.matcher(lines.get(k));
            if (matcher.matches()) {
                int end = k;
                while (end < lines.size() && !lines.get(end).equals(matcher.group(1) + "}")) {
                    end++;
                }
                methods++;
                check.due("sixty lines at most: " + lines.get(k).trim(), end - k + 1 <= 60 ? 1 : 0, 1);
            }
        }
        check.due("methods are found", methods >= FACE.length ? 1 : 0, 1);
    }

    private static void words() throws IOException {
        String source = Files.readString(Path.of("src/main/java/PhraseSwaps.java"));
        String code = source.replaceAll("(?s)/\\*.*?\\*/", "").replaceAll("//[^\n]*", "");
        Pattern bad = Pattern.compile("\\b(throw|throws|try|catch|synchronized|assert|package|protected|double|float|Object|System\\.(?!arraycopy)\\w+|\\w+Exact)\\b|->|::|@|\"");
        Matcher matcher = bad.matcher(code);
        while (matcher.find()) {
            check.dueText("ruled out", matcher.group(), "");
        }
        matcher = Pattern.compile("import ([^;]*);").matcher(code);
        while (matcher.find()) {
            check.dueText("import", matcher.group(1), "java.util.Arrays");
        }
        for (int k = 0; k < source.length(); k++) {
            if (source.charAt(k) > 126) {
                check.due("sign at " + k, source.charAt(k), 126);
            }
        }
    }
}
