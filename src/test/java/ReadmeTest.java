import java.io.IOException;
import java.lang.reflect.Method;
import java.lang.reflect.Modifier;
import java.nio.file.Files;
import java.nio.file.Path;
import java.util.List;
import java.util.TreeSet;
import java.util.regex.Matcher;
import java.util.regex.Pattern;

// Each call that README.md shows answers as it shows, and no method of the class is left out there.
public final class ReadmeTest {
    private static final String NEW = "ConflictSets x = new ConflictSets();";
    private static final Pattern CALL = Pattern.compile("x\\.(\\w+)\\(([-0-9, ]*)\\); +// (-?\\d+)\\b.*");
    private static int wrong = 0;

    private ConflictSets x;
    private final TreeSet<String> shown = new TreeSet<>();

    private static void fault(int line, String what) {
        wrong++;
        System.out.println("README.md line " + line + ": " + what);
    }

    private static Object[] numbers(String list) {
        if (list.isBlank()) {
            return new Object[0];
        }
        String[] words = list.split(",");
        Object[] numbers = new Object[words.length];
        for (int i = 0; i < words.length; i++) {
            numbers[i] = Integer.valueOf(words[i].trim());
        }
        return numbers;
    }

    private static Method method(String name, int parameters) {
        for (Method method : ConflictSets.class.getDeclaredMethods()) {
            if (Modifier.isPublic(method.getModifiers()) && method.getName().equals(name)
                && method.getParameterCount() == parameters) {
                return method;
            }
        }
        return null;
    }

    private void call(int line, String name, Object[] arguments, int want) throws ReflectiveOperationException {
        Method method = method(name, arguments.length);
        if (x == null || method == null) {
            fault(line, "there is no object or no such method for " + name);
            return;
        }
        shown.add(name);
        int got = (Integer) method.invoke(x, arguments);
        if (got != want) {
            fault(line, name + " answered " + got + ", shown is " + want);
        }
    }

    /** A line of another form is a fault, for its answer would go unchecked. */
    private void code(int line, String text) throws ReflectiveOperationException {
        Matcher call = CALL.matcher(text);
        if (text.equals(NEW)) {
            x = new ConflictSets();
        } else if (call.matches()) {
            call(line, call.group(1), numbers(call.group(2)), Integer.parseInt(call.group(3)));
        } else {
            fault(line, "no call with its answer: " + text);
        }
    }

    private void read(List<String> lines) throws ReflectiveOperationException {
        boolean inCode = false;
        for (int i = 0; i < lines.size(); i++) {
            String text = lines.get(i);
            if (text.startsWith("```")) {
                inCode = !inCode;
            } else if (inCode) {
                code(i + 1, text);
            }
        }
    }

    private void allShown() {
        for (Method method : ConflictSets.class.getDeclaredMethods()) {
            if (Modifier.isPublic(method.getModifiers()) && !shown.contains(method.getName())) {
                wrong++;
                System.out.println("README.md does not show " + method.getName());
            }
        }
    }

    public static void main(String[] args) throws IOException, ReflectiveOperationException {
        ReadmeTest test = new ReadmeTest();
        test.read(Files.readAllLines(Path.of("README.md")));
        test.allShown();
        System.out.println(wrong == 0 ? "all answers are as shown" : wrong + " things are not as shown");
        if (wrong != 0) {
            System.exit(1);
        }
    }
}
