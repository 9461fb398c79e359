import java.io.IOException;
import java.lang.reflect.InvocationTargetException;
import java.lang.reflect.Method;
import java.nio.file.Files;
import java.nio.file.Path;
import java.util.List;

/** README.md: each line of its example answers what stands behind it, and its table has every call. */
public final class ReadmeTests {
    private static final int LINES_AT_LEAST = 12;
    private static int wrong = 0;

    public static void main(String[] args) throws IOException, IllegalAccessException, InvocationTargetException {
        List<String> lines = Files.readAllLines(Path.of("README.md"));
        example(lines);
        table(lines);
        System.out.println(wrong == 0 ? "README.md is right" : wrong + " faults in README.md");
        if (wrong != 0) {
            System.exit(1);
        }
    }

    private static void fault(String what) {
        wrong++;
        System.out.println(what);
    }

    private static void example(List<String> lines) throws IllegalAccessException, InvocationTargetException {
        BuiltIndex x = new BuiltIndex();
        int told = 0;
        for (String line : lines) {
            if (line.startsWith("x.")) {
                oneLine(x, line);
                told++;
            }
        }
        if (told < LINES_AT_LEAST) {
            fault("the example has only " + told + " lines");
        }
    }

    /** A line reads: x.name(arguments); // answer: words. */
    private static void oneLine(BuiltIndex x, String line) throws IllegalAccessException, InvocationTargetException {
        int open = line.indexOf('(');
        String name = line.substring(2, open);
        String inside = line.substring(open + 1, line.indexOf(')'));
        String behind = line.substring(line.indexOf("// ") + 3);
        int want = Integer.parseInt(behind.substring(0, behind.indexOf(':')));
        String[] words = inside.isEmpty() ? new String[0] : inside.split(", ");
        Method method = methodOf(name);
        Object[] arguments = new Object[words.length];
        for (int i = 0; i < words.length; i++) {
            boolean isTruth = method.getParameterTypes()[i] == boolean.class;
            arguments[i] = isTruth ? (Object) Boolean.valueOf(words[i]) : (Object) Integer.valueOf(words[i]);
        }
        Object got = method.invoke(x, arguments);
        if (!got.equals(want)) {
            fault(line + " answered " + got);
        }
    }

    private static Method methodOf(String name) {
        for (Method method : BuiltIndex.class.getMethods()) {
            if (method.getDeclaringClass() == BuiltIndex.class && method.getName().equals(name)) {
                return method;
            }
        }
        throw new IllegalStateException("no method " + name);
    }

    private static void table(List<String> lines) {
        for (Method method : BuiltIndex.class.getMethods()) {
            if (method.getDeclaringClass() != BuiltIndex.class) {
                continue;
            }
            String begin = "| `" + method.getName() + "(";
            if (lines.stream().noneMatch(line -> line.startsWith(begin))) {
                fault("the table has no " + method.getName());
            }
        }
    }
}
