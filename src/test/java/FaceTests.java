import java.io.IOException;
import java.lang.reflect.Constructor;
import java.lang.reflect.Field;
import java.lang.reflect.Method;
import java.lang.reflect.Modifier;
import java.nio.file.Files;
import java.nio.file.Path;
import java.util.ArrayList;
import java.util.Arrays;
import java.util.List;
import java.util.Set;
import java.util.TreeSet;

/** The public face as the document gives it, and the rules of the language that can be looked up. */
public final class FaceTests {
    private static final String[] METHODS = {
        "int add(int, int)", "int change(int, int, int)", "int remove(int)",
        "int row(int, boolean) throws IllegalStateException, IllegalArgumentException", "int cut(int, int)",
        "int start()", "int build(boolean)", "int drop()", "int step(int)", "int info(int)",
        "int entry(int, boolean) throws IllegalStateException, IllegalArgumentException", "int leaf(int)",
        "int ask(int, int)", "int answer(int)", "int cost()", "int blocks(int)", "int rows()", "int audit()",
    };
    private static final String[] CONSTANTS = {
        "NONE -1", "DOWN -100", "UNKNOWN -101", "OUTSIDE -102", "STATE -103", "ROOM -104", "DUPLICATE -105",
        "LOST -106",
    };
    private static final String[] FORBIDDEN = {
        "->", "::", "synchronized", "assert ", "finally", "catch (", "try {", "try (", "Exact(", "System.out",
        "System.nano", "System.current", "Random", "Thread", "hashCode", "getMessage", "static {",
    };

    private static int wrong = 0;

    public static void main(String[] args) throws IOException, IllegalAccessException {
        Class<?> face = BuiltIndex.class;
        due("class", face.getModifiers() & (Modifier.PUBLIC | Modifier.FINAL), Modifier.PUBLIC | Modifier.FINAL);
        Constructor<?>[] made = face.getDeclaredConstructors();
        due("constructors", made.length, 1);
        due("constructor", made[0].getParameterCount() + made[0].getModifiers(), Modifier.PUBLIC);
        methods(face);
        fields(face);
        for (Class<?> inside : face.getDeclaredClasses()) {
            dueTrue("static " + inside, Modifier.isStatic(inside.getModifiers()));
            for (Method method : inside.getDeclaredMethods()) {
                dueTrue("name of the face in " + method, !names().contains(method.getName()));
            }
            dueTrue("fields of " + inside, inside.getDeclaredFields().length <= 20);
        }
        dueTrue("classes", face.getDeclaredClasses().length <= 11);
        source();
        System.out.println(wrong == 0 ? "the face is as due" : wrong + " faults");
        if (wrong != 0) {
            System.exit(1);
        }
    }

    private static void due(String what, int got, int want) {
        dueTrue(what + " is " + got + ", due is " + want, got == want);
    }

    private static void dueTrue(String what, boolean so) {
        if (!so) {
            wrong++;
            System.out.println("not so: " + what);
        }
    }

    private static Set<String> names() {
        Set<String> names = new TreeSet<>();
        for (String method : METHODS) {
            names.add(method.substring(4, method.indexOf('(')));
        }
        return names;
    }

    private static void methods(Class<?> face) {
        Set<String> got = new TreeSet<>();
        for (Method method : face.getDeclaredMethods()) {
            int flags = method.getModifiers();
            if (Modifier.isPrivate(flags)) {
                dueTrue("name of the face in " + method, !names().contains(method.getName()));
            } else {
                dueTrue("public and no more: " + method, flags == Modifier.PUBLIC);
                got.add(textOf(method));
            }
        }
        Set<String> want = new TreeSet<>(Arrays.asList(METHODS));
        dueTrue("methods " + got + ", due are " + want, got.equals(want));
    }

    private static String textOf(Method method) {
        List<String> taken = new ArrayList<>();
        for (Class<?> type : method.getParameterTypes()) {
            taken.add(type.getSimpleName());
        }
        List<String> thrown = new ArrayList<>();
        for (Class<?> type : method.getExceptionTypes()) {
            thrown.add(type.getSimpleName());
        }
        return method.getReturnType().getSimpleName() + " " + method.getName() + "(" + String.join(", ", taken) + ")"
                + (thrown.isEmpty() ? "" : " throws " + String.join(", ", thrown));
    }

    private static void fields(Class<?> face) throws IllegalAccessException {
        Set<String> got = new TreeSet<>();
        for (Field field : face.getDeclaredFields()) {
            int flags = field.getModifiers();
            if (!Modifier.isPrivate(flags)) {
                due("flags of " + field, flags, Modifier.PUBLIC | Modifier.STATIC | Modifier.FINAL);
                got.add(field.getName() + " " + field.getInt(null));
            }
            dueTrue("static is final: " + field, !Modifier.isStatic(flags) || Modifier.isFinal(flags));
        }
        Set<String> want = new TreeSet<>(Arrays.asList(CONSTANTS));
        dueTrue("constants " + got + ", due are " + want, got.equals(want));
    }

    private static void source() throws IOException {
        String text = Files.readString(Path.of("src/main/java/BuiltIndex.java"));
        for (String word : FORBIDDEN) {
            dueTrue("no " + word, !text.contains(word));
        }
        for (String line : text.split("\n")) {
            dueTrue("no import: " + line, !line.startsWith("import ") && !line.startsWith("package "));
        }
    }
}
