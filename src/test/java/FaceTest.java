import java.io.IOException;
import java.lang.reflect.Constructor;
import java.lang.reflect.Field;
import java.lang.reflect.Method;
import java.lang.reflect.Modifier;
import java.nio.file.Files;
import java.nio.file.Path;
import java.util.ArrayList;
import java.util.Arrays;
import java.util.List;
import java.util.Set;
import java.util.TreeSet;
import java.util.regex.Pattern;

/** The public face, to the letter, and those rules of LANGUAGE.md that can be seen in the classes and in the text. */
public final class FaceTest {
    private static final Path PROGRAM = Path.of("src/main/java/ToothWheelTimer.java");
    private static final List<String> FACE = List.of(
        "boolean set(int, int, int, int)", "int look(int, int, int)", "boolean sample(int, int)", "int value(int)",
        "int count(int)", "long frame(int, int)", "int clear()", "int edge(int)", "int teeth(int, int)",
        "boolean cam()", "int rest(int)", "int state()", "int tooth()", "int turn()", "long unit()",
        "long foretell(int)", "long output(int)", "int tally(int)", "int waiting()", "int running()");
    private static final String[] FORBIDDEN = {"\\bthrows?\\b", "\\btry\\b", "\\bcatch\\b", "\\bsynchronized\\b",
        "\\bassert\\b", "->", "::", "\\bimport\\b", "\\bpackage\\b", "\\bSystem\\.(?!arraycopy)", "Exact\\b",
        "\\.hashCode\\b", "\\.toString\\b", "\"\\s*\\+", "\\+\\s*\"", "\\bstatic\\s*\\{", "while\\s*\\(true\\)"};
    private static final Due due = new Due();

    public static void main(String[] args) throws IOException {
        constants();
        constructor();
        methods();
        classesInside();
        text();
        due.end();
    }

    private static void constants() {
        due.same("NONE", ToothWheelTimer.NONE, -1);
        due.same("LOST", ToothWheelTimer.LOST, 0);
        due.same("SEEKING", ToothWheelTimer.SEEKING, 1);
        due.same("COUNTING", ToothWheelTimer.COUNTING, 2);
        due.same("LOCKED", ToothWheelTimer.LOCKED, 3);
        Set<String> names = new TreeSet<>();
        for (Field f : ToothWheelTimer.class.getDeclaredFields()) {
            if (!Modifier.isPrivate(f.getModifiers())) {
                names.add(f.getName());
                int asDue = Modifier.PUBLIC | Modifier.STATIC | Modifier.FINAL;
                due.same("modifiers of " + f.getName(), f.getModifiers(), asDue);
                due.yes("type of " + f.getName(), f.getType() == int.class);
            }
        }
        due.yes("constants are those of the document: " + names,
            names.equals(Set.of("NONE", "LOST", "SEEKING", "COUNTING", "LOCKED")));
    }

    private static void constructor() {
        Constructor<?>[] all = ToothWheelTimer.class.getDeclaredConstructors();
        due.same("constructors", all.length, 1);
        due.yes("constructor is public", Modifier.isPublic(all[0].getModifiers()));
        due.yes("its parameters", Arrays.equals(all[0].getParameterTypes(),
            new Class<?>[] {int.class, int.class, int.class, int.class}));
    }

    private static void methods() {
        int modifiers = ToothWheelTimer.class.getModifiers();
        due.yes("class is public and final", Modifier.isPublic(modifiers) && Modifier.isFinal(modifiers));
        List<String> found = new ArrayList<>();
        for (Method m : ToothWheelTimer.class.getDeclaredMethods()) {
            due.yes("parameters of " + m.getName(), m.getParameterCount() <= 7);
            if (!Modifier.isPrivate(m.getModifiers())) {
                found.add(signature(m));
                due.same("modifiers of " + m.getName(), m.getModifiers(), Modifier.PUBLIC);
            }
        }
        due.same("methods of the face", found.size(), FACE.size());
        due.yes("methods are those of the document: " + found, new TreeSet<>(found).equals(new TreeSet<>(FACE)));
    }

    private static String signature(Method m) {
        List<String> types = new ArrayList<>();
        for (Class<?> type : m.getParameterTypes()) {
            types.add(type.getName());
        }
        return m.getReturnType().getName() + " " + m.getName() + "(" + String.join(", ", types) + ")";
    }

    private static void classesInside() {
        Set<String> publicNames = new TreeSet<>();
        for (String line : FACE) {
            publicNames.add(line.substring(line.indexOf(' ') + 1, line.indexOf('(')));
        }
        List<Class<?>> all = new ArrayList<>(List.of(ToothWheelTimer.class.getDeclaredClasses()));
        due.yes("at most twelve classes", all.size() < 12);
        for (Class<?> inside : all) {
            due.yes(inside + " is static", Modifier.isStatic(inside.getModifiers()));
            due.no(inside + " is public or protected", (inside.getModifiers() & (Modifier.PUBLIC | Modifier.PROTECTED)) != 0);
            for (Method m : inside.getDeclaredMethods()) {
                due.no(inside + " has a method named as a public one: " + m.getName(), publicNames.contains(m.getName()));
            }
        }
        all.add(ToothWheelTimer.class);
        for (Class<?> each : all) {
            int fields = 0;
            for (Field f : each.getDeclaredFields()) {
                boolean isStatic = Modifier.isStatic(f.getModifiers());
                due.yes("static field is final: " + f, !isStatic || Modifier.isFinal(f.getModifiers()));
                fields += isStatic ? 0 : 1;
            }
            due.yes("fields of " + each, fields <= 20);
        }
    }

    private static void text() throws IOException {
        String code = Files.readString(PROGRAM).replaceAll("(?s)/\\*.*?\\*/", "").replaceAll("//[^\n]*", "");
        for (String word : FORBIDDEN) {
            due.no("the program has " + word, Pattern.compile(word).matcher(code).find());
        }
    }
}
