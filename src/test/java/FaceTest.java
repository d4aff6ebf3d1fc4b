import java.io.IOException;
import java.lang.reflect.Constructor;
import java.lang.reflect.Field;
import java.lang.reflect.Method;
import java.lang.reflect.Modifier;
import java.nio.file.Files;
import java.nio.file.Path;
import java.util.Arrays;
import java.util.Set;
import java.util.TreeSet;

/** The public face is the document's, and the class keeps to the rules that can be seen from outside its methods. */
public final class FaceTest {
    private static final Set<String> FACE = new TreeSet<>(Arrays.asList(
        "pages/0", "allocate/1", "free/1", "resize/2", "copy/1", "freeClass/1", "read/2", "write/3", "fill/3",
        "exchange/2", "size/1", "live/0", "liveIn/1", "needed/0", "roomFor/1", "sum/1", "next/1", "count/1",
        "faults/0"));
    private static int wrong = 0;

    private static void hold(boolean held, String rule) {
        if (!held) {
            wrong++;
            System.out.println("does not hold: " + rule);
        }
    }

    private static void checkMethods() {
        Set<String> shown = new TreeSet<>();
        Set<String> names = new TreeSet<>();
        for (Method method : CompactFit.class.getDeclaredMethods()) {
            if (!Modifier.isPrivate(method.getModifiers())) {
                shown.add(method.getName() + "/" + method.getParameterCount());
                names.add(method.getName());
                hold(Modifier.isPublic(method.getModifiers()), method + " is public");
                hold(!Modifier.isStatic(method.getModifiers()), method + " is not static");
                hold(method.getReturnType() == int.class, method + " answers an int");
                hold(Arrays.stream(method.getParameterTypes()).allMatch(t -> t == int.class), method + " takes ints");
            }
        }
        for (Method method : CompactFit.class.getDeclaredMethods()) {
            if (Modifier.isPrivate(method.getModifiers())) {
                hold(!names.contains(method.getName()), method + " has a name of its own");
                hold(method.getParameterCount() <= 7, method + " takes at most seven parameters");
            }
        }
        hold(shown.equals(FACE), "the methods are " + FACE + ", seen are " + shown);
    }

    private static void checkFields() {
        for (Field field : CompactFit.class.getDeclaredFields()) {
            Class<?> type = field.getType();
            Class<?> part = type.isArray() ? type.getComponentType() : type;
            hold(Modifier.isPrivate(field.getModifiers()), field + " is private");
            hold(part.isPrimitive() && part != float.class && part != double.class, field + " is of whole numbers");
            if (Modifier.isStatic(field.getModifiers())) {
                hold(type == int.class || type == long.class, field + " is an int or a long");
                hold(Modifier.isFinal(field.getModifiers()), field + " is a constant");
            }
        }
    }

    private static void checkClass() {
        int modifiers = CompactFit.class.getModifiers();
        hold(Modifier.isPublic(modifiers) && Modifier.isFinal(modifiers), "the class is public and final");
        hold(CompactFit.class.getSuperclass() == Object.class, "the class extends nothing");
        hold(CompactFit.class.getInterfaces().length == 0, "the class implements nothing");
        hold(CompactFit.class.getDeclaredClasses().length == 0, "the class nests no other");
    }

    private static void checkConstructor() {
        Constructor<?>[] made = CompactFit.class.getDeclaredConstructors();
        hold(made.length == 1, "there is one constructor");
        hold(Modifier.isPublic(made[0].getModifiers()), "the constructor is public");
        hold(Arrays.equals(made[0].getParameterTypes(), new Class<?>[] {int.class}), "the constructor takes an int");
    }

    /** Names of parameters are seen in the source alone. */
    private static void checkLines() throws IOException {
        Set<String> asked = publicLines("../shared/DOC.md", ";");
        Set<String> written = publicLines("src/main/java/CompactFit.java", " {");
        asked.add("public final class CompactFit");
        hold(written.equals(asked), "the public lines are " + asked + ", seen are " + written);
    }

    private static Set<String> publicLines(String file, String end) throws IOException {
        Set<String> lines = new TreeSet<>();
        for (String line : Files.readAllLines(Path.of(file))) {
            String words = line.strip();
            if (words.startsWith("public ") && words.endsWith(end)) {
                lines.add(words.substring(0, words.length() - end.length()));
            }
        }
        return lines;
    }

    public static void main(String[] args) throws IOException {
        checkClass();
        checkConstructor();
        checkMethods();
        checkFields();
        checkLines();
        System.out.println(wrong == 0 ? "the face is the document's" : wrong + " rules do not hold");
        if (wrong != 0) {
            System.exit(1);
        }
    }
}
