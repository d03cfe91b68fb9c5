import java.io.IOException;
import java.lang.reflect.Constructor;
import java.lang.reflect.Field;
import java.lang.reflect.Method;
import java.lang.reflect.Modifier;
import java.nio.charset.StandardCharsets;
import java.nio.file.Files;
import java.nio.file.Path;
import java.util.Arrays;
import java.util.TreeSet;
import java.util.stream.Collectors;

/** The public face of the document, just as it stands there, and the outward rules of LANGUAGE.md. */
public final class FaceTest {
    private static final Check check = new Check();

    private static final String[] FACE = {
        "offence(int int int) int IllegalArgumentException IllegalStateException",
        "exclude(int int) boolean IndexOutOfBoundsException IllegalArgumentException",
        "pass(int) int IllegalArgumentException IllegalStateException",
        "file(int int int) int IllegalArgumentException IllegalStateException",
        "item(int int int int int boolean) int"
            + " IndexOutOfBoundsException IllegalArgumentException IllegalStateException",
        "admit(int) void IndexOutOfBoundsException IllegalStateException",
        "show(int int) int IndexOutOfBoundsException IllegalStateException",
        "withhold(int) void IndexOutOfBoundsException IllegalStateException",
        "charge(int int int) int IndexOutOfBoundsException IllegalArgumentException IllegalStateException",
        "drop(int int) void IndexOutOfBoundsException IllegalStateException",
        "review(int int) boolean IndexOutOfBoundsException IllegalStateException",
        "trial(int int) int IndexOutOfBoundsException IllegalStateException",
        "plea(int int int) int IndexOutOfBoundsException IllegalArgumentException IllegalStateException",
        "arrest(int int) int IndexOutOfBoundsException IllegalStateException",
        "extend(int int int) int IndexOutOfBoundsException IllegalArgumentException IllegalStateException",
        "release(int int) void IndexOutOfBoundsException IllegalStateException",
        "day() int",
        "nests(int int) boolean IndexOutOfBoundsException",
        "strength(int int int int) int IndexOutOfBoundsException IllegalArgumentException",
        "whyNot(int int int int) int IndexOutOfBoundsException IllegalArgumentException",
        "best(int int int) int IndexOutOfBoundsException IllegalArgumentException",
        "bestAnew(int int int) int IndexOutOfBoundsException IllegalArgumentException",
        "lacks(int int) int IndexOutOfBoundsException",
        "ofItem(int int) int IndexOutOfBoundsException IllegalArgumentException",
        "ofAccused(int int int) int IndexOutOfBoundsException IllegalArgumentException",
        "count(int) int IllegalArgumentException",
    };

    private static final String[] CONSTANTS = {
        "NONE -1", "LAWFULLY 0", "UNWARRANTED 1", "FORCE 2", "OPEN 0", "DROPPED 1", "CHARGED 2",
    };

    public static void main(String[] args) throws Exception {
        theClass();
        methods();
        constants();
        names();
        asTheDocumentTells();
        sourceText();
        check.report("FaceTest");
    }

    private static void theClass() {
        check.is("public and final", Modifier.PUBLIC | Modifier.FINAL, Chargehouse.class.getModifiers());
        check.is("no class above it", true, Chargehouse.class.getSuperclass() == Object.class);
        check.is("no interface", 0, Chargehouse.class.getInterfaces().length);
        Constructor<?>[] constructors = Chargehouse.class.getDeclaredConstructors();
        check.is("one constructor", 1, constructors.length);
        check.is("it is public", Modifier.PUBLIC, constructors[0].getModifiers());
        check.is("without arguments", 0, constructors[0].getParameterCount());
        check.is("that throws nothing", 0, constructors[0].getExceptionTypes().length);
        for (Class<?> inside : Chargehouse.class.getDeclaredClasses()) {
            int modifiers = inside.getModifiers();
            check.is(inside + " is static", true, Modifier.isStatic(modifiers));
            check.is(inside + " is hidden", false, Modifier.isPublic(modifiers) || Modifier.isProtected(modifiers));
        }
    }

    private static void methods() {
        TreeSet<String> got = new TreeSet<>();
        for (Method method : Chargehouse.class.getDeclaredMethods()) {
            if (!Modifier.isPrivate(method.getModifiers())) {
                check.is(method + " is public alone", Modifier.PUBLIC, method.getModifiers());
                got.add(method.getName() + "(" + texts(method.getParameterTypes()) + ") "
                    + (method.getReturnType().getSimpleName() + " " + texts(method.getExceptionTypes())).trim());
            }
        }
        check.note("methods", new TreeSet<>(Arrays.asList(FACE)).toString(), got.toString());
    }

    private static String texts(Class<?>[] types) {
        return Arrays.stream(types).map(Class::getSimpleName).collect(Collectors.joining(" "));
    }

    private static void constants() throws IllegalAccessException {
        TreeSet<String> got = new TreeSet<>();
        for (Field field : Chargehouse.class.getDeclaredFields()) {
            int modifiers = field.getModifiers();
            if (!Modifier.isPrivate(modifiers)) {
                check.is(field + " is a constant", Modifier.PUBLIC | Modifier.STATIC | Modifier.FINAL, modifiers);
                got.add(field.getName() + " " + field.getInt(null));
            }
            check.is(field + " is final if static", false, Modifier.isStatic(modifiers) && !Modifier.isFinal(modifiers));
        }
        check.note("constants", new TreeSet<>(Arrays.asList(CONSTANTS)).toString(), got.toString());
    }

    /** No private method bears the name of a public one, in the classes inside neither. */
    private static void names() {
        TreeSet<String> face = new TreeSet<>();
        for (String method : FACE) {
            face.add(method.substring(0, method.indexOf('(')));
        }
        for (Method method : Chargehouse.class.getDeclaredMethods()) {
            check.is(method + " has a name of its own", Modifier.isPublic(method.getModifiers()),
                face.contains(method.getName()));
        }
        for (Class<?> inside : Chargehouse.class.getDeclaredClasses()) {
            for (Method method : inside.getDeclaredMethods()) {
                check.is(method + " has a name of its own", false, face.contains(method.getName()));
            }
        }
    }

    /** Each line of the document's face stands in the source too, with the names of its arguments and its throws. */
    private static void asTheDocumentTells() throws IOException {
        String document = Files.readString(Path.of("../shared/DOC.md"));
        int begin = document.indexOf("public final class Chargehouse {");
        String face = document.substring(begin, document.indexOf("```", begin));
        String source = Files.readString(Path.of("src/main/java/Chargehouse.java")).replaceAll("\\s+", " ");
        int declared = 0;
        for (String line : face.split("\n")) {
            String told = line.trim();
            if (told.startsWith("public")) {
                String due = told.endsWith(";") && !told.contains("=") ? told.replace(";", " {") : told;
                check.is("in the source: " + due, true, source.contains(due));
                declared++;
            }
        }
        check.is("lines of the face", 31, declared);
    }

    private static void sourceText() throws IOException {
        String source = Files.readString(Path.of("src/main/java/Chargehouse.java"), StandardCharsets.US_ASCII);
        String[] banned = {
            "import ", "package ", "->", "::", "catch", "finally", "static {", "synchronized", "assert ",
            "Exact", "instanceof", "Object", "System.", "Thread", "float", "double",
        };
        for (String text : banned) {
            check.is("the source has " + text, false, source.contains(text));
        }
    }
}
