import java.lang.reflect.Constructor;
import java.lang.reflect.Field;
import java.lang.reflect.Method;
import java.lang.reflect.Modifier;
import java.nio.file.Files;
import java.nio.file.Path;
import java.util.Arrays;
import java.util.Set;
import java.util.TreeSet;
import java.util.regex.Matcher;
import java.util.regex.Pattern;

/** The face of the class is that of the document, to the letter. */
final class FaceTests {
    private static final Path DOCUMENT = Path.of("../shared/DOC.md");

    static void run(Check check) {
        check.test("face: the methods are those of the document",
                () -> Check.same(methodsOfDocument(), publicMethods()));
        check.test("face: the class is public and final",
                () -> Check.same(Modifier.PUBLIC | Modifier.FINAL, MapHall.class.getModifiers()));
        check.test("face: one public constructor without parameters", FaceTests::oneConstructor);
        check.test("face: every other member is private", FaceTests::restIsPrivate);
        check.test("face: no own method bears a name of the face", FaceTests::namesAreKeptApart);
    }

    private static void oneConstructor() {
        Constructor<?>[] constructors = MapHall.class.getDeclaredConstructors();
        Check.same(1, constructors.length);
        Check.same(Modifier.PUBLIC, constructors[0].getModifiers());
        Check.same(0, constructors[0].getParameterCount());
    }

    private static void restIsPrivate() {
        for (Field field : MapHall.class.getDeclaredFields()) {
            Check.holds(Modifier.isPrivate(field.getModifiers()));
        }
        for (Method method : MapHall.class.getDeclaredMethods()) {
            int modifiers = method.getModifiers();
            Check.holds(Modifier.isPublic(modifiers) || Modifier.isPrivate(modifiers));
        }
    }

    private static void namesAreKeptApart() {
        Set<String> names = new TreeSet<>();
        for (Method method : MapHall.class.getDeclaredMethods()) {
            if (Modifier.isPublic(method.getModifiers())) {
                names.add(method.getName());
            }
        }
        for (Method method : MapHall.class.getDeclaredMethods()) {
            Check.holds(Modifier.isPublic(method.getModifiers()) || !names.contains(method.getName()));
        }
        for (Class<?> inside : MapHall.class.getDeclaredClasses()) {
            for (Method method : inside.getDeclaredMethods()) {
                if (names.contains(method.getName())) {
                    throw new AssertionError(inside.getSimpleName() + "." + method.getName());
                }
            }
        }
    }

    private static Set<String> publicMethods() {
        Set<String> methods = new TreeSet<>();
        for (Method method : MapHall.class.getDeclaredMethods()) {
            if (Modifier.isPublic(method.getModifiers())) {
                methods.add(method.getReturnType() + " " + method.getName()
                        + typeNames(method.getParameterTypes()) + typeNames(method.getExceptionTypes()));
            }
        }
        return methods;
    }

    private static String typeNames(Class<?>[] types) {
        return Arrays.toString(Arrays.stream(types).map(Class::getSimpleName).toArray());
    }

    private static Set<String> methodsOfDocument() throws Exception {
        Pattern line = Pattern.compile(
                "^ {4}public (\\w+) (\\w+)\\(([^)]*)\\)(?: throws ([\\w, ]+))?;$", Pattern.MULTILINE);
        Matcher matcher = line.matcher(Files.readString(DOCUMENT));
        Set<String> methods = new TreeSet<>();
        while (matcher.find()) {
            String parameters = matcher.group(3).replaceAll("(\\w+) \\w+", "$1");
            String exceptions = matcher.group(4) == null ? "" : matcher.group(4);
            methods.add(matcher.group(1) + " " + matcher.group(2)
                    + "[" + parameters + "][" + exceptions + "]");
        }
        return methods;
    }
}
