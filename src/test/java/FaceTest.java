import java.lang.reflect.Constructor;
import java.lang.reflect.Field;
import java.lang.reflect.Method;
import java.lang.reflect.Modifier;
import java.nio.file.Files;
import java.nio.file.Path;
import java.util.Arrays;
import java.util.Set;
import java.util.TreeSet;
import java.util.stream.Collectors;

/** The class's face is just the one in the document (its path is the second argument), and nothing else shows. */
public final class FaceTest {
    private static final Due due = new Due("FaceTest");

    public static void main(String[] args) throws Exception {
        String doc = Files.readString(Path.of(args[1]));
        String block = doc.substring(doc.indexOf("```java") + 7);
        block = block.substring(0, block.indexOf("```"));
        Set<String> told = new TreeSet<>();
        for (String line : block.split("\n")) {
            String face = line.trim();
            if (face.endsWith(";")) {
                told.add(face.replaceAll("(\\w+) \\w+(?=[,)])", "$1").replace(";", ""));
            }
        }
        Set<String> is = new TreeSet<>();
        for (Constructor<?> c : MountainFarms.class.getDeclaredConstructors()) {
            is.add("public MountainFarms(" + types(c.getParameterTypes()) + ")");
            due.that("the constructor is public", Modifier.isPublic(c.getModifiers()));
        }
        for (Method m : MountainFarms.class.getDeclaredMethods()) {
            String face = m.getReturnType() + " " + m.getName() + "(" + types(m.getParameterTypes()) + ")";
            if (Modifier.isPublic(m.getModifiers())) {
                is.add("public " + face);
            } else {
                due.that("private: " + face, Modifier.isPrivate(m.getModifiers()));
            }
        }
        due.is("how many the document tells", told.size(), 49);
        due.that("the face is the document's: " + told + " / " + is, told.equals(is));
        due.that("the class is public and final", MountainFarms.class.getModifiers() == (Modifier.PUBLIC | Modifier.FINAL));
        for (Field f : MountainFarms.class.getDeclaredFields()) {
            due.that("private: " + f, Modifier.isPrivate(f.getModifiers()));
            due.that("final, if static: " + f, !Modifier.isStatic(f.getModifiers()) || Modifier.isFinal(f.getModifiers()));
        }
        nested();
        due.end();
    }

    private static void nested() {
        Set<String> names = Arrays.stream(MountainFarms.class.getDeclaredMethods())
            .filter(m -> Modifier.isPublic(m.getModifiers())).map(Method::getName).collect(Collectors.toSet());
        Class<?>[] nested = MountainFarms.class.getDeclaredClasses();
        due.that("some twelve classes at most", nested.length <= 12);
        for (Class<?> c : nested) {
            due.that("static: " + c, Modifier.isStatic(c.getModifiers()));
            due.that("not public: " + c, !Modifier.isPublic(c.getModifiers()) && !Modifier.isProtected(c.getModifiers()));
            long fields = Arrays.stream(c.getDeclaredFields()).filter(f -> !Modifier.isStatic(f.getModifiers())).count();
            due.that("some twenty fields at most: " + c, fields <= 20);
            for (Method m : c.getDeclaredMethods()) {
                due.that("at most seven parameters: " + m, m.getParameterCount() <= 7);
                due.that("not named as a public one: " + m, !names.contains(m.getName()));
            }
        }
    }

    private static String types(Class<?>[] types) {
        return Arrays.stream(types).map(Class::getSimpleName).collect(Collectors.joining(", "));
    }
}
