import java.lang.reflect.Constructor;
import java.lang.reflect.Field;
import java.lang.reflect.Method;
import java.lang.reflect.Modifier;
import java.util.Arrays;
import java.util.Set;
import java.util.TreeSet;
import java.util.stream.Collectors;

/** The document's public face, and what LANGUAGE.md says of the shape of the class (rules 1, 2, 5 and 11). */
public final class FaceTest {
    private static final int MOST_CLASSES = 12;
    private static final int MOST_FIELDS = 20;
    private static final int MOST_PARAMETERS = 7;
    private static final Check CHECK = new Check();
    private static final String FACE = String.join("\n",
            "boolean cut(boolean, int)",
            "boolean isMissing(int, int) throws IndexOutOfBoundsException",
            "boolean put(boolean, long, int)",
            "int ask() throws IllegalStateException, IllegalArgumentException, UnsupportedOperationException",
            "int columns()",
            "int fault()",
            "int line(int) throws IllegalStateException, IndexOutOfBoundsException",
            "int lines()",
            "int load() throws IllegalArgumentException, IllegalStateException, NoSuchElementException, UnsupportedOperationException",
            "int out(int) throws IndexOutOfBoundsException",
            "int type(int) throws IndexOutOfBoundsException",
            "int write(boolean) throws IllegalStateException",
            "long aggregate(int) throws IllegalStateException, IndexOutOfBoundsException, NoSuchElementException",
            "long value(int, int) throws IndexOutOfBoundsException, IllegalStateException, NoSuchElementException");

    public static void main(String[] args) throws ReflectiveOperationException {
        face();
        shape(AskedTable.class);
        Class<?>[] inside = AskedTable.class.getDeclaredClasses();
        CHECK.due("not too many classes", inside.length < MOST_CLASSES, true);
        for (Class<?> c : inside) {
            CHECK.due(c + " is private and static", Modifier.isPrivate(c.getModifiers()) && Modifier.isStatic(c.getModifiers()), true);
            shape(c);
        }
        CHECK.end();
    }

    private static void face() throws ReflectiveOperationException {
        CHECK.due("the class", Modifier.toString(AskedTable.class.getModifiers()), "public final");
        Set<String> told = new TreeSet<>();
        for (Method m : AskedTable.class.getDeclaredMethods()) {
            if (Modifier.isPublic(m.getModifiers())) {
                told.add(shown(m));
            } else {
                CHECK.due(m + " is private", Modifier.isPrivate(m.getModifiers()), true);
            }
        }
        CHECK.due("the methods", String.join("\n", told), FACE);
        Constructor<?>[] constructors = AskedTable.class.getDeclaredConstructors();
        CHECK.due("the constructors", Arrays.toString(constructors), "[public AskedTable()]");
        for (Field f : AskedTable.class.getDeclaredFields()) {
            CHECK.due(f + " is private", Modifier.isPrivate(f.getModifiers()), !f.getName().equals("NONE"));
        }
        CHECK.due("NONE", AskedTable.class.getDeclaredField("NONE").toString(), "public static final int AskedTable.NONE");
    }

    private static String shown(Method m) {
        String thrown = names(m.getExceptionTypes());
        return m.getReturnType() + " " + m.getName() + "(" + names(m.getParameterTypes()) + ")"
                + (thrown.isEmpty() ? "" : " throws " + thrown);
    }

    private static String names(Class<?>[] classes) {
        return Arrays.stream(classes).map(Class::getSimpleName).collect(Collectors.joining(", "));
    }

    private static void shape(Class<?> c) {
        Set<String> faceNames = Arrays.stream(AskedTable.class.getMethods()).map(Method::getName).collect(Collectors.toSet());
        for (Method m : c.getDeclaredMethods()) {
            CHECK.due(m + " has few parameters", m.getParameterCount() <= MOST_PARAMETERS, true);
            boolean own = !Modifier.isPublic(m.getModifiers());
            CHECK.due(m + " bears a name of the face", own && faceNames.contains(m.getName()), false);
        }
        int fields = 0;
        for (Field f : c.getDeclaredFields()) {
            boolean isStatic = Modifier.isStatic(f.getModifiers());
            CHECK.due(f + " is final or no static", !isStatic || Modifier.isFinal(f.getModifiers()), true);
            fields += isStatic ? 0 : 1;
        }
        CHECK.due(c + " has not too many fields", fields <= MOST_FIELDS, true);
    }
}
