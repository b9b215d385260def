import java.lang.reflect.Constructor;
import java.lang.reflect.Field;
import java.lang.reflect.Method;
import java.lang.reflect.Modifier;
import java.util.Set;
import java.util.TreeSet;

/** The public face of the document, and that nothing else of the class can be seen from outside. */
public final class FaceTest {
    private static int wrong = 0;

    private static void due(String what, Object got, Object want) {
        if (!got.equals(want)) {
            wrong++;
            System.out.println(what + " is " + got + ", due is " + want);
        }
    }

    private static Set<String> visibleMethods() {
        Set<String> found = new TreeSet<>();
        for (Method m : PairingParts.class.getDeclaredMethods()) {
            if (!Modifier.isPrivate(m.getModifiers())) {
                StringBuilder text = new StringBuilder(Modifier.toString(m.getModifiers()));
                text.append(' ').append(m.getReturnType().getName()).append(' ').append(m.getName());
                for (Class<?> type : m.getParameterTypes()) {
                    text.append(' ').append(type.getName());
                }
                found.add(text.toString());
            }
        }
        return found;
    }

    private static Set<String> visibleFields() {
        Set<String> found = new TreeSet<>();
        for (Field f : PairingParts.class.getDeclaredFields()) {
            if (!Modifier.isPrivate(f.getModifiers())) {
                found.add(f.toString());
            }
        }
        return found;
    }

    private static Set<String> visibleConstructors() {
        Set<String> found = new TreeSet<>();
        for (Constructor<?> c : PairingParts.class.getDeclaredConstructors()) {
            if (!Modifier.isPrivate(c.getModifiers())) {
                found.add(c.toString());
            }
        }
        return found;
    }

    private static void noPrivateMethodBearsAPublicName() {
        for (Method m : PairingParts.class.getDeclaredMethods()) {
            for (Method n : PairingParts.class.getDeclaredMethods()) {
                boolean clash = m.getName().equals(n.getName())
                        && Modifier.isPrivate(m.getModifiers()) && Modifier.isPublic(n.getModifiers());
                due("a private method with the public name " + m.getName(), clash, false);
            }
        }
    }

    public static void main(String[] args) {
        due("class", Modifier.toString(PairingParts.class.getModifiers()), "public final");
        due("BAD_ARG", PairingParts.BAD_ARG, -1);
        due("NONE", PairingParts.NONE, -4);
        due("fields", visibleFields(), new TreeSet<>(Set.of(
                "public static final int PairingParts.BAD_ARG",
                "public static final int PairingParts.NONE")));
        due("constructors", visibleConstructors(), new TreeSet<>(Set.of("public PairingParts()")));
        due("methods", visibleMethods(), new TreeSet<>(Set.of(
                "public int line int int",
                "public int lines int int",
                "public int most",
                "public int mostIn int",
                "public int partner int",
                "public int loose",
                "public int beside",
                "public int fast",
                "public boolean can int int",
                "public boolean must int int",
                "public boolean critical int",
                "public int odd int",
                "public int bound",
                "public int missing")));
        due("nested classes", PairingParts.class.getDeclaredClasses().length, 0);
        noPrivateMethodBearsAPublicName();
        System.out.println(wrong == 0 ? "the face is as due" : wrong + " parts of the face are not as due");
        if (wrong != 0) {
            System.exit(1);
        }
    }
}
