import java.io.IOException;
import java.lang.reflect.InvocationTargetException;
import java.lang.reflect.Method;
import java.lang.reflect.Modifier;
import java.nio.file.Files;
import java.nio.file.Path;
import java.util.Set;
import java.util.TreeSet;
import java.util.regex.Matcher;
import java.util.regex.Pattern;

/** Makes the calls that README.md shows, in their order on one object, and compares the answers it tells. */
public final class ReadmeTest {
    private static final Pattern ROW = Pattern.compile("x\\.(\\w+)\\(([-0-9, ]*)\\); *// (-?\\w+): .+");

    private static int wrong = 0;

    private static void say(String fault) {
        wrong++;
        System.out.println(fault);
    }

    private static String named(String answer) {
        return switch (answer) {
            case "BAD_ARG" -> String.valueOf(PairingParts.BAD_ARG);
            case "NONE" -> String.valueOf(PairingParts.NONE);
            default -> answer;
        };
    }

    private static Object answer(PairingParts x, String name, String arguments)
            throws NoSuchMethodException, IllegalAccessException, InvocationTargetException {
        String[] words = arguments.isBlank() ? new String[0] : arguments.split(", *");
        Class<?>[] types = new Class<?>[words.length];
        Object[] values = new Object[words.length];
        for (int i = 0; i < words.length; i++) {
            types[i] = int.class;
            values[i] = Integer.valueOf(words[i]);
        }
        return PairingParts.class.getMethod(name, types).invoke(x, values);
    }

    private static Set<String> publicMethods() {
        Set<String> names = new TreeSet<>();
        for (Method m : PairingParts.class.getDeclaredMethods()) {
            if (Modifier.isPublic(m.getModifiers())) {
                names.add(m.getName());
            }
        }
        return names;
    }

    public static void main(String[] args) throws IOException, ReflectiveOperationException {
        PairingParts x = new PairingParts();
        Set<String> notShown = publicMethods();
        for (String row : Files.readAllLines(Path.of("README.md"))) {
            if (row.startsWith("x.")) {
                Matcher m = ROW.matcher(row);
                if (m.matches()) {
                    notShown.remove(m.group(1));
                    String got = String.valueOf(answer(x, m.group(1), m.group(2)));
                    if (!got.equals(named(m.group(3)))) {
                        say("answered " + got + ", README.md says: " + row);
                    }
                } else {
                    say("not of the form of a call and its answer: " + row);
                }
            }
        }
        if (!notShown.isEmpty()) {
            say("README.md shows no call of " + notShown);
        }
        System.out.println(wrong == 0 ? "README.md tells the truth" : wrong + " faults in README.md");
        if (wrong != 0) {
            System.exit(1);
        }
    }
}
