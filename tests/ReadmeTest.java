import java.lang.reflect.Method;
import java.lang.reflect.Modifier;
import java.nio.file.Files;
import java.nio.file.Path;
import java.util.regex.Matcher;
import java.util.regex.Pattern;

/** README.md tells the truth: its example's answers are those of the class, and no call is left out. */
public final class ReadmeTest {
    private static final Pattern EXAMPLE = Pattern.compile("(?m)^house\\.(\\w+)\\(([^)]*)\\);\\s*// (-?\\d+): ");
    private static final Pattern ANY_LINE = Pattern.compile("(?m)^house\\.");

    private static int wrong = 0;

    public static void main(String[] args) throws Exception {
        String readme = Files.readString(Path.of("README.md"));
        int asked = theExampleHolds(readme);
        everyCallIsNamed(readme);
        System.out.println(asked + " lines of README.md asked, " + wrong + " things not so");
        if (wrong != 0) {
            System.exit(1);
        }
    }

    private static void need(boolean so, String what) {
        if (!so) {
            wrong++;
            System.out.println("README.md: " + what);
        }
    }

    private static int theExampleHolds(String readme) throws Exception {
        LeftoverRule house = new LeftoverRule();
        Matcher line = EXAMPLE.matcher(readme);
        int asked = 0;
        while (line.find()) {
            asked++;
            int got = ask(house, line.group(1), line.group(2));
            need(got == Integer.parseInt(line.group(3)), line.group() + "is answered " + got);
        }
        need(asked > 0 && asked == ANY_LINE.matcher(readme).results().count(), "a line of the example tells no answer");
        return asked;
    }

    private static int ask(LeftoverRule house, String name, String with) throws Exception {
        for (Method method : LeftoverRule.class.getDeclaredMethods()) {
            if (Modifier.isPublic(method.getModifiers()) && method.getName().equals(name)) {
                return (int) method.invoke(house, arguments(method, with.isEmpty() ? new String[0] : with.split(", ")));
            }
        }
        throw new IllegalStateException("no call " + name);
    }

    private static Object[] arguments(Method method, String[] words) {
        Class<?>[] types = method.getParameterTypes();
        Object[] all = new Object[words.length];
        for (int i = 0; i < words.length; i++) {
            if (types[i] == long.class) {
                all[i] = Long.decode(words[i].replace("L", ""));
            } else {
                all[i] = Integer.decode(words[i]);
            }
        }
        return all;
    }

    private static void everyCallIsNamed(String readme) {
        for (Method method : LeftoverRule.class.getDeclaredMethods()) {
            if (Modifier.isPublic(method.getModifiers())) {
                need(readme.contains("`" + method.getName() + "`"), "the call " + method.getName() + " is not named");
            }
        }
    }
}
