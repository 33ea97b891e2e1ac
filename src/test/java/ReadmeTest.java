import java.io.IOException;
import java.lang.reflect.Method;
import java.lang.reflect.Modifier;
import java.nio.file.Files;
import java.nio.file.Path;
import java.util.Set;
import java.util.TreeSet;
import java.util.regex.Matcher;
import java.util.regex.Pattern;

/** Makes the calls of the example in README.md and compares the answers with those told there. */
public final class ReadmeTest {
    private static final Pattern MAKING = Pattern.compile("RegisterLab lab = new RegisterLab\\((-?\\d+)\\);\\s*//.*");
    private static final Pattern CALL =
        Pattern.compile("lab\\.(\\w+)\\(([-\\d, ]*)\\);(?:\\s*// (-?\\d+|true|false)(?:: .*)?)?");

    private static int wrong = 0;

    public static void main(String[] args) throws IOException, ReflectiveOperationException {
        Set<String> called = new TreeSet<>();
        RegisterLab lab = null;
        for (String line : example().split("\n")) {
            Matcher making = MAKING.matcher(line);
            if (making.matches()) {
                lab = new RegisterLab(Integer.parseInt(making.group(1)));
            } else {
                called.add(call(lab, line));
            }
        }
        need(called.equals(publicMethods()), "the example shows every method: " + called);
        System.out.println(wrong == 0 ? "the README's example is right" : wrong + " faults in the README's example");
        if (wrong != 0) {
            System.exit(1);
        }
    }

    private static void need(boolean holds, String what) {
        if (!holds) {
            wrong++;
            System.out.println("README.md: not so: " + what);
        }
    }

    private static String example() throws IOException {
        Matcher block = Pattern.compile("(?s)```java\n(.*?)```").matcher(Files.readString(Path.of("README.md")));
        need(block.find(), "there is an example");
        return wrong == 0 ? block.group(1) : "";
    }

    private static Set<String> publicMethods() {
        Set<String> names = new TreeSet<>();
        for (Method m : RegisterLab.class.getDeclaredMethods()) {
            if (Modifier.isPublic(m.getModifiers())) {
                names.add(m.getName());
            }
        }
        return names;
    }

    private static String call(RegisterLab lab, String line) throws ReflectiveOperationException {
        Matcher call = CALL.matcher(line);
        if (lab == null || !call.matches()) {
            need(false, "a call that this test can read: " + line);
            return "";
        }
        String[] numbers = call.group(2).isEmpty() ? new String[0] : call.group(2).split(", ");
        Class<?>[] types = new Class<?>[numbers.length];
        Object[] values = new Object[numbers.length];
        for (int i = 0; i < numbers.length; i++) {
            types[i] = int.class;
            values[i] = Integer.parseInt(numbers[i]);
        }
        Object answer = RegisterLab.class.getMethod(call.group(1), types).invoke(lab, values);
        String told = call.group(3);
        need(answer == null ? told == null : String.valueOf(answer).equals(told), line + " (answered " + answer + ")");
        return call.group(1);
    }
}
