import java.io.IOException;
import java.lang.reflect.Field;
import java.lang.reflect.Method;
import java.lang.reflect.Modifier;
import java.nio.file.Files;
import java.nio.file.Path;
import java.util.ArrayList;
import java.util.List;
import java.util.Map;
import java.util.Set;
import java.util.TreeMap;
import java.util.TreeSet;
import java.util.regex.Matcher;
import java.util.regex.Pattern;

/** Checks the public face and those rules of LANGUAGE.md that show in the class or its text. */
public final class LanguageTest {
    private static final Path SOURCE = Path.of("src/main/java/RegisterLab.java");

    private static final Set<String> FACE = Set.of(
        "public int modulus()", "public boolean append(int)", "public int drop()",
        "public boolean change(int,int)", "public void clear()", "public int length()",
        "public int symbol(int)", "public int complexity(int,int)", "public int registers()",
        "public int coefficient(int)", "public int predict(int)", "public int complexityWith(int)",
        "public int complexityBackwards()", "public int holdsUntil(int)");

    private static final String FORBIDDEN_WORDS = "package|import|throw|throws|try|catch|finally|synchronized"
        + "|assert|instanceof|null|float|double|interface|enum|record|var|super|extends|implements"
        + "|protected|String|Math|Integer|Long|System|Arrays|Object|toString|equals|hashCode|getClass|clone";

    // What stands behind && may end a loop early; the counter must run towards its bound without it.
    private static final Pattern LOOP_HEAD = Pattern.compile(" \\(int (?<counter>\\w+) = [^;]+; "
        + "(?<test>\\k<counter> (?:<=?|(?<down>>=?)) [^;&|?]+)(?: && [^;|?]+)?; \\k<counter>(?:\\+\\+|(?<back>--))\\) \\{");

    private static int wrong = 0;

    public static void main(String[] args) throws IOException {
        face();
        fields();
        text();
        methods();
        System.out.println(wrong == 0 ? "face and language are as due" : wrong + " faults of face or language");
        if (wrong != 0) {
            System.exit(1);
        }
    }

    private static void need(boolean holds, String rule) {
        if (!holds) {
            wrong++;
            System.out.println("broken: " + rule);
        }
    }

    private static void face() {
        Class<?> lab = RegisterLab.class;
        need(Modifier.isPublic(lab.getModifiers()) && Modifier.isFinal(lab.getModifiers()), "class public and final");
        need(lab.getSuperclass() == Object.class && lab.getInterfaces().length == 0, "class stands alone");
        need(lab.getDeclaredClasses().length == 0, "no nested class");
        need(lab.getDeclaredConstructors().length == 1, "one constructor");
        need(lab.getDeclaredConstructors()[0].toString().equals("public RegisterLab(int)"), "RegisterLab(int)");
        Set<String> publicOnes = new TreeSet<>();
        Set<String> names = new TreeSet<>();
        for (Method m : lab.getDeclaredMethods()) {
            need(m.getParameterCount() <= 7, "at most seven parameters: " + m);
            if (!Modifier.isPrivate(m.getModifiers())) {
                publicOnes.add(m.toString().replace("RegisterLab.", ""));
                names.add(m.getName());
            }
        }
        need(publicOnes.equals(FACE), "the methods of the document and no other: " + publicOnes);
        for (Method m : lab.getDeclaredMethods()) {
            need(!Modifier.isPrivate(m.getModifiers()) || !names.contains(m.getName()),
                "no private method with a public one's name: " + m);
        }
    }

    private static void fields() {
        int ownFields = 0;
        for (Field f : RegisterLab.class.getDeclaredFields()) {
            int mods = f.getModifiers();
            Class<?> type = f.getType();
            need(Modifier.isPrivate(mods) || f.toString().equals("public static final int RegisterLab.NONE"),
                "private but for NONE: " + f);
            need(!Modifier.isStatic(mods) || Modifier.isFinal(mods) && (type == int.class || type == long.class),
                "static fields are constants of int or long: " + f);
            Class<?> base = type.isArray() ? type.getComponentType() : type;
            need(base.isPrimitive() && base != float.class && base != double.class, "type of " + f);
            ownFields += Modifier.isStatic(mods) ? 0 : 1;
        }
        need(ownFields <= 40, "some forty fields at most");
        need(RegisterLab.NONE == -1, "NONE is -1");
    }

    private static String codeWithoutComments() throws IOException {
        return Files.readString(SOURCE)
            .replaceAll("(?s)/\\*.*?\\*/", " ")
            .replaceAll("//[^\n]*", " ");
    }

    private static void text() throws IOException {
        String code = codeWithoutComments();
        Matcher word = Pattern.compile("\\b(" + FORBIDDEN_WORDS + ")\\b").matcher(code);
        while (word.find()) {
            need(false, "word outside the language: " + word.group());
        }
        need(!code.contains("->") && !code.contains("::"), "no lambda and no method reference");
        need(!code.contains("\"") && !code.contains("@"), "no text and no annotation");
        Matcher made = Pattern.compile("\\bnew\\b[^;]*;").matcher(code);
        while (made.find()) {
            need(made.group().matches("new int\\[[A-Z_]+\\];"), "arrays alone, with a constant length: " + made.group());
        }
        int firstMethod = code.indexOf("public RegisterLab(");
        need(code.lastIndexOf("new ") < firstMethod, "arrays are made in the fields' initialisers");
    }

    // The source is laid out so that a method starts and ends at an indent of four.
    private static void methods() throws IOException {
        Map<String, String> bodies = new TreeMap<>();
        Matcher method = Pattern.compile("(?ms)^    (?:public|private) [^=;{]*?(\\w+)\\([^)]*\\) \\{\n(.*?)^    \\}$")
            .matcher(codeWithoutComments());
        while (method.find()) {
            need(bodies.put(method.group(1), method.group(2)) == null, "one method of a name: " + method.group(1));
        }
        need(bodies.size() == RegisterLab.class.getDeclaredMethods().length + 1, "every method is found in the text");
        for (Map.Entry<String, String> m : bodies.entrySet()) {
            need(m.getValue().lines().count() <= 60, "some sixty lines at most: " + m.getKey());
            need(depth(m.getKey(), bodies, 1) <= 6, "calls at most six deep, no recursion: " + m.getKey());
            noCallInArguments(m.getKey(), m.getValue(), bodies);
            countedLoops(m.getKey(), m.getValue(), bodies);
        }
    }

    private static List<String> callsIn(String text, Map<String, String> bodies) {
        List<String> calls = new ArrayList<>();
        Matcher call = Pattern.compile("\\b(\\w+)\\s*\\(").matcher(text);
        while (call.find()) {
            if (bodies.containsKey(call.group(1))) {
                calls.add(call.group(1));
            } else {
                need(call.group(1).matches("if|for|while|switch|return"), "a method of the class: " + call.group(1));
            }
        }
        return calls;
    }

    private static int depth(String method, Map<String, String> bodies, int above) {
        int deepest = above;
        // Recursion would go down for ever: seven is too deep already.
        if (above <= 6) {
            for (String called : callsIn(bodies.get(method), bodies)) {
                deepest = Math.max(deepest, depth(called, bodies, above + 1));
            }
        }
        return deepest;
    }

    private static void noCallInArguments(String name, String body, Map<String, String> bodies) {
        Matcher call = Pattern.compile("\\b(\\w+)\\s*\\(").matcher(body);
        while (call.find()) {
            if (!bodies.containsKey(call.group(1))) {
                continue;
            }
            String arguments = upToClosing(body, call.end(), '(', ')');
            need(callsIn(arguments, bodies).isEmpty(), "no call inside a call's arguments: " + name);
        }
    }

    private static void countedLoops(String name, String body, Map<String, String> bodies) {
        need(!Pattern.compile("\\b(while|do)\\b").matcher(body).find(), "counted loops alone: " + name);
        Matcher loop = Pattern.compile("\\bfor\\b([^\n]*)").matcher(body);
        while (loop.find()) {
            Matcher head = LOOP_HEAD.matcher(loop.group(1));
            if (!head.matches() || (head.group("down") == null) != (head.group("back") == null)) {
                need(false, "a counter against a bound in " + name + ": " + loop.group(1));
                continue;
            }
            String inside = upToClosing(body, loop.end(), '{', '}');
            for (String fixed : head.group("test").split("\\W+")) {
                need(!changedBy(inside, bodies).contains(fixed), "a loop that leaves " + fixed + " alone in " + name);
            }
        }
    }

    /** What the text itself assigns to, and the fields that the methods it calls assign to. */
    private static Set<String> changedBy(String text, Map<String, String> bodies) {
        Set<String> changed = assignedIn(text);
        Set<String> reached = new TreeSet<>(callsIn(text, bodies));
        // Each round reaches one call deeper, and there are no more methods than rounds.
        for (int round = 0; round < bodies.size(); round++) {
            for (String method : List.copyOf(reached)) {
                reached.addAll(callsIn(bodies.get(method), bodies));
            }
        }
        for (String method : reached) {
            Set<String> there = assignedIn(bodies.get(method));
            there.retainAll(fieldNames());
            changed.addAll(there);
        }
        return changed;
    }

    private static Set<String> assignedIn(String text) {
        Set<String> names = new TreeSet<>();
        Matcher assigned = Pattern.compile("(?:\\+\\+|--)(\\w+)|\\b(\\w+)\\s*(?:\\+\\+|--|(?:[-+*/%&|^]|<<|>>>?)?=(?!=))")
            .matcher(text);
        while (assigned.find()) {
            names.add(assigned.group(1) == null ? assigned.group(2) : assigned.group(1));
        }
        return names;
    }

    private static Set<String> fieldNames() {
        Set<String> names = new TreeSet<>();
        for (Field f : RegisterLab.class.getDeclaredFields()) {
            names.add(f.getName());
        }
        return names;
    }

    private static String upToClosing(String text, int start, char opening, char closing) {
        int open = 1;
        int end = start;
        while (open > 0) {
            open += text.charAt(end) == opening ? 1 : text.charAt(end) == closing ? -1 : 0;
            end++;
        }
        return text.substring(start, end);
    }
}
