import java.io.IOException;
import java.lang.reflect.Constructor;
import java.lang.reflect.Field;
import java.lang.reflect.Method;
import java.lang.reflect.Modifier;
import java.nio.file.Files;
import java.nio.file.Path;
import java.util.ArrayList;
import java.util.LinkedHashMap;
import java.util.List;
import java.util.Map;
import java.util.Set;
import java.util.TreeSet;
import java.util.regex.Matcher;
import java.util.regex.Pattern;

/** Those rules of LANGUAGE.md that a look at the class and at its text can tell. */
public final class LanguageRules extends Checks {
    private static final Set<String> FACE = Set.of(
        "boolean code(int, int, int, int, int)", "int wipe()", "int verify(int)", "int place()", "long least()",
        "long most()", "boolean feed(int)", "int next()", "long run(int)", "int steps()", "long value(int, int, int)",
        "int keys(int)", "void forget()");
    private static final Set<String> CONSTANTS =
        Set.of("OK", "OUT", "UNSET", "KIND", "BOUNDS", "COMPLEX", "DEAD", "BAD", "NONE");
    private static final Pattern FORBIDDEN = Pattern.compile("\\b(import|package|throw|throws|try|catch|finally|synchronized"
        + "|assert|instanceof|null|float|double|String|Math|Integer|Long|System|Arrays|Object|enum|interface|record|var"
        + "|native|volatile|transient|this)\\b|->|::");
    private static final Pattern HEAD = Pattern.compile("^    (public|private) (static )?(?:(?:int|long|boolean|void) )?(\\w+)\\((.*)\\) \\{$");
    private static final Pattern CALL = Pattern.compile("\\b([a-zA-Z]\\w*)\\(");
    private static final Set<String> KEYWORDS = Set.of("if", "for", "while", "switch", "return");

    private static final Map<String, List<String>> bodies = new LinkedHashMap<>();

    public static void main(String[] args) throws IOException {
        face();
        fields();
        List<String> lines = Files.readAllLines(Path.of("src/main/java/FilterMachine.java"));
        readBodies(lines);
        words(lines);
        methods();
        finish();
    }

    private static void face() {
        Class<FilterMachine> machine = FilterMachine.class;
        same("public final", machine.getModifiers(), Modifier.PUBLIC | Modifier.FINAL);
        same("nested classes", machine.getDeclaredClasses().length, 0);
        Set<String> found = new TreeSet<>();
        Set<String> names = new TreeSet<>();
        for (Method m : machine.getDeclaredMethods()) {
            holds(m.getName() + " has at most seven parameters", m.getParameterCount() <= 7);
            if (!Modifier.isPrivate(m.getModifiers())) {
                String types = List.of(m.getParameterTypes()).toString().replace("[", "").replace("]", "");
                found.add(m.getReturnType() + " " + m.getName() + "(" + types + ")");
                names.add(m.getName());
                same(m.getName() + " is public", m.getModifiers(), Modifier.PUBLIC);
            }
        }
        holds("the face is " + found, found.equals(FACE));
        for (Method m : machine.getDeclaredMethods()) {
            holds(m.getName() + " is not the name of a public one",
                !Modifier.isPrivate(m.getModifiers()) || !names.contains(m.getName()));
        }
        Constructor<?>[] constructors = machine.getDeclaredConstructors();
        same("constructors", constructors.length, 1);
        same("public constructor", constructors[0].getModifiers(), Modifier.PUBLIC);
    }

    private static void fields() {
        int count = 0;
        for (Field f : FilterMachine.class.getDeclaredFields()) {
            int how = f.getModifiers();
            Class<?> type = f.getType().isArray() ? f.getType().getComponentType() : f.getType();
            holds(f.getName() + " is of numbers", type.isPrimitive());
            if (CONSTANTS.contains(f.getName())) {
                same(f.getName(), how, Modifier.PUBLIC | Modifier.STATIC | Modifier.FINAL);
                continue;
            }
            holds(f.getName() + " is private", Modifier.isPrivate(how));
            if (Modifier.isStatic(how)) {
                holds(f.getName() + " is a constant", Modifier.isFinal(how) && (f.getType() == int.class || f.getType() == long.class));
            } else {
                count++;
            }
        }
        holds("at most forty fields", count <= 40);
    }

    private static void readBodies(List<String> lines) {
        List<String> body = null;
        for (String line : lines) {
            Matcher head = HEAD.matcher(line);
            if (head.matches()) {
                body = new ArrayList<>();
                holds("a second " + head.group(3), !bodies.containsKey(head.group(3)));
                bodies.put(head.group(3), body);
            } else if (body != null && line.equals("    }")) {
                body = null;
            } else if (body != null) {
                body.add(line.replaceAll("//.*", ""));
            }
        }
        same("all methods were read", bodies.size(), FilterMachine.class.getDeclaredMethods().length + 1);
    }

    private static void words(List<String> lines) {
        for (String line : lines) {
            Matcher bad = FORBIDDEN.matcher(line.replaceAll("//.*", ""));
            holds(line, !bad.find());
        }
        for (Map.Entry<String, List<String>> body : bodies.entrySet()) {
            holds("lines of " + body.getKey(), body.getValue().size() <= 60);
            for (String line : body.getValue()) {
                holds("no new: " + line, !line.contains("new "));
            }
        }
    }

    private static void methods() {
        for (String name : bodies.keySet()) {
            int deep = depth(name, new ArrayList<>());
            holds(name + " goes " + deep + " deep", deep <= 6);
            for (String line : bodies.get(name)) {
                holds("no call inside the arguments of another: " + line, !hasInnerCall(line));
            }
        }
    }

    private static List<String> callsOf(String text) {
        List<String> calls = new ArrayList<>();
        Matcher call = CALL.matcher(text);
        while (call.find()) {
            if (!KEYWORDS.contains(call.group(1))) {
                calls.add(call.group(1));
            }
        }
        return calls;
    }

    private static int depth(String name, List<String> above) {
        holds(name + " is not called from itself: " + above, !above.contains(name));
        if (above.contains(name)) {
            return 1000;
        }
        List<String> path = new ArrayList<>(above);
        path.add(name);
        int deepest = 0;
        for (String called : new TreeSet<>(callsOf(String.join("\n", bodies.get(name))))) {
            holds(called + " is a method of the class", bodies.containsKey(called));
            deepest = Math.max(deepest, depth(called, path));
        }
        return deepest + 1;
    }

    private static boolean hasInnerCall(String line) {
        Matcher call = CALL.matcher(line);
        while (call.find()) {
            if (KEYWORDS.contains(call.group(1))) {
                continue;
            }
            int open = 1;
            int end = call.end();
            while (end < line.length() && open > 0) {
                open += line.charAt(end) == '(' ? 1 : line.charAt(end) == ')' ? -1 : 0;
                end++;
            }
            if (!callsOf(line.substring(call.end(), end)).isEmpty()) {
                return true;
            }
        }
        return false;
    }
}
