import java.io.IOException;
import java.lang.reflect.Method;
import java.lang.reflect.Modifier;
import java.nio.file.Files;
import java.nio.file.Path;
import java.util.TreeSet;
import java.util.regex.Matcher;
import java.util.regex.Pattern;

/** The examples of README.md, line by line: each call must answer what its comment says. */
public final class ReadmeExamples extends Checks {
    private static final String NEW = "FilterMachine machine = new FilterMachine();";
    private static final Pattern CALL = Pattern.compile("machine\\.(\\w+)\\(([-\\d, ]*)\\);(?: +// (.*))?");
    private static final Pattern ANSWER = Pattern.compile("(-?\\d+|true|false)\\b.*");

    private static final TreeSet<String> shown = new TreeSet<>();
    private static int told = 0;

    public static void main(String[] args) throws IOException, ReflectiveOperationException {
        boolean inside = false;
        String readme = Files.readString(Path.of("README.md"));
        for (String line : readme.split("\n")) {
            if (line.startsWith("```")) {
                inside = line.equals("```java");
            } else if (inside && line.equals(NEW)) {
                fresh();
            } else if (inside) {
                example(line);
            }
        }
        holds("many answers are told: " + told, told >= 20);
        for (Method m : FilterMachine.class.getDeclaredMethods()) {
            if (Modifier.isPublic(m.getModifiers())) {
                holds("an example shows " + m.getName(), shown.contains(m.getName()));
                holds("the table tells of " + m.getName(), readme.contains("`" + m.getName() + "("));
            }
        }
        finish();
    }

    private static void example(String line) throws ReflectiveOperationException {
        Matcher call = CALL.matcher(line);
        boolean read = call.matches();
        holds("this line can be read: " + line, read);
        if (!read) {
            return;
        }
        String name = call.group(1);
        shown.add(name);
        String answer = String.valueOf(answer(name, call.group(2)));
        Matcher wanted = ANSWER.matcher(call.group(3) == null ? "" : call.group(3));
        if (wanted.matches()) {
            told++;
            holds(line + " answered " + answer, answer.equals(wanted.group(1)));
        } else {
            holds(line + " tells no answer", name.equals("code") || name.equals("forget"));
            holds(line + " was refused", !answer.equals("false"));
        }
    }

    private static Object answer(String name, String arguments) throws ReflectiveOperationException {
        String[] texts = arguments.isBlank() ? new String[0] : arguments.split(", ");
        Class<?>[] types = new Class<?>[texts.length];
        Object[] values = new Object[texts.length];
        for (int n = 0; n < texts.length; n++) {
            types[n] = int.class;
            values[n] = Integer.valueOf(texts[n]);
        }
        return FilterMachine.class.getMethod(name, types).invoke(x, values);
    }
}
