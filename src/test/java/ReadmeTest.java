import java.lang.reflect.Method;
import java.lang.reflect.Modifier;
import java.nio.file.Files;
import java.nio.file.Path;
import java.util.ArrayList;
import java.util.List;
import java.util.Set;
import java.util.TreeSet;
import java.util.regex.Matcher;
import java.util.regex.Pattern;

/** Makes the calls that README.md shows, in its order, and looks for the answers beside them. */
public final class ReadmeTest {
    private static final String MAKING = "TwoFlows net = new TwoFlows();";
    private static final Pattern CALL =
        Pattern.compile("net\\.(\\w+)\\(((?:-?\\d+(?:, -?\\d+)*)?)\\); +// (true|false|-?\\d+)(?:: .+)?");

    private static TwoFlows net;
    private static final Set<String> SHOWN = new TreeSet<>();

    public static void main(String[] args) throws Exception {
        for (String line : shownLines()) {
            follow(line);
        }
        Check.due("methods that README.md shows", SHOWN.toString(), publicMethods().toString());
        Check.end();
    }

    private static List<String> shownLines() throws Exception {
        List<String> shown = new ArrayList<>();
        boolean inside = false;
        for (String line : Files.readAllLines(Path.of("README.md"))) {
            if (line.startsWith("```")) {
                inside = line.equals("```java");
            } else if (inside && !line.isBlank()) {
                shown.add(line);
            }
        }
        return shown;
    }

    /** A line of any other form is a fault as well: its answer would stand there untested. */
    private static void follow(String line) throws Exception {
        Matcher call = CALL.matcher(line);
        if (line.equals(MAKING)) {
            net = new TwoFlows();
        } else if (net != null && call.matches()) {
            SHOWN.add(call.group(1));
            Check.due("README.md: " + line, answer(call.group(1), call.group(2)), call.group(3));
        } else {
            Check.due("README.md: " + line, "no call with its answer", "a call with its answer");
        }
    }

    private static String answer(String name, String numbers) throws Exception {
        String[] parts = numbers.isEmpty() ? new String[0] : numbers.split(", ");
        Class<?>[] types = new Class<?>[parts.length];
        Object[] values = new Object[parts.length];
        for (int i = 0; i < parts.length; i++) {
            types[i] = int.class;
            values[i] = Integer.valueOf(parts[i]);
        }
        return String.valueOf(TwoFlows.class.getMethod(name, types).invoke(net, values));
    }

    private static Set<String> publicMethods() {
        Set<String> names = new TreeSet<>();
        for (Method m : TwoFlows.class.getDeclaredMethods()) {
            if (Modifier.isPublic(m.getModifiers())) {
                names.add(m.getName());
            }
        }
        return names;
    }
}
