import java.io.IOException;
import java.lang.reflect.Method;
import java.lang.reflect.Modifier;
import java.nio.file.Files;
import java.nio.file.Path;
import java.util.Arrays;
import java.util.Collections;
import java.util.HashMap;
import java.util.List;
import java.util.Map;
import java.util.regex.Matcher;
import java.util.regex.Pattern;

/** README.md tells no untruth: its example answers what stands there, and its table names each call of the face. */
public final class ReadmeTest extends Checks {
    private static final Pattern CALL = Pattern.compile("folio\\.(\\w+)\\(([^)]*)\\);(.*)");
    private static final Pattern DUE = Pattern.compile("\\s*// (-?\\d+|true|false)(?:; the row: ([-\\d, ]+\\d))?(?: \\(.*\\))?");
    private static final int FEWEST_CALLS = 20;

    public static void main(String[] args) throws ReflectiveOperationException, IOException {
        List<String> lines = Files.readAllLines(Path.of(System.getProperty("flashfolio.readme", "README.md")));
        Map<String, Method> face = new HashMap<>();
        for (Method m : FlashFolio.class.getDeclaredMethods()) {
            if (Modifier.isPublic(m.getModifiers())) {
                face.put(m.getName(), m);
            }
        }
        table(lines, face);
        example(lines, face);
        close("README.md is as it tells");
    }

    private static void table(List<String> lines, Map<String, Method> face) {
        about("the table");
        Map<String, Integer> told = new HashMap<>();
        for (String line : lines) {
            Matcher call = Pattern.compile("`(\\w+)\\(([a-z, ]*)\\)`").matcher(line.startsWith("|") ? line : "");
            while (call.find()) {
                due("another row with " + call.group(1), told.containsKey(call.group(1)) ? 1 : 0, 0);
                told.put(call.group(1), argumentsOf(call.group(2)).size());
            }
        }
        due("calls", told.size(), face.size());
        for (Method m : face.values()) {
            due("arguments of " + m.getName(), told.getOrDefault(m.getName(), -1), m.getParameterCount());
        }
    }

    private static List<String> argumentsOf(String told) {
        return told.isEmpty() ? Collections.emptyList() : Arrays.asList(told.split(", "));
    }

    private static void example(List<String> lines, Map<String, Method> face) throws ReflectiveOperationException {
        FlashFolio x = new FlashFolio();
        int calls = 0;
        for (String line : lines) {
            Matcher call = CALL.matcher(line);
            if (call.matches()) {
                calls++;
                about(line);
                example(x, face.get(call.group(1)), argumentsOf(call.group(2)), DUE.matcher(call.group(3)));
            }
        }
        about("the example");
        holds("calls are found", calls >= FEWEST_CALLS);
    }

    private static void example(FlashFolio x, Method call, List<String> arguments, Matcher due)
            throws ReflectiveOperationException {
        if (call == null || !due.matches()) {
            wrong("is no call with an answer");
            return;
        }
        String got = String.valueOf(call.invoke(x, arguments.stream().map(Integer::decode).toArray()));
        if (!got.equals(due.group(1))) {
            wrong("answered " + got);
        }
        String row = Arrays.toString(rowOf(x));
        if (due.group(2) != null && !row.equals("[" + due.group(2) + "]")) {
            wrong("told the row " + row);
        }
    }
}
