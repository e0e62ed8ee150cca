import java.io.IOException;
import java.lang.reflect.Constructor;
import java.lang.reflect.Field;
import java.lang.reflect.Method;
import java.lang.reflect.Modifier;
import java.nio.file.Files;
import java.nio.file.Path;
import java.util.ArrayList;
import java.util.Arrays;
import java.util.HashMap;
import java.util.List;
import java.util.Map;
import java.util.Set;
import java.util.TreeMap;
import java.util.TreeSet;
import java.util.regex.Matcher;
import java.util.regex.Pattern;

/** Holds the source to those rules of LANGUAGE.md that can be seen from its text and its face. */
public final class LanguageTest {
    /** The document's face, as getDeclaredMethods() tells it. */
    private static final String FACE = "again(int)boolean asks()int block(int,int)int burst(int,int)int clears(int)int"
            + " cools()int copies(int)int costs(int)int count(int)int cuts(int,int,int)int day()int denies()int"
            + " end(int)boolean fits()int heard(int,int)int heat(int)int holds(int)int hot()int keep(int)boolean"
            + " lasts(int,int)int law(int)int leaf(int,int,int)int levels()int logs(int)int merges(int)int next()int"
            + " reads(int)int row(int)long rule()int seals()int sets(int,int)int sheet(int,int,int,int)int sign(int)int"
            + " spread()int stale()int sum()int swells()int undo()int worst()int writes(int,int)int years(int,int)int";
    private static final Set<String> MAY_THROW = Set.of("block", "leaf", "row");
    private static final int MOST_LINES = 60;
    private static final int MOST_PARAMETERS = 7;
    private static final int MOST_CLASSES = 12;
    private static final int MOST_FIELDS = 20;
    private static final int MOST_CALLS_DEEP = 8;
    private static final int FEWEST_METHODS = 110;
    /** What the class uses of the library that rule 4 leaves. */
    private static final Set<String> LIBRARY = Set.of("Math.max", "Math.min", "Integer.bitCount", "Arrays.fill",
            "System.arraycopy");
    private static final Pattern HEAD = Pattern.compile(
            "(?m)^( {4}| {8})(?:public|private)([\\w\\[\\] ]*?)(\\w+)\\(([^)]*)\\)[^;{]*\\{$");

    private static int wrong = 0;

    private static void holds(String what, boolean so) {
        if (!so) {
            wrong++;
            System.out.println("not so: " + what);
        }
    }

    public static void main(String[] args) throws IOException {
        Path source = Path.of(System.getProperty("flashfolio.source", "src/main/java/FlashFolio.java"));
        String whole = Files.readString(source);
        String code = withoutComments(whole);
        face();
        classes();
        words(code, whole);
        library(code);
        methods(code);
        calls(bodies(code));
        System.out.println(wrong == 0 ? "the source keeps to the rules" : wrong + " rules are broken");
        if (wrong != 0) {
            System.exit(1);
        }
    }

    private static String withoutComments(String whole) {
        return whole.replaceAll("(?s)/\\*.*?\\*/", "").replaceAll("//[^\n]*", "");
    }

    private static void face() {
        Set<String> got = new TreeSet<>();
        Set<String> open = new TreeSet<>();
        for (Method m : FlashFolio.class.getDeclaredMethods()) {
            if (Modifier.isPrivate(m.getModifiers()) || m.isSynthetic()) {
                continue;
            }
            holds(m.getName() + " is public", Modifier.isPublic(m.getModifiers()));
            String types = Arrays.toString(Arrays.stream(m.getParameterTypes()).map(Class::getName).toArray());
            got.add(m.getName() + "(" + types.substring(1, types.length() - 1).replace(" ", "") + ")"
                    + m.getReturnType().getName());
            open.add(m.getName());
            holds("throws of " + m.getName(), (m.getExceptionTypes().length == 1) == MAY_THROW.contains(m.getName()));
        }
        holds("the face is the document's", got.equals(new TreeSet<>(Arrays.asList(FACE.split(" ")))));
        for (Class<?> type : allClasses()) {
            for (Method m : type.getDeclaredMethods()) {
                boolean hidden = type != FlashFolio.class || Modifier.isPrivate(m.getModifiers());
                holds(m.getName() + " bears the name of a public one", !hidden || !open.contains(m.getName()));
            }
        }
        Constructor<?>[] made = FlashFolio.class.getDeclaredConstructors();
        holds("one constructor", made.length == 1 && made[0].getParameterCount() == 0);
        holds("final", Modifier.isFinal(FlashFolio.class.getModifiers()));
        for (Field f : FlashFolio.class.getDeclaredFields()) {
            holds("field " + f.getName(), f.getName().equals("NONE") || Modifier.isPrivate(f.getModifiers()));
        }
    }

    private static List<Class<?>> allClasses() {
        List<Class<?>> all = new ArrayList<>();
        all.add(FlashFolio.class);
        all.addAll(Arrays.asList(FlashFolio.class.getDeclaredClasses()));
        return all;
    }

    private static void classes() {
        holds("few classes", allClasses().size() <= MOST_CLASSES);
        for (Class<?> type : allClasses()) {
            int own = 0;
            for (Field f : type.getDeclaredFields()) {
                boolean isStatic = Modifier.isStatic(f.getModifiers());
                own += isStatic ? 0 : 1;
                holds("static " + f.getName() + " is final", !isStatic || Modifier.isFinal(f.getModifiers()));
            }
            holds("few fields in " + type.getName(), own <= MOST_FIELDS);
            boolean nested = type != FlashFolio.class;
            holds(type.getName() + " is static", !nested || Modifier.isStatic(type.getModifiers()));
        }
    }

    private static void words(String code, String whole) {
        for (String line : code.split("\n")) {
            boolean fine = !line.startsWith("import ") || line.equals("import java.util.Arrays;")
                    || line.equals("import java.util.NoSuchElementException;");
            holds("import of " + line, fine);
        }
        for (String word : new String[] {"->", "::", "\\bfinally\\b", "\\btry\\b", "\\bcatch\\b", "\\bsynchronized\\b",
            "\\bassert\\b", "\\bpackage\\b", "Exact\\b", "\\bThread\\b", "nanoTime", "currentTimeMillis", "Random",
            "\\bdouble\\b", "\\bfloat\\b", "\\bprotected\\b", "\\bstatic\\s*\\{", "\\bhashCode\\b", "\\btoString\\b",
            "\"\\s*\\+", "\\+\\s*\"", "\\bgoto\\b", "\\binstanceof\\b"}) {
            holds("no " + word, !Pattern.compile(word).matcher(code).find());
        }
        holds("plain signs alone", whole.chars().allMatch(c -> c == '\n' || c >= 32 && c < 127));
        Matcher made = Pattern.compile("new (\\w+)").matcher(code);
        while (made.find()) {
            String what = made.group(1);
            holds("new " + what, Set.of("Flash", "Rule", "NoSuchElementException", "int", "long", "boolean", "char")
                    .contains(what));
        }
    }

    /** Whatever is called by a name of the library, or on a text, is on the list. */
    private static void library(String code) {
        Matcher used = Pattern.compile("\\b([A-Z]\\w*[a-z]\\w*)\\.(\\w+)").matcher(code.replaceAll("(?m)^import .*$", ""));
        Set<String> own = new TreeSet<>();
        for (Class<?> type : allClasses()) {
            own.add(type.getSimpleName());
        }
        while (used.find()) {
            holds("library: " + used.group(), own.contains(used.group(1)) || LIBRARY.contains(used.group()));
        }
        Matcher called = Pattern.compile("\\b(\\w+)\\.(\\w+)\\(").matcher(code);
        while (called.find()) {
            boolean known = LIBRARY.contains(called.group(1) + "." + called.group(2)) || isOwn(called.group(2))
                    || called.group(1).equals("THINGS") && called.group(2).equals("indexOf");
            holds("library: " + called.group(), known);
        }
    }

    private static boolean isOwn(String name) {
        return allClasses().stream().anyMatch(type -> Arrays.stream(type.getDeclaredMethods())
                .anyMatch(m -> m.getName().equals(name)));
    }

    private static void methods(String code) {
        Matcher m = HEAD.matcher(code);
        int found = 0;
        while (m.find()) {
            found++;
            int end = code.indexOf("\n" + m.group(1) + "}", m.start());
            long lines = code.substring(m.start(), end).lines().count() + 1;
            holds(m.group(3) + " is short (" + lines + ")", lines <= MOST_LINES);
            holds(m.group(3) + " takes few", m.group(4).split(",").length <= MOST_PARAMETERS);
            Matcher loop = Pattern.compile("(?s)\\b(for|while)\\b.*\\bnew ").matcher(code.substring(m.start(), end));
            holds(m.group(3) + " makes nothing in a loop", !loop.find() || MAY_THROW.contains(m.group(3)));
        }
        holds("methods are found (" + found + ")", found >= FEWEST_METHODS);
    }

    /** What stands in each method, by its name: no two have the same. */
    private static Map<String, String> bodies(String code) {
        Map<String, String> all = new TreeMap<>();
        Matcher m = HEAD.matcher(code);
        while (m.find()) {
            String body = code.substring(m.end(), code.indexOf("\n" + m.group(1) + "}", m.start()));
            boolean made = m.group(2).isBlank();
            holds("two are named " + m.group(3), all.put((made ? "new " : "") + m.group(3), body) == null);
        }
        return all;
    }

    /** No method comes back to itself, and calls go eight deep at most, the library's among them. */
    private static void calls(Map<String, String> bodies) {
        Map<String, Integer> deep = new HashMap<>();
        for (String name : bodies.keySet()) {
            int calls = deepFrom(name, bodies, deep, new ArrayList<>());
            holds(name + " goes " + calls + " calls deep", calls <= MOST_CALLS_DEEP);
        }
        holds("the calls of write() are found", deep.getOrDefault("write", 0) > 3);
    }

    private static int deepFrom(String name, Map<String, String> bodies, Map<String, Integer> deep, List<String> open) {
        if (deep.containsKey(name)) {
            return deep.get(name);
        }
        holds(name + " comes back to itself by " + open, !open.contains(name));
        if (open.contains(name)) {
            return 0;
        }
        open.add(name);
        int most = 0;
        Matcher called = Pattern.compile("((?:new )?\\w+)\\(").matcher(bodies.get(name));
        while (called.find()) {
            boolean own = bodies.containsKey(called.group(1));
            boolean word = Set.of("if", "for", "while", "switch", "return").contains(called.group(1));
            most = Math.max(most, own ? deepFrom(called.group(1), bodies, deep, open) : word ? 0 : 1);
        }
        open.remove(name);
        deep.put(name, most + 1);
        return most + 1;
    }
}
