import java.io.IOException;
import java.lang.reflect.Constructor;
import java.lang.reflect.Field;
import java.lang.reflect.Method;
import java.lang.reflect.Modifier;
import java.nio.file.Files;
import java.nio.file.Path;
import java.util.ArrayList;
import java.util.Arrays;
import java.util.List;
import java.util.Set;
import java.util.TreeSet;
import java.util.regex.Matcher;
import java.util.regex.Pattern;

/** Holds the source to those rules of LANGUAGE.md that can be seen from its text and its face. */
public final class LanguageTest {
    /** The document's face, as getDeclaredMethods() tells it. */
    private static final String FACE = "again(int)boolean asks()int block(int,int)int burst(int,int)int clears(int)int"
            + " cools()int copies(int)int costs(int)int count(int)int cuts(int,int,int)int day()int denies()int"
            + " end(int)boolean fits()int heard(int,int)int heat(int)int holds(int)int hot()int keep(int)boolean"
            + " lasts(int,int)int law(int)int leaf(int,int,int)int levels()int logs(int)int merges(int)int next()int"
            + " reads(int)int row(int)long rule()int seals()int sets(int,int)int sheet(int,int,int,int)int sign(int)int"
            + " spread()int stale()int sum()int swells()int undo()int worst()int writes(int,int)int years(int,int)int";
    private static final Set<String> MAY_THROW = Set.of("block", "leaf", "row");
    private static final int MOST_LINES = 60;
    private static final int MOST_PARAMETERS = 7;
    private static final int MOST_CLASSES = 12;
    private static final int MOST_FIELDS = 20;

    private static int wrong = 0;

    private static void holds(String what, boolean so) {
        if (!so) {
            wrong++;
            System.out.println("not so: " + what);
        }
    }

    public static void main(String[] args) throws IOException {
        Path source = Path.of(System.getProperty("flashfolio.source", "src/main/java/FlashFolio.java"));
        String whole = Files.readString(source);
        String code = withoutComments(whole);
        face();
        classes();
        words(code, whole);
        methods(code);
        System.out.println(wrong == 0 ? "the source keeps to the rules" : wrong + " rules are broken");
        if (wrong != 0) {
            System.exit(1);
        }
    }

    private static String withoutComments(String whole) {
        return whole.replaceAll("(?s)/\\*.*?\\*/", "").replaceAll("//[^\n]*", "");
    }

    private static void face() {
        Set<String> got = new TreeSet<>();
        Set<String> open = new TreeSet<>();
        for (Method m : FlashFolio.class.getDeclaredMethods()) {
            if (Modifier.isPrivate(m.getModifiers()) || m.isSynthetic()) {
                continue;
            }
            holds(m.getName() + " is public", Modifier.isPublic(m.getModifiers()));
            String types = Arrays.toString(Arrays.stream(m.getParameterTypes()).map(Class::getName).toArray());
            got.add(m.getName() + "(" + types.substring(1, types.length() - 1).replace(" ", "") + ")"
                    + m.getReturnType().getName());
            open.add(m.getName());
            holds("throws of " + m.getName(), (m.getExceptionTypes().length == 1) == MAY_THROW.contains(m.getName()));
        }
        holds("the face is the document's", got.equals(new TreeSet<>(Arrays.asList(FACE.split(" ")))));
        for (Class<?> type : allClasses()) {
            for (Method m : type.getDeclaredMethods()) {
                boolean hidden = type != FlashFolio.class || Modifier.isPrivate(m.getModifiers());
                holds(m.getName() + " bears the name of a public one", !hidden || !open.contains(m.getName()));
            }
        }
        Constructor<?>[] made = FlashFolio.class.getDeclaredConstructors();
        holds("one constructor", made.length == 1 && made[0].getParameterCount() == 0);
        holds("final", Modifier.isFinal(FlashFolio.class.getModifiers()));
        for (Field f : FlashFolio.class.getDeclaredFields()) {
            holds("field " + f.getName(), f.getName().equals("NONE") || Modifier.isPrivate(f.getModifiers()));
        }
    }

    private static List<Class<?>> allClasses() {
        List<Class<?>> all = new ArrayList<>();
        all.add(FlashFolio.class);
        all.addAll(Arrays.asList(FlashFolio.class.getDeclaredClasses()));
        return all;
    }

    private static void classes() {
        holds("few classes", allClasses().size() <= MOST_CLASSES);
        for (Class<?> type : allClasses()) {
            int own = 0;
            for (Field f : type.getDeclaredFields()) {
                boolean isStatic = Modifier.isStatic(f.getModifiers());
                own += isStatic ? 0 : 1;
                holds("static " + f.getName() + " is final", !isStatic || Modifier.isFinal(f.getModifiers()));
            }
            holds("few fields in " + type.getName(), own <= MOST_FIELDS);
            boolean nested = type != FlashFolio.class;
            holds(type.getName() + " is static", !nested || Modifier.isStatic(type.getModifiers()));
        }
    }

    private static void words(String code, String whole) {
        for (String line : code.split("\n")) {
            boolean fine = !line.startsWith("import ") || line.equals("import java.util.Arrays;")
                    || line.equals("import java.util.NoSuchElementException;");
            holds("import of " + line, fine);
        }
        for (String word : new String[] {"->", "::", "\\bfinally\\b", "\\btry\\b", "\\bcatch\\b", "\\bsynchronized\\b",
            "\\bassert\\b", "\\bpackage\\b", "Exact\\b", "\\bThread\\b", "nanoTime", "currentTimeMillis", "Random",
            "\\bdouble\\b", "\\bfloat\\b", "\\bprotected\\b", "\\bstatic\\s*\\{", "\\bhashCode\\b", "\\btoString\\b",
            "System\\.(?!arraycopy)", "Math\\.(?!max|min)", "Integer\\.(?!MAX_VALUE|bitCount)", "Arrays\\.(?!fill)"}) {
            holds("no " + word, !Pattern.compile(word).matcher(code).find());
        }
        holds("plain signs alone", whole.chars().allMatch(c -> c == '\n' || c >= 32 && c < 127));
        Matcher made = Pattern.compile("new (\\w+)").matcher(code);
        while (made.find()) {
            String what = made.group(1);
            holds("new " + what, Set.of("Flash", "Rule", "NoSuchElementException", "int", "long", "boolean", "char")
                    .contains(what));
        }
    }

    private static void methods(String code) {
        Matcher m = Pattern.compile("(?m)^( {4}| {8})(?:public|private)[\\w ]*?(\\w+)\\(([^)]*)\\)[^;{]*\\{$").matcher(code);
        int found = 0;
        while (m.find()) {
            found++;
            int end = code.indexOf("\n" + m.group(1) + "}", m.start());
            long lines = code.substring(m.start(), end).lines().count() + 1;
            holds(m.group(2) + " is short (" + lines + ")", lines <= MOST_LINES);
            holds(m.group(2) + " takes few", m.group(3).split(",").length <= MOST_PARAMETERS);
            Matcher loop = Pattern.compile("(?s)\\b(for|while)\\b.*\\bnew ").matcher(code.substring(m.start(), end));
            holds(m.group(2) + " makes nothing in a loop", !loop.find() || MAY_THROW.contains(m.group(2)));
        }
        holds("methods are found", found > 80);
    }
}
