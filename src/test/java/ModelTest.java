import java.lang.reflect.InvocationTargetException;
import java.lang.reflect.Method;
import java.util.Arrays;
import java.util.HashMap;
import java.util.Map;
import java.util.NoSuchElementException;
import java.util.Random;
import java.util.TreeMap;

/** Asks FlashFolio and PlainFolio the same, in runs drawn by seeds, and compares all that they answer. */
public final class ModelTest {
    private static final int RUNS = 1200;
    private static final int CALLS = 512;
    private static final String[] QUIET = {"block", "leaf", "sign", "end", "sheet", "reads", "merges", "seals", "clears",
        "levels", "cools", "sets", "undo", "undo", "copies", "stale", "hot", "heat", "next", "logs", "holds", "spread",
        "costs", "costs", "worst", "burst", "lasts", "cuts", "cuts", "swells", "heard", "heard", "fits", "asks",
        "law", "years", "sum", "keep", "count", "row"};
    /** These would end too much if they came as often as the others. */
    private static final String[] RARE = {"again", "denies", "sheet"};

    private static final int[] FAR_OFF = {Integer.MIN_VALUE, Integer.MAX_VALUE, Integer.MIN_VALUE + 1, Integer.MAX_VALUE - 1,
        1 << 30, -(1 << 30), 65536, -65536, 256, 255, 128, 127, -128, -129, 32768, -32768, 1000, 100, 99, 64, 24, 16};

    private static final Map<String, Method> FOLIO = methodsOf(FlashFolio.class);
    private static final Map<String, Method> PLAIN = methodsOf(PlainFolio.class);

    private static int wrong = 0;
    /** What the runs came across, so that it shows if they no longer come by something. */
    private static final Map<String, Integer> SEEN = new TreeMap<>();

    private final FlashFolio folio = new FlashFolio();
    private final PlainFolio plain = new PlainFolio();
    private final Random random;
    private final int profile;
    private final StringBuilder story = new StringBuilder();
    private int turn = 0;

    private ModelTest(int seed) {
        random = new Random(seed);
        profile = seed % 5;
    }

    public static void main(String[] args) {
        for (int seed = 0; seed < RUNS && wrong < 5; seed++) {
            new ModelTest(seed).run(seed);
        }
        for (String needed : new String[] {"switch", "partial", "full merge", "levelled", "way 2", "way 3", "way 4",
            "way 5", "both hot logs", "three cold logs", "over 12 copies", "cut short", "day refused", "8 to undo",
            "law above 0", "law below 0", "none fits", "12 heard", "lasts in vain", "rule of 40 signs"}) {
            if (!SEEN.containsKey(needed)) {
                wrong++;
                System.out.println("no run came by: " + needed);
            }
        }
        System.out.println(wrong == 0 ? "both tell the same; seen: " + SEEN : wrong + " runs differ");
        if (wrong != 0) {
            System.exit(1);
        }
    }

    private static Map<String, Method> methodsOf(Class<?> type) {
        Map<String, Method> all = new HashMap<>();
        for (Method method : type.getDeclaredMethods()) {
            if (!java.lang.reflect.Modifier.isPrivate(method.getModifiers())) {
                all.put(method.getName(), method);
            }
        }
        return all;
    }

    private static void seen(String what, boolean so) {
        if (so) {
            SEEN.merge(what, 1, Integer::sum);
        }
    }

    private void run(int seed) {
        for (turn = 0; turn < CALLS; turn++) {
            String difference = step();
            if (difference != null) {
                wrong++;
                System.out.println("seed " + seed + ", turn " + turn + ": " + difference);
                System.out.println("  behind .. " + story.substring(Math.max(0, story.length() - 600)));
                return;
            }
        }
    }

    private String step() {
        if (profile == 4 && turn < 2) {
            return turn == 0 ? same("sets", 0, 3) : same("sets", 1, 0);
        }
        int what = random.nextInt(200);
        if (what < 90) {
            return same("writes", page(), value());
        }
        if (what < 96) {
            return speak(dayText(), "day");
        }
        if (what < 102) {
            String text = ruleText();
            return speak(text, random.nextInt(3) == 0 ? "law" : "rule");
        }
        String call = what < 105 ? RARE[random.nextInt(RARE.length)] : QUIET[random.nextInt(QUIET.length)];
        Object[] arguments = new Object[FOLIO.get(call).getParameterCount()];
        for (int i = 0; i < arguments.length; i++) {
            arguments[i] = argument(call, i);
        }
        return same(call, arguments);
    }

    private int page() {
        if (random.nextInt(40) == 0) {
            return random.nextInt(40) - 8;
        }
        return switch (profile) {
            case 0 -> random.nextInt(24);
            case 1 -> random.nextInt(8);
            case 2 -> random.nextInt(4) > 0 ? turn % 4 : random.nextInt(24);
            case 3 -> random.nextBoolean() ? 1 + random.nextInt(3) : random.nextInt(24);
            default -> random.nextInt(12) > 0 ? 5 : random.nextInt(24);
        };
    }

    private int value() {
        return random.nextInt(30) == 0 ? random.nextInt(140) - 20 : random.nextInt(100);
    }

    private int argument(String call, int i) {
        if (random.nextInt(80) == 0) {
            return FAR_OFF[random.nextInt(FAR_OFF.length)];
        }
        return switch (call + i) {
            case "block0", "leaf0" -> random.nextInt(18) - 1;
            case "block1", "sheet0", "sets0", "heard0", "leaf1" -> random.nextInt(7) - 1;
            case "leaf2", "clears0", "logs0", "holds0", "keep0", "again0" -> random.nextInt(4) - 1;
            case "sheet1" -> random.nextInt(20) - 2;
            case "sheet2" -> new int[] {random.nextInt(), random.nextInt(1100) - 50, random.nextInt(8)}[random.nextInt(3)];
            case "sheet3" -> random.nextInt(6) == 0 ? random.nextInt() : random.nextInt(5) - 1;
            case "merges0" -> random.nextInt(8) - 1;
            case "sets1" -> random.nextInt(5) == 0 ? random.nextInt(12) - 1 : random.nextInt(4);
            case "burst1" -> random.nextInt(27) - 1;
            case "lasts1" -> random.nextInt(10) == 0 ? random.nextInt(1100) - 20 : random.nextInt(12);
            case "cuts1" -> value();
            case "cuts2" -> random.nextInt(random.nextInt(10) == 0 ? 110 : 25) - 1;
            case "heard1" -> random.nextInt(4) == 0 ? random.nextInt(12) - 1 : random.nextInt(2);
            case "law0", "years0", "sign0" -> random.nextInt();
            case "years1" -> random.nextInt(64) - 1;
            case "end0" -> random.nextInt(20) == 0 ? random.nextInt(90) - 4 : 0;
            case "count0", "row0" -> random.nextInt(16) - 1;
            default -> page();
        };
    }

    private String dayText() {
        StringBuilder t = new StringBuilder();
        int acts = random.nextInt(12);
        for (int i = 0; i < acts; i++) {
            int n = random.nextInt(20);
            if (n < 12) {
                t.append('w').append(digits(Math.max(0, page()))).append(digits(random.nextInt(100)));
            } else {
                t.append(new String[] {"m0", "m1", "m2", "m5", "q", "c0", "c1", "l"}[n - 12]);
            }
            if (random.nextInt(8) == 0) {
                t.append('h');
            }
        }
        return spoilt(t);
    }

    private static String digits(int n) {
        return n < 10 ? "0" + n : "" + n % 100;
    }

    private String ruleText() {
        StringBuilder t = new StringBuilder();
        grow(t, 0);
        if (random.nextInt(3) > 0 && t.length() > 40) {
            t.setLength(40);
        }
        while (random.nextInt(20) == 0 && t.length() < 40) {
            t.insert(0, "-".repeat(40 - t.length()));
        }
        return spoilt(t);
    }

    private void grow(StringBuilder t, int depth) {
        int things = 1 + random.nextInt(3);
        boolean compared = false;
        for (int i = 0; i < things; i++) {
            while (random.nextInt(5) == 0) {
                t.append('-');
            }
            int n = random.nextInt(10);
            if (n < 3 && depth < 5) {
                t.append('(');
                grow(t, depth + 1);
                t.append(')');
            } else if (n < 6) {
                t.append(random.nextInt(random.nextInt(20) == 0 ? 2000 : random.nextBoolean() ? 10 : 1000));
            } else {
                t.append("dfwcls".charAt(random.nextInt(6)));
            }
            if (i < things - 1) {
                boolean compare = (!compared || random.nextInt(8) == 0) && random.nextInt(3) == 0;
                t.append(compare ? "<>=".charAt(random.nextInt(3)) : "+-*/".charAt(random.nextInt(4)));
                compared |= compare;
            }
        }
    }

    /** Sometimes one sign is another one, or the end lacks. */
    private String spoilt(StringBuilder t) {
        int n = random.nextInt(10);
        if (n == 0 && t.length() > 0) {
            t.setCharAt(random.nextInt(t.length()), (char) random.nextInt(256));
        } else if (n == 1 && t.length() > 0) {
            t.setLength(random.nextInt(t.length()));
        } else if (n == 2 && t.length() > 0) {
            t.setCharAt(random.nextInt(t.length()), "wmqclh0123456789()+-*/<>=dfs".charAt(random.nextInt(28)));
        }
        return t.toString();
    }

    /** Tells the text, then lets a call read it. */
    private String speak(String t, String call) {
        same("end", 0);
        for (int i = 0; i < t.length(); i += 4) {
            int v = 0;
            for (int j = 0; j < 4; j++) {
                v = v << 8 | (i + j < t.length() ? t.charAt(i + j) : 0);
            }
            String difference = same("sign", v);
            if (difference != null) {
                return difference;
            }
        }
        String difference = same("end", t.length());
        if (difference != null) {
            return difference;
        }
        story.append(" [").append(t).append(']');
        int before = plain.count(1);
        difference = call.equals("law") ? same(call, random.nextInt()) : same(call);
        seen("rule of 40 signs", call.equals("rule") && t.length() == 40 && plain.count(1) == before);
        return difference;
    }

    private String same(String call, Object... arguments) {
        String told = call + Arrays.toString(arguments);
        story.append(' ').append(told);
        String due = answer(PLAIN.get(call), plain, arguments);
        String got = answer(FOLIO.get(call), folio, arguments);
        look(call, due);
        if (!got.equals(due)) {
            return told + " answered " + got + ", due is " + due;
        }
        if (!sameRow()) {
            return "the row behind " + told;
        }
        return random.nextInt(8) == 0 ? sameState() : null;
    }

    private static String answer(Method method, Object on, Object... arguments) {
        try {
            return String.valueOf(method.invoke(on, arguments));
        } catch (InvocationTargetException e) {
            if (e.getCause() instanceof NoSuchElementException) {
                return "throws.NoSuchElementException";
            }
            throw new IllegalStateException(method.getName() + Arrays.toString(arguments), e.getCause());
        } catch (IllegalAccessException e) {
            throw new IllegalStateException(e);
        }
    }

    private void look(String call, String due) {
        seen("switch", plain.count(4) > 0);
        seen("partial", plain.count(5) > 0);
        seen("full merge", plain.count(6) > 0);
        seen("levelled", call.equals("costs") && !due.equals("-1") && plain.row(2) == 1);
        seen("way " + (call.equals("costs") && !due.equals("-1") ? plain.row(1) : 0), true);
        seen("both hot logs", call.equals("logs") && due.equals("2") && plain.block((int) plain.row(0), 0) == 4);
        seen("three cold logs", call.equals("logs") && due.equals("3"));
        seen("over 12 copies", call.equals("copies") && Integer.parseInt(due) > 12);
        seen("cut short", call.equals("cuts") && plain.count(11) == 2 && plain.row(0) > 6);
        seen("day refused", call.equals("day") && Integer.parseInt(due) > 0 && plain.row(0) == 1);
        seen("8 to undo", plain.count(10) == 8);
        seen("law above 0", call.equals("law") && Integer.parseInt(due) > 0);
        seen("law below 0", call.equals("law") && Integer.parseInt(due) < 0 && Integer.parseInt(due) > -10000);
        seen("none fits", call.equals("asks") && due.equals("-2"));
        seen("12 heard", plain.count(9) == 12);
        seen("lasts in vain", call.equals("lasts") && due.equals("-2"));
    }

    private boolean sameRow() {
        int n = plain.count(11);
        if (folio.count(11) != n) {
            return false;
        }
        for (int i = 0; i < n; i++) {
            if (folio.row(i) != plain.row(i)) {
                return false;
            }
        }
        return true;
    }

    private String sameState() {
        for (int b = 0; b < 16; b++) {
            for (int what = 0; what < 5; what++) {
                if (folio.block(b, what) != plain.block(b, what)) {
                    return "block " + b + ", " + what;
                }
            }
            for (int l = 0; l < 4; l++) {
                for (int what = 0; what < 3 && (plain.block(b, 2) >> l & 1) != 0; what++) {
                    if (folio.leaf(b, l, what) != plain.leaf(b, l, what)) {
                        return "leaf " + b + ", " + l + ", " + what;
                    }
                }
            }
        }
        for (int p = 0; p < 24; p++) {
            if (folio.heat(p) != plain.heat(p)) {
                return "heat " + p;
            }
        }
        for (int what = 0; what < 13; what++) {
            if (folio.count(what) != plain.count(what)) {
                return "count " + what;
            }
        }
        return null;
    }
}
