import java.util.Arrays;
import java.util.NoSuchElementException;
import java.util.function.IntSupplier;
import java.util.function.LongSupplier;

/** What the tests share: they compare answers with what is due, and tell texts to a folio. */
abstract class Checks {
    /** The promise, or the sentence of the document, that is looked at. */
    private static String about = "";
    private static int wrong = 0;

    static void about(String what) {
        about = what;
    }

    static void promise(int number) {
        about("promise " + number);
    }

    static void wrong(String what) {
        wrong++;
        System.out.println(about + ": " + what);
    }

    /** Ends the test: with exit code 1 if an answer was not as due. */
    static void close(String fine) {
        System.out.println(wrong == 0 ? fine : wrong + " answers are not as due");
        if (wrong != 0) {
            System.exit(1);
        }
    }

    static void due(String what, long got, long want) {
        if (got != want) {
            wrong(what + " answered " + got + ", due is " + want);
        }
    }

    static void holds(String what, boolean so) {
        due(what, so ? 1 : 0, 1);
    }

    static long[] rowOf(FlashFolio x) {
        long[] row = new long[x.count(11)];
        for (int i = 0; i < row.length; i++) {
            row[i] = x.row(i);
        }
        return row;
    }

    /** An answer, and the whole row behind it. */
    static void dueRow(String what, FlashFolio x, IntSupplier call, int want, long... row) {
        due(what, call.getAsInt(), want);
        if (!Arrays.equals(rowOf(x), row)) {
            wrong("row of " + what + " is " + Arrays.toString(rowOf(x)) + ", due is " + Arrays.toString(row));
        }
    }

    static void refusesBy(String what, LongSupplier call) {
        boolean thrown = false;
        try {
            call.getAsLong();
        } catch (NoSuchElementException e) {
            thrown = true;
        }
        holds(what + " throws", thrown);
    }

    /** A call that is refused, or tells that there is none: nothing changes by it, and the row stays. */
    static void refuses(String what, FlashFolio x, IntSupplier call, int want) {
        x.next();
        String before = allOf(x);
        due(what, call.getAsInt(), want);
        holds("all stays behind " + what, before.equals(allOf(x)));
    }

    static void tell(FlashFolio x, String text) {
        x.end(0);
        for (int i = 0; i < text.length(); i += 4) {
            int v = 0;
            for (int j = 0; j < 4; j++) {
                v = v << 8 | (i + j < text.length() ? text.charAt(i + j) : 0);
            }
            x.sign(v);
        }
        holds("text of " + text.length(), x.end(text.length()));
    }

    static int ruleOf(FlashFolio x, String text) {
        tell(x, text);
        return x.rule();
    }

    static int dayOf(FlashFolio x, String text) {
        tell(x, text);
        return x.day();
    }

    static int lawOf(FlashFolio x, String text, int seed) {
        tell(x, text);
        return x.law(seed);
    }

    /** A new folio behind days of which no act is refused. */
    static FlashFolio behind(String... days) {
        FlashFolio x = new FlashFolio();
        for (String day : days) {
            holds("day " + day, dayOf(x, day) > 0);
            due("refused in " + day, x.row(0), 0);
        }
        return x;
    }

    /** A folder that is full, and a run along it: the seal that comes with page 0 wipes one block. */
    static FlashFolio aboutToSeal() {
        FlashFolio x = behind("w0010w0111w0212w0313w0020");
        due("no block is worn", x.sheet(2, 16, 0, 0), 0);
        return x;
    }

    /** Whether a rule is above 0 behind the write of page 0 in aboutToSeal(): d 1, f 14, w 6, c 3, l 0, s 1. */
    static int levelsBy(String rule) {
        FlashFolio x = aboutToSeal();
        due("rule " + rule, ruleOf(x, rule), 0);
        x.costs(0);
        return (int) x.row(2);
    }

    /** All that the document lets be seen of what undo() brings back, as a text; it asks more than 100 calls. */
    static String seenOf(FlashFolio x) {
        StringBuilder all = new StringBuilder();
        for (int b = 0; b < 16; b++) {
            for (int what = 0; what < 5; what++) {
                all.append(x.block(b, what)).append(' ');
            }
            for (int l = 0; l < 4; l++) {
                for (int what = 0; what < 3 && (x.block(b, 2) >> l & 1) != 0; what++) {
                    all.append(x.leaf(b, l, what)).append(' ');
                }
            }
        }
        for (int p = 0; p < 24; p++) {
            all.append(x.heat(p)).append(' ');
        }
        for (int what = 0; what <= 8; what++) {
            all.append(x.count(what)).append(' ');
        }
        return all.toString();
    }

    /** That, and what undo() does not bring back, but for the text and the rule. */
    static String allOf(FlashFolio x) {
        return seenOf(x) + Arrays.toString(rowOf(x)) + x.count(9) + ' ' + x.count(10);
    }
}
