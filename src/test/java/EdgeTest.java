import java.io.IOException;
import java.util.function.IntSupplier;

/** The sentences of the promises that name an edge, each with a test of its own. */
public final class EdgeTest extends Edges {
    private static final int LEAST = Integer.MIN_VALUE;
    private static final int GREATEST = Integer.MAX_VALUE;

    public static void main(String[] args) throws IOException {
        open();
        newAndText();
        rule();
        blockAndLeaf();
        sheet();
        sheetKeepsNothing();
        writes();
        readsAndMerges();
        sealsAndClears();
        levelsAndCools();
        sets();
        daysThatStand();
        daysThatCannot();
        undoKeeps();
        undoBringsBack();
        copiesAndStale();
        hotAndHeat();
        nextAndLogs();
        holdsAndSpread();
        costsAndWorst();
        burst();
        lasts();
        cuts();
        swellsAndHeard();
        fitsAndAsks();
        law();
        years();
        sum();
        keeps();
        countsAndRows();
        allHeld("Promise");
        close("the edges of the promises hold");
    }

    private static void newAndText() {
        edge("Promise 1", "All BLOCKS are FREE.", () -> {
            FlashFolio x = new FlashFolio();
            due("free", x.count(0), 65535);
            for (int b = 0; b < 16; b++) {
                due("kind", x.block(b, 0), 0);
            }
            for (int what = 1; what <= 12; what++) {
                due("count(" + what + ")", x.count(what), 0);
            }
            refusesBy("a row", () -> x.row(0));
        });
        edge("Promise 2", "Four signs come behind THE TEXT, of v the highest byte first: how many it has.", () -> {
            FlashFolio x = new FlashFolio();
            due("the first four", x.sign('h' << 24 | 'q' << 16 | 'l' << 8 | 'm'), 4);
            due("the next", x.sign(0x8068ff00), 8);
            x.end(1);
            due("the highest byte is ahead", x.day(), 1);
            x.sign(0x68680068);
            due("a byte 0 is a sign", x.day(), -3);
            x.sign(0x6868ff68);
            due("so is a byte 255", x.day(), -3);
            x.sign(-1);
            due("255 at first", x.day(), -1);
            x.sign(0x8064643e);
            due("128 at first", x.rule(), -1);
            x.sign(0x68686868);
            x.sign(0x68686878);
            due("the last byte comes last", x.day(), -8);
        });
        edge("Promise 2", "Refused: there would be more than 80.", () -> {
            FlashFolio x = new FlashFolio();
            for (int n = 4; n <= 80; n += 4) {
                due("as many as 80", x.sign(0x68686868), n);
            }
            refuses("84", x, () -> x.sign(0), -1);
            due("as before", x.count(12), 80);
            x.end(77);
            refuses("81", x, () -> x.sign(0), -1);
            due("as before", x.count(12), 77);
            due("77 times h", x.day(), 77);
            for (int n = 4; n <= 76; n += 4) {
                x.sign(0x68686868);
            }
            due("76 and 4", x.sign(0x68686868), 80);
            due("80 times h", x.day(), 80);
        });
        edge("Promise 3", "THE TEXT has its first n signs alone: true; false if it has not so many, or n is below 0.",
                () -> {
            FlashFolio x = new FlashFolio();
            holds("0 of none", x.end(0));
            holds("1 of none", !x.end(1));
            x.sign(0x68686878);
            holds("4 of 4", x.end(4));
            due("4", x.count(12), 4);
            refuses("5 of 4", x, () -> x.end(5) ? 1 : 0, 0);
            refuses("-1", x, () -> x.end(-1) ? 1 : 0, 0);
            refuses("the least", x, () -> x.end(LEAST) ? 1 : 0, 0);
            refuses("the greatest", x, () -> x.end(GREATEST) ? 1 : 0, 0);
            due("as before", x.count(12), 4);
            holds("3 of 4", x.end(3));
            due("3", x.count(12), 3);
            holds("4 of 3", !x.end(4));
            due("the first 3", x.day(), 3);
            x.sign(0x68686868);
            holds("0 of 4", x.end(0));
            due("none", x.count(12), 0);
        });
    }

    private static void rule() {
        edge("Promise 4", "THE TEXT is THE RULE (an empty one: none): 0.", () -> {
            FlashFolio x = aboutToSeal();
            due("1", ruleOf(x, "1"), 0);
            due("the text is empty", x.count(12), 0);
            x.costs(0);
            due("it levels", x.row(2), 1);
            due("an empty one", x.rule(), 0);
            x.costs(0);
            due("d>4: d is 1", x.row(2), 0);
            x.sheet(2, 1, 3, 0);
            x.costs(0);
            due("d is 4", x.row(2), 0);
            x.sheet(2, 1, 4, 0);
            x.costs(0);
            due("d is 5", x.row(2), 1);
        });
        edge("Promise 4", "-1 - p: the sign at p can't stand there (its end, if it ends too early; 40, if it has more and the"
                + " first 40 could go on or end).", () -> {
            FlashFolio x = aboutToSeal();
            ruleOf(x, "1");
            Object[][] wrong = {{"z", 0}, {"*", 0}, {")", 0}, {"=1", 0}, {"dd", 1}, {"d1", 1}, {"1d", 1}, {"1(", 1},
                {"(1)(", 3}, {"(1)1", 3}, {"1,", 1}, {"1 ", 1}, {"D", 0}, {"1:", 1}, {"1/", 2}, {"/1", 0}, {"1;", 1},
                {"-", 1}, {"1-", 2}, {"(", 1}, {"(1", 2}, {"((1)", 4}, {"1+(2*", 5}, {"1<", 2}};
            for (Object[] text : wrong) {
                wrongRule(x, (String) text[0], (int) text[1]);
            }
            String ones = "1+".repeat(19);
            wrongRule(x, ones + "(11", 40);
            wrongRule(x, ones + "1+1", 40);
            wrongRule(x, ones + "(1)", 40);
            wrongRule(x, ones + "(z)", 39);
            wrongRule(x, ones + "*11", 38);
            wrongRule(x, ones + "11z", 40);
            wrongRule(x, ones + "11", -1);
            wrongRule(x, ones + "1+", 40);
            wrongRule(x, "-".repeat(40), 40);
            wrongRule(x, "-".repeat(80), 40);
            wrongRule(x, "-".repeat(39) + "1", -1);
            wrongRule(x, "1+".repeat(18) + "1000", 39);
        });
        edge("Promise 4", "-1 - p: the sign at p can't stand there", () -> {
            FlashFolio x = aboutToSeal();
            ruleOf(x, "1");
            due("a wrong one", ruleOf(x, "((1-2"), -6);
            x.costs(0);
            due("the rule stays", x.row(2), 1);
            due("0 behind a wrong one", ruleOf(x, "0"), 0);
            x.costs(0);
            due("is 0", x.row(2), 0);
            due("a wrong one", ruleOf(x, "1+2<3*(4-"), -10);
            due("1 behind a wrong one", ruleOf(x, "3<4"), 0);
            x.costs(0);
            due("is 1", x.row(2), 1);
            due("a wrong one", ruleOf(x, "1*(-"), -5);
            due("1 behind a wrong one", ruleOf(x, "1"), 0);
            x.costs(0);
            due("is 1", x.row(2), 1);
            for (int i = 0; i < 3; i++) {
                due("40 of -", ruleOf(x, "-".repeat(41)), -41);
            }
            due("1 behind wrong ones", ruleOf(x, "-(2-3)"), 0);
            x.costs(0);
            due("is 1", x.row(2), 1);
        });
    }

    /** Where a text is wrong as a rule, and as another rule of law(); -1: nowhere. */
    private static void wrongRule(FlashFolio x, String text, int at) {
        due("rule " + text, ruleOf(x, text), at < 0 ? 0 : -1 - at);
        due("the text is empty", x.count(12), 0);
        if (at >= 0) {
            due("law " + text, lawOf(x, text, 1), -10000 - at);
        }
    }

    private static void blockAndLeaf() {
        edge("Promise 5", "Of a BLOCK, what 0: 0 FREE, 1 HOME, 2 the RUN, 3 COLD, 4 HOT, 1: its FOLDER (HOME, RUN), its number"
                + " in its row (LOGS), 0 (FREE), 2: LEAVES that are written (bits), 3: those of them that are the LATEST"
                + " (bits), 4: WIPES.", () -> {
            FlashFolio x = behind("w2310w2311w2312w2012w2013");
            x.sheet(2, 16, 990, 1);
            // home 0 (page 23, 20), cold log 1 (23), hot log 2 (23), run 3 (20)
            int[][] due = {{1, 5, 9, 0, 990}, {3, 0, 1, 0, 991}, {4, 0, 1, 1, 992}, {2, 5, 1, 1, 993}, {0, 0, 0, 0, 994}};
            for (int b = 0; b < due.length; b++) {
                for (int what = 0; what < 5; what++) {
                    due("block(" + b + ", " + what + ")", x.block(b, what), due[b][what]);
                }
            }
            due("999 at most", x.block(15, 4), 999);
            FlashFolio y = behind("w0010w0111w0212w0313");
            due("four leaves", y.block(0, 2), 15);
            due("four latest", y.block(0, 3), 15);
            y.sets(1, 0);
            y.sets(0, 3);
            for (int i = 0; i < 12; i++) {
                y.writes(1, i);
            }
            for (int number = 0; number < 3; number++) {
                due("number of log " + number, y.block(1 + number, 1), number);
                due("latest of log " + number, y.block(1 + number, 3), number == 2 ? 8 : 0);
            }
        });
        edge("Promise 5", "NoSuchElementException: none such, another what.", () -> {
            FlashFolio x = new FlashFolio();
            for (int b : new int[] {-1, 16, LEAST, GREATEST}) {
                refusesBy("block " + b, () -> x.block(b, 0));
            }
            for (int what : new int[] {-1, 5, LEAST, GREATEST}) {
                refusesBy("what " + what, () -> x.block(0, what));
            }
            due("the last of both", x.block(15, 4), 0);
        });
        edge("Promise 6", "NoSuchElementException: none such, empty, another what.", () -> {
            FlashFolio x = behind("w0010w0111w0212w0313w0414");
            for (int b : new int[] {-1, 16, LEAST, GREATEST}) {
                refusesBy("block " + b, () -> x.leaf(b, 0, 0));
            }
            for (int leaf : new int[] {-1, 4, LEAST, GREATEST}) {
                refusesBy("leaf " + leaf, () -> x.leaf(0, leaf, 0));
            }
            refusesBy("leaf -1 of block 1, behind leaf 3 of block 0", () -> x.leaf(1, -1, 0));
            refusesBy("an empty one of a home", () -> x.leaf(1, 1, 0));
            refusesBy("an empty one of a free block", () -> x.leaf(15, 3, 0));
            for (int what : new int[] {-1, 3, LEAST, GREATEST}) {
                refusesBy("what " + what, () -> x.leaf(0, 0, what));
            }
            due("the last of all", x.leaf(0, 3, 2), 4);
            x.merges(0);
            refusesBy("one that was wiped", () -> x.leaf(0, 0, 0));
        });
    }

    private static void sheet() {
        edge("Promise 7", "of n entries f, f + step, .. (of bytes, shorts the lowest bits, with their sign; put to 0 .. 999)",
                () -> {
            FlashFolio x = new FlashFolio();
            due("bytes 126, 127, -128", x.sheet(0, 3, 126, 1), 253);
            wipesAre(x, 126, 127, 0, 0);
            due("bytes -1, 0, 1", x.sheet(0, 3, 255, 1), 1);
            wipesAre(x, 0, 0, 1, 0);
            due("bytes -128, 0, -128", x.sheet(0, 3, 128, 128), 0);
            due("bytes 44 and 44", x.sheet(0, 2, 300, 256), 88);
            due("shorts 998, 999, 1000", x.sheet(1, 3, 998, 1), 2996);
            wipesAre(x, 998, 999, 999, 0);
            due("shorts 32767, -32768", x.sheet(1, 2, 32767, 1), 999);
            wipesAre(x, 999, 0, 0, 0);
            due("shorts -1, 0, 1", x.sheet(1, 3, 65535, 1), 1);
            due("shorts 7 and 7", x.sheet(1, 2, 65536 + 7, 65536), 14);
            due("ints 998, 999, 1000", x.sheet(2, 3, 998, 1), 2996);
            due("ints -1, 0, 1", x.sheet(2, 3, -1, 1), 1);
            wipesAre(x, 0, 0, 1, 0);
            due("ints go round", x.sheet(2, 3, GREATEST, 1), 999);
            wipesAre(x, 999, 0, 0, 0);
            due("steps go round", x.sheet(2, 4, 5, 1 << 30), 5 + 999 + 5 - 5);
            due("ints above a short", x.sheet(2, 2, 65536, 0), 1998);
            due("a step below 0", x.sheet(2, 4, 2, -1), 3);
        });
        edge("Promise 7", "or a missing one (3): those behind it have 0: the sum of all.", () -> {
            FlashFolio x = new FlashFolio();
            due("16", x.sheet(2, 16, 999, 0), 15984);
            due("15", x.sheet(2, 15, 7, 0), 105);
            due("the last has 0", x.block(15, 4), 0);
            due("the one ahead has not", x.block(14, 4), 7);
            due("1", x.sheet(1, 1, 7, 0), 7);
            wipesAre(x, 7, 0, 0, 0);
            due("n is 0", x.sheet(0, 0, 7, 0), 0);
            wipesAre(x, 0, 0, 0, 0);
        });
        edge("Promise 7", "-2: n below 0 (of kinds 0 .. 2; nothing changes)", () -> {
            FlashFolio x = new FlashFolio();
            x.sheet(2, 16, 3, 1);
            for (int kind = 0; kind <= 2; kind++) {
                int of = kind;
                refuses("kind " + of, x, () -> x.sheet(of, -1, 5, 5), -2);
                refuses("kind " + of, x, () -> x.sheet(of, LEAST, 5, 5), -2);
            }
        });
        edge("Promise 7", "-3: missing (all 0).", () -> {
            FlashFolio x = new FlashFolio();
            for (int n : new int[] {-1, 0, 16, LEAST}) {
                x.sheet(2, 16, 3, 1);
                due("n " + n, x.sheet(3, n, 5, 5), -3);
                for (int b = 0; b < 16; b++) {
                    due("block " + b, x.block(b, 4), 0);
                }
            }
        });
        edge("Promise 7", "NONE: another kind, n above 16 (these first).", () -> {
            FlashFolio x = new FlashFolio();
            x.sheet(2, 16, 3, 1);
            for (int kind : new int[] {-1, 4, LEAST, GREATEST}) {
                refuses("kind " + kind, x, () -> x.sheet(kind, 1, 5, 5), -1);
                refuses("kind " + kind + ", n below 0", x, () -> x.sheet(kind, -1, 5, 5), -1);
            }
            for (int kind = 0; kind <= 3; kind++) {
                int of = kind;
                refuses("17 of kind " + of, x, () -> x.sheet(of, 17, 5, 5), -1);
                refuses("very many of kind " + of, x, () -> x.sheet(of, GREATEST, 5, 5), -1);
            }
        });
    }

    /** Wipes of the first four blocks. */
    private static void wipesAre(FlashFolio x, int... due) {
        for (int b = 0; b < due.length; b++) {
            due("wipes of " + b, x.block(b, 4), due[b]);
        }
    }

    private static void sheetKeepsNothing() {
        edge("Promise 7", "Nothing is kept of it that could be undone (an undo() behind it brings WIPES back, too, as they"
                + " were ahead of what is undone).", () -> {
            FlashFolio x = new FlashFolio();
            x.sheet(2, 4, 4, 1);
            due("nothing to undo", x.count(10), 0);
            refuses("undo", x, () -> x.undo(), -1);
            x.cools();
            x.sheet(2, 16, 50, 0);
            due("one to undo", x.count(10), 1);
            due("undone", x.undo(), 0);
            wipesAre(x, 4, 5, 6, 7);
            x.cools();
            x.sheet(3, 0, 0, 0);
            due("undone behind a missing one", x.undo(), 0);
            wipesAre(x, 4, 5, 6, 7);
            x.next();
            due("row stays", x.sheet(2, 0, 0, 0) == 0 ? x.row(0) : -1, 0);
            due("it tells no row", x.count(11), 2);
        });
    }

    private static void writes() {
        edge("Promise 8", "A WRITE of a PAGE (0 .. 23), a VALUE (0 .. 99): the BLOCK to which it went (at (2) .. (5)); the ROW:"
                + " the LEAF, COPIES, WIPED more by it. NONE: others.", () -> {
            FlashFolio x = new FlashFolio();
            for (int page : new int[] {-1, 24, LEAST, GREATEST}) {
                refuses("page " + page, x, () -> x.writes(page, 0), -1);
            }
            for (int value : new int[] {-1, 100, LEAST, GREATEST}) {
                refuses("value " + value, x, () -> x.writes(0, value), -1);
            }
            refuses("both", x, () -> x.writes(24, 100), -1);
            dueRow("the least of both", x, () -> x.writes(0, 0), 0, 0, 0, 0);
            dueRow("the greatest of both", x, () -> x.writes(23, 99), 1, 3, 0, 0);
            due("value", x.reads(0), 0);
            due("value", x.reads(23), 99);
        });
        edge("Promise 8", "the BLOCK to which it went (at (2) .. (5))", () -> {
            FlashFolio x = behind("w0010w0111w0212w0313w0020w0121w0222");
            ruleOf(x, "1");
            // a switch: run 1 is home, 0 is wiped (1 wipe), and 1 (of none) is levelled to it
            dueRow("not where it is then", x, () -> x.writes(3, 23), 1, 3, 4, 2);
            dueRow("where it is then", x, () -> x.reads(3), 23, 0, 3, 8);
        });
        edge("Promise 8", "the ROW: the LEAF, COPIES, WIPED more by it.", () -> {
            FlashFolio x = behind("w0010w0111w0212w0313w0020");
            dueRow("a partial", x, () -> x.writes(0, 30), 2, 0, 3, 1);
            dueRow("another, by it alone", x, () -> x.writes(0, 31), 3, 0, 3, 1);
            dueRow("nothing more", x, () -> x.writes(4, 31), 4, 0, 0, 0);
        });
    }

    private static void readsAndMerges() {
        edge("Promise 9", "-2: it was never written; NONE: another PAGE.", () -> {
            FlashFolio x = behind("w0010w2311");
            dueRow("page 0, the first leaf of all", x, () -> x.reads(0), 10, 0, 0, 1);
            dueRow("page 23", x, () -> x.reads(23), 11, 1, 3, 2);
            refuses("page 1", x, () -> x.reads(1), -2);
            refuses("page 22", x, () -> x.reads(22), -2);
            for (int page : new int[] {-1, 24, LEAST, GREATEST}) {
                refuses("page " + page, x, () -> x.reads(page), -1);
            }
            x.undo();
            refuses("a write that was undone", x, () -> x.reads(0), -2);
        });
        edge("Promise 10", "-2: no LEAF of it is written; NONE: another FOLDER.", () -> {
            FlashFolio x = behind("w0010w2311");
            dueRow("folder 0", x, () -> x.merges(0), 2, 1, 1);
            dueRow("folder 5", x, () -> x.merges(5), 3, 1, 1);
            for (int folder = 1; folder <= 4; folder++) {
                int of = folder;
                refuses("folder " + of, x, () -> x.merges(of), -2);
            }
            for (int folder : new int[] {-1, 6, LEAST, GREATEST}) {
                refuses("folder " + folder, x, () -> x.merges(folder), -1);
            }
        });
    }

    private static void sealsAndClears() {
        edge("Promise 11", "-2: there is none.", () -> {
            FlashFolio x = new FlashFolio();
            refuses("a new one", x, () -> x.seals(), -2);
            x.writes(0, 0);
            refuses("a home alone", x, () -> x.seals(), -2);
            x.writes(0, 1);
            dueRow("a run", x, () -> x.seals(), 1, 0, 1);
            refuses("sealed", x, () -> x.seals(), -2);
            x.writes(0, 2);
            x.merges(0);
            refuses("merged", x, () -> x.seals(), -2);
            FlashFolio y = behind("w0010w0111w0212w0313w0020w0121w0222w0323");
            refuses("sealed by leaf 3", y, () -> y.seals(), -2);
        });
        edge("Promise 11", "0 by a SWITCH, 1 by a PARTIAL, 2 by a FULL MERGE", () -> {
            FlashFolio x = behind("w0010w0111w0212w0313w0020w0121w0222");
            dueRow("three leaves", x, () -> x.seals(), 1, 1, 1);
            FlashFolio y = behind("w0010w0111w0212w0313w0020w0121w0122");
            dueRow("leaf 1 is stale", y, () -> y.seals(), 2, 4, 2);
            due("home", y.block(3, 0), 1);
        });
        edge("Promise 12", "-2: there is none; NONE: another row.", () -> {
            FlashFolio x = new FlashFolio();
            refuses("no cold one", x, () -> x.clears(0), -2);
            refuses("no hot one", x, () -> x.clears(1), -2);
            for (int row : new int[] {-1, 2, LEAST, GREATEST}) {
                refuses("row " + row, x, () -> x.clears(row), -1);
            }
            dayOf(x, "w0110w0111w0112");
            due("a cold one, of no latest leaf", x.clears(0), 0);
            refuses("no cold one", x, () -> x.clears(0), -2);
            dueRow("a hot one", x, () -> x.clears(1), 1, 1, 2);
            refuses("no hot one", x, () -> x.clears(1), -2);
        });
        edge("Promise 12", "The first LOG of a row (0: COLD, 1: HOT) IS CLEARED", () -> {
            FlashFolio x = behind("w0510");
            x.sets(1, 0);
            x.sheet(2, 16, 0, 1);
            x.sheet(2, 3, 5, -2);
            // home 0; logs: the fewest wipes have 3, 4, .. (0), so that the rows go on at 3, 4
            dayOf(x, "w0511w0511w0511w0511w0511");
            dueRow("two logs", x, () -> x.logs(0), 2, 3, 4);
            dueRow("the first, of no latest leaf", x, () -> x.clears(0), 0, 0, 1);
            dueRow("the second", x, () -> x.logs(0), 1, 4);
            due("is the first now", x.block(4, 1), 0);
            FlashFolio y = new FlashFolio();
            y.sheet(2, 2, 9, -9);
            y.sets(1, 0);
            y.sheet(2, 16, 16, -1);
            ruleOf(y, "0");
            // blocks are taken from 15 down; of 16 wipes has block 0 the most, so that it comes last
            y.writes(5, 0);
            for (int i = 0; i < 4; i++) {
                y.writes(5, i);
            }
            y.sheet(2, 16, 0, 1);
            y.writes(5, 9);
            dueRow("the second is block 0", y, () -> y.logs(0), 2, 14, 0);
            due("the first goes", y.clears(0), 0);
            due("block 0 is the first now", y.block(0, 1), 0);
            dueRow("its row", y, () -> y.logs(0), 1, 0);
            dueRow("its next leaf", y, () -> y.writes(5, 9), 0, 1, 0, 0);
        });
    }

    private static void levelsAndCools() {
        edge("Promise 13", "-2: nothing is done.", () -> {
            FlashFolio x = new FlashFolio();
            x.sheet(2, 16, 0, 1);
            refuses("no home", x, () -> x.levels(), -2);
            x.writes(0, 0);
            x.sheet(2, 16, 1, 0);
            refuses("as many wipes", x, () -> x.levels(), -2);
            x.sheet(2, 1, 2, 0);
            refuses("more wipes", x, () -> x.levels(), -2);
            due("to undo", x.count(10), 1);
            x.sheet(2, 16, 1, 0);
            x.merges(0);
            dueRow("fewer", x, () -> x.levels(), 0, 1);
        });
        edge("Promise 14", "HEAT of all PAGES is halved (cut): how many are HOT then.", () -> {
            FlashFolio x = new FlashFolio();
            due("a new one", x.cools(), 0);
            dayOf(x, "w0010w0010w0010w0010w0010w0010w0010");
            dayOf(x, "w2310w2310w2310w2310w2310w2310");
            dayOf(x, "w1110w1110w1110w1110w1110");
            due("7 to 3, 6 to 3, 5 to 2", x.cools(), 2);
            due("the first page", x.heat(0), 3);
            due("the last page", x.heat(23), 3);
            due("2", x.heat(11), 2);
            due("0 stays", x.heat(1), 0);
            due("to 1", x.cools(), 0);
            due("to 0", x.cools(), 0);
            due("1 is 0", x.heat(0), 0);
            due("0 is 0", x.cools(), 0);
            FlashFolio y = behind("w0110w0110w0110w0110w0110w0110");
            y.clears(1);
            y.sets(1, 0);
            due("hots are 0", y.cools(), 0);
        });
    }

    private static void sets() {
        edge("Promise 15", "What 0: COLDS, 1: HOTS, 2: WARM becomes v: 10 and what it was.", () -> {
            FlashFolio x = new FlashFolio();
            int[][] steps = {{0, 1, 12}, {0, 3, 11}, {0, 2, 13}, {1, 0, 11}, {1, 2, 10}, {1, 1, 12}, {2, 1, 13}, {2, 9, 11},
                {2, 3, 19}};
            for (int[] s : steps) {
                due("sets(" + s[0] + ", " + s[1] + ")", x.sets(s[0], s[1]), s[2]);
            }
        });
        edge("Promise 15", "-2: it is so; -3: there are more LOGS of that row; NONE: others.", () -> {
            FlashFolio x = new FlashFolio();
            refuses("colds are 2", x, () -> x.sets(0, 2), -2);
            refuses("hots are 1", x, () -> x.sets(1, 1), -2);
            refuses("warm is 3", x, () -> x.sets(2, 3), -2);
            int[][] others = {{-1, 1}, {3, 1}, {LEAST, 1}, {GREATEST, 1}, {0, 0}, {0, 4}, {0, LEAST}, {0, GREATEST}, {1, -1},
                {1, 3}, {1, LEAST}, {1, GREATEST}, {2, 0}, {2, 10}, {2, LEAST}, {2, GREATEST}};
            for (int[] o : others) {
                refuses("sets(" + o[0] + ", " + o[1] + ")", x, () -> x.sets(o[0], o[1]), -1);
            }
            due("nothing to undo", x.count(10), 0);
            x.sets(1, 0);
            x.sets(0, 3);
            for (int i = 0; i < 6; i++) {
                x.writes(5, i);
            }
            due("two logs", x.logs(0), 2);
            refuses("more than 1", x, () -> x.sets(0, 1), -3);
            due("2 are not more than 2", x.sets(0, 2), 13);
            refuses("it is so", x, () -> x.sets(0, 2), -2);
            refuses("there are more", x, () -> x.sets(0, 1), -3);
            x.clears(0);
            due("1 is not more than 1", x.sets(0, 1), 12);
            FlashFolio y = behind("w0510w0510w0510");
            refuses("a hot one", y, () -> y.sets(1, 0), -3);
            due("the other row has one, too", y.logs(0), 1);
            y.clears(1);
            due("none is not more than 0", y.sets(1, 0), 11);
        });
    }

    private static void daysThatStand() {
        edge("Promise 16", "THE TEXT tells A DAY (an empty one: nothing), acts one behind another: w, two digits and two digits"
                + " (writes()), m and a digit (merges()), q (seals()), c and a digit 0 or 1 (clears()), l (levels()), h"
                + " (cools())", () -> {
            FlashFolio x = behind("w0010");
            dueRow("an empty one", x, () -> x.day(), 0, 0, 0, 0);
            due("nothing to undo more", x.count(10), 1);
            dayOf(x, "w0000w2399w0010");
            due("the least value was written ahead of 10", x.reads(0), 10);
            due("the greatest of both", x.reads(23), 99);
            due("the run is sealed", dayOf(x, "q"), 1);
            due("no run", x.seals(), -2);
            due("merged", dayOf(x, "m5m0"), 2);
            due("fulls", x.count(6), 2);
            due("levelled", dayOf(x, "l"), 1);
            due("logs", dayOf(x, "w0510w0511w0512"), 3);
            due("cold", dayOf(x, "c0"), 1);
            due("no cold one", x.logs(0), 0);
            due("hot", dayOf(x, "c1"), 1);
            due("no hot one", x.logs(1), 0);
            due("halved", dayOf(x, "h"), 1);
            due("3 is 1", x.heat(5), 1);
            due("80 signs", dayOf(x, "h".repeat(80)), 80);
            due("80 signs", dayOf(x, "w2000".repeat(16)), 16);
        });
        edge("Promise 16", "they are done one by one, till one is refused (it answers below 0): how many were done; the ROW: 1"
                + " if one was refused, else 0; COPIES, WIPED more by all.", () -> {
            String[] refused = {"w2400", "w9999", "m1", "m6", "m9", "q", "c0", "c1", "l"};
            for (String act : refused) {
                FlashFolio x = behind("w0010");
                tell(x, act + "h");
                dueRow(act + " at once", x, () -> x.day(), 0, 1, 0, 0);
                due("not kept", x.count(10), 1);
                // a home that is wiped by m0 is worn enough to level to it: the second l has nothing to do
                tell(x, "m0l" + act + "hm0w0011");
                dueRow("m0l, not " + act, x, () -> x.day(), 2, 1, 2, 2);
                due("nothing behind it", x.reads(0), 10);
                due("kept", x.count(10), 2);
            }
            FlashFolio y = behind("w0010w0111w0212w0313");
            tell(y, "m0w0020q");
            // 4 copies to block 1, then a run sealed by 3 copies
            dueRow("by all", y, () -> y.day(), 3, 0, 7, 2);
            tell(y, "h");
            dueRow("by these alone", y, () -> y.day(), 1, 0, 0, 0);
        });
    }

    private static void daysThatCannot() {
        edge("Promise 16", "-1 - p: the sign at p can't stand there (its end, if it ends too early); nothing is done then.",
                () -> {
            Object[][] wrong = {{"x", 0}, {"hx", 1}, {"W0010", 0}, {"1", 0}, {"h1", 1}, {"w", 1}, {"w0", 2}, {"w00", 3},
                {"w001", 4}, {"w/010", 1}, {"w:010", 1}, {"w0/10", 2}, {"w0:10", 2}, {"w00/0", 3}, {"w00:0", 3},
                {"w001/", 4}, {"w001:", 4}, {"w00100", 5}, {"m", 1}, {"m/", 1}, {"m:", 1}, {"mm", 1}, {"m00", 2}, {"c", 1},
                {"c2", 1}, {"c/", 1}, {"c9", 1}, {"cc", 1}, {"hhc", 3}, {"h".repeat(79) + "m", 80},
                {"h".repeat(79) + "z", 79}, {"hw00", 4}, {"w0010m0hqc", 10}};
            FlashFolio x = behind("w0010w0011");
            for (Object[] text : wrong) {
                tell(x, (String) text[0]);
                refuses("day " + text[0], x, () -> x.day(), -1 - (int) text[1]);
                due("the text is empty", x.count(12), 0);
            }
        });
    }

    private static void undoKeeps() {
        edge("Promise 17", "The latest writes(), merges() .. sets() or day() (of 8 that are kept, the latest ones; such as were"
                + " done; day() of which one act was done, as one) is undone", () -> {
            FlashFolio x = new FlashFolio();
            String[] ahead = new String[20];
            for (int i = 0; i < 20; i++) {
                ahead[i] = seenOf(x);
                due("kept", x.count(10), Math.min(i, 8));
                x.writes(i % 6, i);
            }
            for (int i = 19; i >= 12; i--) {
                due("left", x.undo(), i - 12);
                holds("as ahead of write " + i, ahead[i].equals(seenOf(x)));
            }
            refuses("9th", x, () -> x.undo(), -1);
            holds("as ahead of write 12", ahead[12].equals(seenOf(x)));
        });
        edge("Promise 17", "such as were done; day() of which one act was done, as one", () -> {
            FlashFolio x = behind("w0110w0111w0112w0410w0411");
            x.sheet(2, 16, 0, 1);
            IntSupplier[] done = {() -> x.writes(1, 5), () -> x.merges(1), () -> x.seals(), () -> x.clears(0),
                () -> x.clears(1), () -> x.levels(), () -> x.cools(), () -> x.sets(0, 3), () -> dayOf(x, "hhm1l"),
                () -> dayOf(x, "hw2400")};
            String ahead = seenOf(x);
            for (int i = 0; i < done.length; i++) {
                holds("done " + i, done[i].getAsInt() >= 0);
                due("kept as one", x.count(10), 2);
                due("undone", x.undo(), 1);
                holds("all is back behind " + i, ahead.equals(seenOf(x)));
                due("colds, too", x.sets(0, 2), -2);
            }
            FlashFolio y = behind("w0010");
            y.sheet(2, 1, 9, 0);
            tell(y, "w2400h");
            due("no act was done", y.day(), 0);
            due("an empty day", y.day(), 0);
            IntSupplier[] refused = {() -> y.writes(24, 0), () -> y.merges(1), () -> y.seals(), () -> y.clears(0),
                () -> y.clears(1), () -> y.levels(), () -> y.sets(0, 2), () -> y.sets(0, 4), () -> dayOf(y, "hx")};
            for (IntSupplier call : refused) {
                holds("refused", call.getAsInt() < 0);
            }
            due("none of them is kept", y.count(10), 1);
            due("the write is undone", y.undo(), 0);
            due("no leaf", y.count(7), 0);
        });
    }

    private static void undoBringsBack() {
        edge("Promise 17", "(all is as ahead of it but THE RULE, THE TEXT, the ROW, what was heard, what is kept): how many are"
                + " left that can be.", () -> {
            FlashFolio x = aboutToSeal();
            x.sets(2, 9);
            x.cools();
            ruleOf(x, "1");
            x.heard(0, 1);
            x.heard(2, 1);
            holds("kept", x.keep(1));
            tell(x, "h");
            x.spread();
            due("undo cools()", x.undo(), 2);
            due("heat is back", x.heat(0), 2);
            due("undo sets()", x.undo(), 1);
            due("warm is back", x.sets(2, 3), -2);
            due("the row stays", x.count(11), 3);
            due("heard stays", x.count(9), 2);
            due("the text stays", x.count(12), 1);
            x.costs(0);
            due("the rule stays", x.row(2), 1);
            due("undo the day", x.undo(), 0);
            due("no leaf", x.count(7), 0);
            due("no stamp", x.count(8), 0);
            holds("kept stays", x.again(1));
            due("leaves", x.count(7), 5);
            due("warm, too", x.sets(2, 9), -2);
            due("heat, too", x.heat(0), 1);
        });
        edge("Promise 17", "Refused: none. (again() forgets them, if it is not refused.)", () -> {
            FlashFolio x = new FlashFolio();
            refuses("a new one", x, () -> x.undo(), -1);
            x.cools();
            refuses("nothing is kept", x, () -> x.again(0) ? 1 : 0, 0);
            due("not forgotten", x.count(10), 1);
            x.keep(0);
            due("nor by keep()", x.count(10), 1);
            refuses("nothing is kept", x, () -> x.again(1) ? 1 : 0, 0);
            due("not forgotten", x.count(10), 1);
            holds("again", x.again(0));
            due("forgotten", x.count(10), 0);
            refuses("none", x, () -> x.undo(), -1);
        });
    }

    private static void copiesAndStale() {
        edge("Promise 18", "from the greatest STAMP down (of equal ones the least first; the first 12 alone). NONE: another"
                + " PAGE.", () -> {
            FlashFolio x = behind("w0010");
            dueRow("one", x, () -> x.copies(0), 1, 0);
            dueRow("none", x, () -> x.copies(23), 0);
            // page 5: home 1 (stamp 2), logs 2, 3, 4 (stamps 3 .. 13)
            x.sets(1, 0);
            x.sets(0, 3);
            for (int i = 0; i < 12; i++) {
                x.writes(5, i);
            }
            dueRow("12", x, () -> x.copies(5), 12, 18, 17, 16, 15, 14, 13, 12, 11, 10, 9, 8, 5);
            x.writes(5, 12);
            dueRow("13", x, () -> x.copies(5), 13, 19, 18, 17, 16, 15, 14, 13, 12, 11, 10, 9, 8);
            x.merges(1);
            // the home goes to block 5 with the stamp of leaf 19
            dueRow("of equal ones", x, () -> x.copies(5), 13, 19, 21, 18, 17, 16, 15, 14, 13, 12, 11, 10, 9);
            x.sheet(2, 0, 0, 0);
            x.merges(1);
            dueRow("of equal ones", x, () -> x.copies(5), 13, 5, 19, 18, 17, 16, 15, 14, 13, 12, 11, 10, 9);
            for (int page : new int[] {-1, 24, LEAST, GREATEST}) {
                refuses("page " + page, x, () -> x.copies(page), -1);
            }
            FlashFolio y = behind("w0010w0511w0512");
            y.sheet(2, 16, 9, 0);
            y.merges(1);
            y.sheet(2, 2, 0, 0);
            y.merges(0);
            y.sheet(2, 1, 0, 0);
            dayOf(y, "w0513");
            // block 0 was the home of folder 0, and is the hot log
            dueRow("the first leaf of all is the latest", y, () -> y.copies(5), 3, 0, 8, 13);
        });
        edge("Promise 19", "the BLOCK with the most of them (of as many the least), how many (nothing without).",
                () -> {
            FlashFolio x = new FlashFolio();
            x.next();
            dueRow("a new one", x, () -> x.stale(), 0);
            x.writes(1, 0);
            x.next();
            dueRow("one leaf", x, () -> x.stale(), 0);
            x.writes(1, 0);
            dueRow("one", x, () -> x.stale(), 1, 0, 1);
            x.writes(1, 0);
            dueRow("of as many the least", x, () -> x.stale(), 2, 0, 1);
            FlashFolio y = behind("w0510");
            y.sets(1, 0);
            for (int i = 0; i < 8; i++) {
                y.writes(5, i);
            }
            dueRow("four in log 1, three in log 2", y, () -> y.stale(), 8, 1, 4);
            y.sheet(2, 1, 0, 0);
            y.merges(1);
            dueRow("four in each of both", y, () -> y.stale(), 8, 1, 4);
            FlashFolio z = new FlashFolio();
            z.sheet(2, 16, 15, -1);
            z.writes(1, 0);
            z.writes(1, 0);
            dueRow("in block 15", z, () -> z.stale(), 1, 15, 1);
        });
    }

    private static void hotAndHeat() {
        edge("Promise 20", "how many, the one of the most HEAT (of equal ones the least), HEAT of it.", () -> {
            FlashFolio x = new FlashFolio();
            dueRow("all are 0", x, () -> x.hot(), 0, 0, 0, 0);
            x.writes(23, 0);
            dueRow("the last page", x, () -> x.hot(), 0, 0, 23, 1);
            x.writes(7, 0);
            dueRow("of equal ones", x, () -> x.hot(), 0, 0, 7, 1);
            dayOf(x, "w2300w2300");
            dueRow("hot", x, () -> x.hot(), 1 << 23, 1, 23, 3);
            dayOf(x, "w0700w0700w0000w0000w0000");
            dueRow("of equal hot ones", x, () -> x.hot(), 1 << 23 | 1 << 7 | 1, 3, 0, 3);
        });
        edge("Promise 21", "NONE: another PAGE.", () -> {
            FlashFolio x = behind("w0000w2300w2300");
            due("the first", x.heat(0), 1);
            due("the last", x.heat(23), 2);
            for (int page : new int[] {-1, 24, LEAST, GREATEST}) {
                refuses("page " + page, x, () -> x.heat(page), -1);
            }
        });
    }

    private static void nextAndLogs() {
        edge("Promise 22", "The BLOCK that would be TAKEN next: it; the ROW: its WIPES, how many are FREE.", () -> {
            FlashFolio x = new FlashFolio();
            dueRow("all are free", x, () -> x.next(), 0, 0, 16);
            x.sheet(2, 16, 999, 0);
            dueRow("the least of equal ones", x, () -> x.next(), 0, 999, 16);
            x.sheet(2, 15, 999, 0);
            dueRow("the last", x, () -> x.next(), 15, 0, 16);
            due("is taken", x.writes(0, 0), 15);
            dueRow("of the free ones", x, () -> x.next(), 0, 999, 15);
            FlashFolio y = new FlashFolio();
            y.sets(0, 3);
            y.sets(1, 2);
            // 6 homes, a run; page 1: three cold logs (halved ahead of each write), then two hot ones
            dayOf(y, "w0000w0400w0800w1200w1600w2000w0000w0100");
            dayOf(y, "w0100hw0100hw0100hw0100hw0100hw0100hw0100hw0100hw0100hw0100hw0100hw0100");
            dayOf(y, "w0100w0100w0100w0100w0100w0100w0100w0100");
            due("cold logs", y.logs(0), 3);
            due("hot logs", y.logs(1), 2);
            dueRow("the fewest that can be free", y, () -> y.next(), 12, 0, 4);
        });
        edge("Promise 23", "NONE: another row.", () -> {
            FlashFolio x = behind("w0110");
            x.next();
            dueRow("no cold one", x, () -> x.logs(0), 0);
            x.next();
            dueRow("no hot one", x, () -> x.logs(1), 0);
            for (int row : new int[] {-1, 2, 3, 4, LEAST, GREATEST}) {
                refuses("row " + row, x, () -> x.logs(row), -1);
            }
        });
    }

    private static void holdsAndSpread() {
        edge("Promise 24", "-2: there is no such LOG; NONE: another row.", () -> {
            FlashFolio x = behind("w0110w0111w2310w2311");
            dueRow("folders 0, 5", x, () -> x.holds(0), 33, 2, 2);
            refuses("no hot one", x, () -> x.holds(1), -2);
            for (int row : new int[] {-1, 2, LEAST, GREATEST}) {
                refuses("row " + row, x, () -> x.holds(row), -1);
            }
            dayOf(x, "m0m5");
            dueRow("no latest leaf", x, () -> x.holds(0), 0, 0, 0);
            x.clears(0);
            refuses("cleared", x, () -> x.holds(0), -2);
        });
        edge("Promise 25", "the BLOCK of the most, that of the fewest (of equal ones the least), WIPES of all.", () -> {
            FlashFolio x = new FlashFolio();
            dueRow("all are equal", x, () -> x.spread(), 0, 0, 0, 0);
            x.sheet(2, 16, 999, 0);
            dueRow("all are 999", x, () -> x.spread(), 0, 0, 0, 15984);
            x.sheet(2, 16, 0, 66);
            dueRow("0 .. 990", x, () -> x.spread(), 990, 15, 0, 7920);
            x.sheet(2, 15, 999, 0);
            dueRow("999 .., 0", x, () -> x.spread(), 999, 0, 15, 14985);
            // bytes 0, 100, -56, 44, -112, -12, 88, -68, 32, -124, -24, 76, -80, 20, 120, -36
            x.sheet(0, 16, 0, 100);
            dueRow("bytes", x, () -> x.spread(), 120, 14, 0, 480);
            // bytes -128, 127, 126
            x.sheet(0, 3, -128, -1);
            dueRow("block 1 the most", x, () -> x.spread(), 127, 1, 0, 253);
            // ints 1, 0, 0 (-1), .., and all behind have 0: block 1 is the least of the fewest
            x.sheet(2, 2, 1, -1);
            dueRow("block 1 the fewest", x, () -> x.spread(), 1, 0, 1, 1);
        });
    }

    private static void costsAndWorst() {
        edge("Promise 26", "1 if something is done TO LEVEL by it, else 0. NONE: another PAGE.", () -> {
            FlashFolio x = aboutToSeal();
            dueRow("the rule is 0", x, () -> x.costs(0), 3, 1, 3, 0);
            ruleOf(x, "1");
            dueRow("levelled", x, () -> x.costs(0), 7, 2, 3, 1);
            dueRow("nothing is wiped", x, () -> x.costs(1), 0, 0, 4, 0);
            x.sheet(2, 16, 999, 0);
            dueRow("as many wipes: nothing is done", x, () -> x.costs(0), 3, 1, 3, 0);
            dueRow("the last page", x, () -> x.costs(23), 0, 0, 2, 0);
            for (int page : new int[] {-1, 24, LEAST, GREATEST}) {
                refuses("page " + page, x, () -> x.costs(page), -1);
            }
        });
        edge("Promise 26", "at which of (2) .. (5) it is written (2 .. 5)", () -> {
            FlashFolio x = behind("w0010w0111w0020");
            int[][] due = {{0, 3}, {1, 4}, {2, 2}, {3, 2}, {23, 2}};
            for (int[] d : due) {
                x.costs(d[0]);
                due("way of " + d[0], x.row(1), d[1]);
            }
            x.writes(1, 0);
            x.costs(1);
            due("a log", x.row(1), 5);
        });
        edge("Promise 27", "(of as many the most WIPED, then the least PAGE)", () -> {
            FlashFolio x = new FlashFolio();
            dueRow("all are equal", x, () -> x.worst(), 0, 0, 0);
            dayOf(x, "w2010w2011");
            dueRow("page 20: no copies, but 1 wiped", x, () -> x.worst(), 20, 0, 1);
            x.writes(12, 0);
            dueRow("page 12, too: the least", x, () -> x.worst(), 12, 0, 1);
            x.writes(16, 0);
            dueRow("page 16, too", x, () -> x.worst(), 12, 0, 1);
            FlashFolio y = behind("w0010w0111w0212w0313w0020");
            y.sets(2, 9);
            dayOf(y, "w2110w2110w2110w2110w2110");
            // page 0: 3 copies, 1 wiped; log 3 is full, but there may be 2
            dueRow("page 0", y, () -> y.worst(), 0, 3, 1);
            y.sets(0, 1);
            // page 21 clears it: 1 copy, home and log wiped: fewer copies, though more are wiped
            dueRow("the most copies", y, () -> y.worst(), 0, 3, 1);
            y.costs(21);
            due("more are wiped by page 21", y.row(0), 2);
        });
    }

    private static void burst() {
        edge("Promise 28", "PAGES from one on, n (1 .. 24) of them, each one more (behind 23 comes 0), are written in turn"
                + " (VALUE 0)", () -> {
            FlashFolio x = behind("w0010w0111w0212w0313w2020w2121w2222w2323w2010");
            dueRow("1: page 23 to a log", x, () -> x.burst(23, 1), 0, 0, 0, 0, 0);
            dueRow("2: page 0 seals the run", x, () -> x.burst(23, 2), 3, 1, 0, 1, 0);
            dueRow("5: page 3 makes it a switch", x, () -> x.burst(23, 5), 3, 2, 1, 1, 0);
            dueRow("3 from 21: a switch", x, () -> x.burst(21, 3), 0, 1, 1, 0, 0);
            dueRow("24 from 0: a partial, a switch, a partial, a switch", x, () -> x.burst(0, 24), 3, 3, 2, 1, 0);
            due("nothing is written", x.count(1), 9);
        });
        edge("Promise 28", "NONE: others.", () -> {
            FlashFolio x = behind("w0010");
            for (int page : new int[] {-1, 24, LEAST, GREATEST}) {
                refuses("page " + page, x, () -> x.burst(page, 1), -1);
            }
            for (int n : new int[] {-1, 0, 25, LEAST, GREATEST}) {
                refuses("n " + n, x, () -> x.burst(0, n), -1);
            }
            due("24 from 23", x.burst(23, 24), 0);
        });
    }

    private static void lasts() {
        edge("Promise 29", "A PAGE is written (VALUE 0) again and again, 99 times at most, till some BLOCK has k (1 .. 999)"
                + " WIPES or more: behind how many WRITES (0: one has now); the ROW: that BLOCK (the least), COPIES.",
                () -> {
            FlashFolio x = new FlashFolio();
            // the third write of page 0 and each behind it wipes one block, 16 of them in turn
            dueRow("k 1", x, () -> x.lasts(0, 1), 3, 0, 0);
            due("k 7: the 99th", x.lasts(0, 7), 99);
            refuses("k 8", x, () -> x.lasts(0, 8), -2);
            x.sheet(2, 16, 999, 0);
            dueRow("k 999, now, of equal ones the least", x, () -> x.lasts(0, 999), 0, 0, 0);
            x.sheet(2, 16, 0, 1);
            dueRow("k 7, now: 8 have more", x, () -> x.lasts(0, 7), 0, 7, 0);
            refuses("999", x, () -> x.lasts(0, 999), -2);
            FlashFolio y = behind("w0010w0111w0212w0313w0020");
            dueRow("with copies", y, () -> y.lasts(0, 1), 1, 0, 3);
        });
        edge("Promise 29", "-2: behind none of these; NONE: others.", () -> {
            FlashFolio x = new FlashFolio();
            for (int page : new int[] {-1, 24, LEAST, GREATEST}) {
                refuses("page " + page, x, () -> x.lasts(page, 1), -1);
            }
            for (int k : new int[] {-1, 0, 1000, LEAST, GREATEST}) {
                refuses("k " + k, x, () -> x.lasts(0, k), -1);
            }
            int[] lasted = {0, 0, 0};
            for (int first = 0; first <= 16; first++) {
                lasted[lastsAsWritten(first)]++;
            }
            holds("99, and 100, were among them", lasted[1] > 0 && lasted[2] > 0);
        });
    }

    /** By calls of writes(), the first blocks worn once: 1 if a k needs 99 of them, 2 if one needs 100, else 0. */
    private static int lastsAsWritten(int first) {
        FlashFolio asked = new FlashFolio();
        asked.sheet(2, first, 1, 0);
        FlashFolio written = new FlashFolio();
        written.sheet(2, first, 1, 0);
        int k = 2;
        int found = 0;
        for (int i = 1; i <= 110; i++) {
            written.writes(0, 0);
            written.spread();
            if (written.block((int) written.row(0), 4) >= k) {
                due("first " + first + ", k " + k, asked.lasts(0, k), i <= 99 ? i : -2);
                found = i == 99 ? 1 : i == 100 ? 2 : found;
                k++;
            }
        }
        return found;
    }

    private static void cuts() {
        edge("Promise 30", "its first k (0 .. 99) steps alone are done (a step: a LEAF is written, COPIES, too, or a BLOCK is"
                + " WIPED; in the order in which they are told above; of LEAVES that are COPIED by PLACES), nothing behind"
                + " them: VALUE of its LATEST LEAF then (100: it has none)", () -> {
            FlashFolio x = new FlashFolio();
            cutIs("a home is taken, which is no step", x, 3, 1, 1, 100);
            x = behind("w0010w0111w0212w0313w0020");
            cutIs("a partial: 3 copies, a wipe, the leaf", x, 0, 5, 5, 20);
            cutIs("along the run", x, 1, 1, 1, 11);
            cutIs("a log", x, 2, 1, 1, 12);
            ruleOf(x, "1");
            cutIs("then levelled: 4 copies, a wipe", x, 0, 10, 5, 20);
            x = behind("w0010w0111w0212w0313w0020w0121w0222");
            cutIs("the leaf, then a switch: a wipe", x, 3, 2, 1, 13);
            x = behind("w0010w0111w0212w0313w0020w0121w0122");
            cutIs("a full merge: 4 copies, 2 wipes, the leaf", x, 0, 7, 7, 20);
            x = behind("w0510w2110w0111w2111w0511w0112w2112");
            x.sets(0, 1);
            x.sets(2, 9);
            dayOf(x, "w2113");
            // log 3 has pages 21, 5, 1, 21: folders 0, 1, 5 are merged by a copy and a wipe each, then the log is wiped
            cutIs("a log is cleared", x, 5, 8, 8, 11);
        });
        edge("Promise 30", "how many steps the whole WRITE has, how many other PAGES would have another VALUE (or none) than"
                + " now. NONE: others.", () -> {
            FlashFolio x = behind("w0010w0111w0212w0313w0020");
            for (int page : new int[] {-1, 24, LEAST, GREATEST}) {
                refuses("page " + page, x, () -> x.cuts(page, 0, 0), -1);
            }
            for (int value : new int[] {-1, 100, LEAST, GREATEST}) {
                refuses("value " + value, x, () -> x.cuts(0, value, 0), -1);
            }
            for (int k : new int[] {-1, 100, LEAST, GREATEST}) {
                refuses("k " + k, x, () -> x.cuts(0, 0, k), -1);
            }
            dueRow("the least of all", x, () -> x.cuts(0, 0, 0), 20, 5, 0);
            dueRow("the greatest of all", x, () -> x.cuts(23, 99, 99), 99, 1, 0);
        });
    }

    /** For each k: the value is the one of before till the leaf is written; no other page has another value. */
    private static void cutIs(String what, FlashFolio x, int page, int steps, int leafAt, int before) {
        for (int k = 0; k <= 99; k++) {
            int first = k;
            dueRow(what + ", " + k, x, () -> x.cuts(page, 77, first), k < leafAt ? before : 77, steps, 0);
        }
    }

    private static void swellsAndHeard() {
        edge("Promise 31", "-2: there were none.", () -> {
            FlashFolio x = new FlashFolio();
            refuses("a new one", x, () -> x.swells(), -2);
            x.writes(0, 0);
            dueRow("one", x, () -> x.swells(), 0, 1, 1);
            x.undo();
            refuses("undone", x, () -> x.swells(), -2);
        });
        edge("Promise 32", "its kind is v (0 .. 4, as block()); 1: WIPES are v (0 .. 9) or more; 2: v (0 .. 4) or more LEAVES are"
                + " written; 3: it has a LEAF of FOLDER v (0 .. 5): how many such.", () -> {
            // home 0 (pages 20, 23), cold 1 (23), hot 2 (23), run 3 (20), home 4 (pages 0 .. 3)
            FlashFolio x = behind("w2310w2311w2312w2012w2013w0010w0110w0210w0310");
            x.sheet(2, 16, 0, 1);
            int[][] due = {{0, 0, 0xffe0}, {0, 1, 0x11}, {0, 2, 8}, {0, 3, 2}, {0, 4, 4}, {1, 0, 0xffff}, {1, 1, 0xfffe},
                {1, 9, 0xfe00}, {2, 0, 0xffff}, {2, 1, 0x1f}, {2, 2, 0x11}, {2, 3, 0x10}, {2, 4, 0x10}, {3, 0, 0x10},
                {3, 1, 0}, {3, 5, 0xf}};
            for (int[] d : due) {
                due("heard(" + d[0] + ", " + d[1] + ")", x.heard(d[0], d[1]), 1);
                due("such blocks", x.fits(), d[2]);
                due("denied", x.denies(), 1);
            }
            for (int n = 1; n <= 12; n++) {
                due("one more", x.heard(2, 0), n);
                due("heard", x.count(9), n);
            }
        });
        edge("Promise 32", "Refused: others, 12.", () -> {
            FlashFolio x = new FlashFolio();
            int[][] others = {{-1, 0}, {4, 0}, {LEAST, 0}, {GREATEST, 0}, {0, -1}, {0, 5}, {1, -1}, {1, 10}, {2, -1}, {2, 5},
                {3, -1}, {3, 6}, {0, LEAST}, {1, GREATEST}};
            for (int[] o : others) {
                refuses("heard(" + o[0] + ", " + o[1] + ")", x, () -> x.heard(o[0], o[1]), -1);
            }
            for (int n = 1; n <= 12; n++) {
                due("the " + n + "th", x.heard(0, 0), n);
            }
            refuses("the 13th", x, () -> x.heard(0, 1), -1);
            due("all fit still", x.fits(), 65535);
            x.denies();
            due("the first again", x.heard(3, 5), 1);
        });
        edge("Promise 33", "It is denied: how many there were.", () -> {
            FlashFolio x = new FlashFolio();
            due("none", x.denies(), 0);
            x.heard(0, 1);
            due("1", x.denies(), 1);
            due("none", x.denies(), 0);
            for (int i = 0; i < 12; i++) {
                x.heard(0, 1);
            }
            due("12", x.denies(), 12);
            due("none", x.count(9), 0);
            due("all fit", x.fits(), 65535);
        });
    }

    private static void fitsAndAsks() {
        edge("Promise 34", "BLOCKS (bits) that fit all that was heard; the ROW: how many.", () -> {
            FlashFolio x = behind("w0010w0411");
            dueRow("nothing was heard: all", x, () -> x.fits(), 65535, 16);
            x.heard(0, 1);
            dueRow("homes", x, () -> x.fits(), 3, 2);
            x.heard(3, 1);
            dueRow("of folder 1", x, () -> x.fits(), 2, 1);
            x.heard(1, 1);
            dueRow("none", x, () -> x.fits(), 0, 0);
            x.sheet(2, 16, 1, 0);
            dueRow("as it is now", x, () -> x.fits(), 2, 1);
        });
        edge("Promise 35", "the fewest such BLOCKS are left at most: 10 times what and v, as they may be heard, of equal ones the"
                + " least; the ROW: how many at most. -2: none fits.", () -> {
            FlashFolio x = new FlashFolio();
            dueRow("all are equal", x, () -> x.asks(), 0, 16);
            x.sheet(2, 8, 9, 0);
            dueRow("1 wipe or more", x, () -> x.asks(), 11, 8);
            x.sheet(2, 16, 2, 1);
            dueRow("9 wipes or more, of 2 .. 17", x, () -> x.asks(), 19, 9);
            x.heard(1, 9);
            dueRow("9 are left, which nothing parts", x, () -> x.asks(), 0, 9);
            FlashFolio y = behind("w2010w2111w2212w2313w0010w0111w0212w0414w0515w0816");
            y.heard(0, 1);
            // homes of 4 (folder 5), 3 (0), 2 (1), 1 (2) leaves: 3 or more parts 2 and 2
            dueRow("3 leaves or more", y, () -> y.asks(), 23, 2);
            y.heard(2, 3);
            dueRow("4 leaves or more, ahead of folder 0", y, () -> y.asks(), 24, 1);
            y.heard(2, 4);
            dueRow("one is left", y, () -> y.asks(), 0, 1);
            y.heard(3, 0);
            refuses("none fits", y, () -> y.asks(), -2);
            FlashFolio z = behind("w0010w0411");
            z.heard(0, 1);
            dueRow("by the folder", z, () -> z.asks(), 30, 1);
            z.denies();
            dayOf(z, "w2012");
            z.heard(0, 1);
            dueRow("of equal ones the least folder", z, () -> z.asks(), 30, 2);
            for (int i = 2; i <= 12; i++) {
                z.heard(2, 1);
            }
            dueRow("12 were heard", z, () -> z.asks(), 30, 2);
        });
    }

    private static void law() {
        edge("Promise 36", "THE TEXT is another RULE (an empty one: none): spread() as it would be behind 40 WRITES drawn by a"
                + " seed (as years()) by it, less that by THE RULE (below 0, too); the ROW: both, COPIES by these by it, by THE"
                + " RULE.", () -> {
            int differ = 0;
            for (int seed = 0; seed < 12; seed++) {
                FlashFolio by = new FlashFolio();
                ruleOf(by, "d>0");
                writeDrawn(by, seed, 40);
                FlashFolio without = new FlashFolio();
                writeDrawn(without, seed, 40);
                int spreadBy = by.spread();
                int spread = without.spread();
                differ += spreadBy != spread ? 1 : 0;
                FlashFolio x = new FlashFolio();
                int of = seed;
                tell(x, "d>0");
                dueRow("d>0", x, () -> x.law(of), spreadBy - spread, spreadBy, spread, by.count(2), without.count(2));
                due("the text is empty", x.count(12), 0);
                dueRow("an empty one", x, () -> x.law(of), 0, spread, spread, without.count(2), without.count(2));
                ruleOf(x, "d>0");
                dueRow("by none", x, () -> x.law(of), spread - spreadBy, spread, spreadBy, without.count(2), by.count(2));
            }
            holds("some differ, so that one way or the other is below 0", differ > 0);
        });
        edge("Promise 36", "-10000 - p: the sign at p can't stand there (as rule()).", () -> {
            FlashFolio x = behind("w0010");
            Object[][] wrong = {{"z", 0}, {"1+", 2}, {"1<2<3", 3}, {"-".repeat(40), 40}, {"-".repeat(44), 40}};
            for (Object[] text : wrong) {
                tell(x, (String) text[0]);
                refuses("law " + text[0], x, () -> x.law(7), -10000 - (int) text[1]);
                due("the text is empty", x.count(12), 0);
            }
        });
    }

    /** Writes as the document draws them, by longs. */
    private static void writeDrawn(FlashFolio x, int seed, int n) {
        long r = seed & 0xffffffffL;
        long[] draws = new long[3];
        for (int i = 0; i < n; i++) {
            for (int j = 0; j < 3; j++) {
                r = (r * 1103515245L + 12345) % (1L << 32);
                draws[j] = r / 65536;
            }
            x.writes((int) (draws[0] % 4 == 3 ? draws[1] % 4 : draws[1] % 24), (int) (draws[2] % 100));
        }
    }

    private static void years() {
        edge("Promise 37", "n times (1 .. 60): a DRAW of 4 tells: 0, 1, 2: a WRITE of a DRAW of 24, 3: of one of the first four"
                + " PAGES (a DRAW of 4); VALUE is the DRAW of 100 that comes behind it", () -> {
            for (int n : new int[] {1, 2, 59, 60}) {
                drawnIs(5, n);
            }
        });
        edge("Promise 37", "NONE: another n.", () -> {
            FlashFolio x = behind("w0010");
            for (int n : new int[] {-1, 0, 61, LEAST, GREATEST}) {
                refuses("n " + n, x, () -> x.years(1, n), -1);
            }
        });
        edge("Promise 37", "A DRAW of n: R = R times 1103515245 + 12345 (as ints; R is seed at first), (R without sign, by"
                + " 65536) % n.", () -> {
            for (int seed : new int[] {0, 1, -1, LEAST, GREATEST, 65535, 65536, -65536, 1103515245}) {
                drawnIs(seed, 60);
                drawnIs(seed, 1);
            }
        });
    }

    private static void drawnIs(int seed, int n) {
        FlashFolio x = new FlashFolio();
        writeDrawn(x, seed, n);
        x.sum();
        FlashFolio y = new FlashFolio();
        y.next();
        dueRow("years(" + seed + ", " + n + ")", y, () -> y.years(seed, n), x.count(2), x.count(3), x.count(6), x.row(0));
        due("nothing is written", y.count(1), 0);
    }

    private static void sum() {
        edge("Promise 38", "at first 7; by each: 31 times it, and 100 times PAGE, 100 and VALUE (0 of an empty one), as ints: 0;"
                + " the ROW: it.", () -> {
            FlashFolio x = new FlashFolio();
            for (int i = 0; i <= 60; i++) {
                long due = 7;
                for (int b = 0; b < 16; b++) {
                    for (int l = 0; l < 4; l++) {
                        boolean written = (x.block(b, 2) >> l & 1) != 0;
                        due = 31 * due + (written ? 100 * x.leaf(b, l, 0) + 100 + x.leaf(b, l, 1) : 0);
                        due %= 1L << 32;
                    }
                }
                dueRow("behind " + i, x, () -> x.sum(), 0, (int) due);
                x.writes(i * 7 % 24, i % 3 * 49);
            }
        });
    }

    private static void keeps() {
        edge("Promise 39", "What undo() brings back is kept under a number 0 .. 1: true. Refused: others.", () -> {
            FlashFolio x = behind("w0010w0111");
            for (int i : new int[] {-1, 2, LEAST, GREATEST}) {
                refuses("keep " + i, x, () -> x.keep(i) ? 1 : 0, 0);
                refuses("again " + i, x, () -> x.again(i) ? 1 : 0, 0);
            }
            String first = seenOf(x);
            holds("0", x.keep(0));
            dayOf(x, "w0212m0");
            x.sets(0, 1);
            x.sets(1, 2);
            x.sets(2, 9);
            x.sheet(2, 16, 3, 3);
            String second = seenOf(x);
            holds("1", x.keep(1));
            ruleOf(x, "1");
            x.heard(0, 0);
            holds("0 again", x.again(0) && first.equals(seenOf(x)));
            due("limits, too", x.sets(0, 2) + x.sets(1, 1) + x.sets(2, 3), -6);
            due("not what was heard", x.count(9), 1);
            holds("1 again", x.again(1) && second.equals(seenOf(x)));
            due("limits, too", x.sets(0, 1) + x.sets(1, 2) + x.sets(2, 9), -6);
            x.sheet(2, 1, 9, 0);
            dayOf(x, "w0414w0514w0010w0010");
            holds("kept anew", x.keep(0));
            String third = seenOf(x);
            holds("1 stays", x.again(1) && second.equals(seenOf(x)));
            holds("0 is the new one", x.again(0) && third.equals(seenOf(x)));
        });
        edge("Promise 40", "Refused: nothing kept.", () -> {
            FlashFolio x = behind("w0010");
            refuses("0", x, () -> x.again(0) ? 1 : 0, 0);
            refuses("1", x, () -> x.again(1) ? 1 : 0, 0);
            x.keep(1);
            refuses("0 still", x, () -> x.again(0) ? 1 : 0, 0);
            holds("1", x.again(1));
            holds("more than once", x.again(1));
        });
    }

    private static void countsAndRows() {
        edge("Promise 41", "-100 for another what.", () -> {
            FlashFolio x = behind("w0010w0011");
            for (int what : new int[] {-1, 13, 14, LEAST, GREATEST}) {
                refuses("what " + what, x, () -> x.count(what), -100);
            }
            due("the first", x.count(0), 65532);
            x.sign(0);
            due("the last", x.count(12), 4);
        });
        edge("Promise 42", "NoSuchElementException: none such.", () -> {
            FlashFolio x = new FlashFolio();
            refusesBy("a new one", () -> x.row(0));
            x.spread();
            due("the first", x.row(0), 0);
            due("the last", x.row(2), 0);
            for (int i : new int[] {-1, 3, LEAST, GREATEST}) {
                refusesBy("row " + i, () -> x.row(i));
            }
            x.logs(0);
            refusesBy("of an empty one, behind a longer one", () -> x.row(0));
            x.sets(1, 0);
            x.sets(0, 3);
            for (int i = 0; i < 13; i++) {
                x.writes(5, i);
            }
            x.copies(5);
            due("the 12th", x.row(11), 4);
            refusesBy("the 13th", () -> x.row(12));
        });
    }
}
