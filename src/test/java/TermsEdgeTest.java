import java.io.IOException;
import java.util.function.IntSupplier;

/** The sentences of "What it is" and "Terms" that name an edge, each with a test of its own. */
public final class TermsEdgeTest extends Edges {
    private static final String ONE = "Terms 1";
    private static final String TWO = "Terms 2";

    public static void main(String[] args) throws IOException {
        open();
        calls();
        blocks();
        kindsAndRows();
        latest();
        heat();
        takenAndWiped();
        counts();
        fullMerges();
        seals();
        clears();
        rulesOfSigns();
        rulesOfJoins();
        rulesOfThings();
        levels();
        writesHome();
        writesAlong();
        writesToLogs();
        writesThatLevel();
        answers();
        questions();
        allHeld("Terms");
        close("the edges of the terms hold");
    }

    private static void calls() {
        edge("What it is", "An object is used for at most 512 calls after it has been made", () -> {
            FlashFolio x = new FlashFolio();
            for (int i = 0; i < 511; i++) {
                x.writes(i % 24, i % 100);
            }
            due("the 512th call, of page 6: written last with 510", x.reads(510 % 24), 10);
        });
    }

    private static void blocks() {
        edge(ONE, "BLOCKS 0 .. 15 of 4 LEAVES each (0 .. 3).", () -> {
            FlashFolio x = new FlashFolio();
            due("1 .. 16", x.sheet(2, 16, 1, 1), 136);
            due("block 0", x.block(0, 4), 1);
            due("block 15", x.block(15, 4), 16);
            refusesBy("block -1", () -> x.block(-1, 4));
            refusesBy("block 16", () -> x.block(16, 4));
            dayOf(x, "w0010w0111w0212w0313");
            for (int leaf = 0; leaf < 4; leaf++) {
                due("leaf " + leaf, x.leaf(0, leaf, 1), 10 + leaf);
            }
            refusesBy("leaf -1", () -> x.leaf(0, -1, 1));
            refusesBy("leaf 4", () -> x.leaf(0, 4, 1));
        });
        edge(ONE, "A LEAF is empty (at first), or written: a PAGE 0 .. 23, a VALUE 0 .. 99, a STAMP (1 and more).",
                () -> {
            FlashFolio x = new FlashFolio();
            for (int i = 0; i < 64; i++) {
                int at = i;
                refusesBy("leaf " + at + " of a new one", () -> x.leaf(at / 4, at % 4, 0));
            }
            x.writes(0, 0);
            x.writes(23, 99);
            due("the least page", x.leaf(0, 0, 0), 0);
            due("the least value", x.leaf(0, 0, 1), 0);
            due("the first stamp", x.leaf(0, 0, 2), 1);
            due("the last page", x.leaf(1, 3, 0), 23);
            due("the greatest value", x.leaf(1, 3, 1), 99);
            due("the next stamp", x.leaf(1, 3, 2), 2);
        });
        edge(ONE, "WIPES of a BLOCK 0 .. 999 (no more is counted; at first 0).", () -> {
            FlashFolio x = new FlashFolio();
            for (int b = 0; b < 16; b++) {
                due("of a new one", x.block(b, 4), 0);
            }
            x.writes(0, 0);
            x.sheet(2, 16, 998, 0);
            dueRow("home 0 is wiped", x, () -> x.merges(0), 1, 1, 1);
            due("999", x.block(0, 4), 999);
            x.sheet(2, 16, 999, 0);
            dueRow("home 1 is wiped", x, () -> x.merges(0), 0, 1, 1);
            due("999 still", x.block(1, 4), 999);
            due("wiped all the same", x.count(3), 2);
        });
        edge(ONE, "PAGE p belongs to FOLDER p / 4 (0 .. 5; cut), at PLACE p % 4.", () -> {
            for (int p = 0; p < 24; p++) {
                FlashFolio x = new FlashFolio();
                int page = p;
                dueRow("place of " + p, x, () -> x.writes(page, 1), 0, p % 4, 0, 0);
                due("folder of " + p, x.block(0, 1), p / 4);
            }
        });
    }

    private static void kindsAndRows() {
        edge(ONE, "Each BLOCK is FREE (at first), or HOME of a FOLDER (each has one at most), or the RUN (there is one at"
                + " most) of a FOLDER, or a LOG: COLD or HOT.", () -> {
            FlashFolio x = new FlashFolio();
            for (int b = 0; b < 16; b++) {
                due("kind of a new one", x.block(b, 0), 0);
            }
            for (int i = 0; i < 500; i++) {
                x.writes(i * i % 23, i % 100);
                oneHomeOneRun(x);
            }
        });
        edge(ONE, "COLD LOGS are in a row, HOT ones in another one, in the order in which they were taken. There may be"
                + " COLDS (1 .. 3; at first 2) and HOTS (0 .. 2; at first 1) of them.", () -> {
            due("colds at first", new FlashFolio().sets(0, 2), -2);
            due("hots at first", new FlashFolio().sets(1, 1), -2);
            for (int most = 1; most <= 3; most++) {
                coldLogs(most);
            }
            for (int most = 1; most <= 2; most++) {
                hotLogs(most);
            }
        });
    }

    private static void oneHomeOneRun(FlashFolio x) {
        int homes = 0;
        int runs = 0;
        for (int b = 0; b < 16; b++) {
            int kind = x.block(b, 0);
            if (kind == 1) {
                due("homes of folder " + x.block(b, 1), homes >> x.block(b, 1) & 1, 0);
                homes |= 1 << x.block(b, 1);
            }
            runs += kind == 2 ? 1 : 0;
        }
        holds("runs: " + runs, runs <= 1);
    }

    /** Blocks are taken from 15 down, so that the order in which they are taken is not that of their numbers. */
    private static void coldLogs(int most) {
        FlashFolio x = new FlashFolio();
        x.sets(1, 0);
        x.sets(0, most);
        x.sheet(2, 16, 500, -20);
        ruleOf(x, "0");
        x.writes(5, 0);
        for (int i = 0; i < 4 * most; i++) {
            due("log of write " + i, x.writes(5, i), 14 - i / 4);
        }
        due("cold ones", x.logs(0), most);
        for (int i = 0; i < most; i++) {
            due("number " + i, x.row(i), 14 - i);
            due("its number", x.block(14 - i, 1), i);
        }
        // the fewest wipes have then: the log that was wiped, or (one log alone: its page was merged) the home of before
        x.writes(5, 50);
        due("no more cold ones", x.logs(0), most);
        due("the first goes", x.row(0), most == 1 ? 15 : 13);
        due("it is the first", x.block((int) x.row(0), 1), 0);
    }

    private static void hotLogs(int most) {
        FlashFolio x = new FlashFolio();
        x.sets(2, 1);
        x.sets(1, most);
        x.sheet(2, 16, 500, -20);
        ruleOf(x, "0");
        x.writes(5, 0);
        for (int i = 0; i < 4 * most; i++) {
            due("hot log of write " + i, x.writes(5, i), 14 - i / 4);
        }
        due("hot ones", x.logs(1), most);
        due("no cold ones", x.logs(0), 0);
        x.writes(5, 50);
        due("no more hot ones", x.logs(1), most);
        due("it goes to the last one", x.reads(5), 50);
        due("a hot log", x.block((int) x.row(0), 0), 4);
        due("the last one", x.block((int) x.row(0), 1), most - 1);
    }

    private static void latest() {
        edge(ONE, "of those written with it the one of the greatest STAMP (of equal ones that in HOME of its FOLDER; else"
                + " that in its RUN; else that of the least BLOCK)", () -> {
            FlashFolio x = behind("w0510w0511");
            dueRow("the greater stamp, in log 1", x, () -> x.reads(5), 11, 1, 0, 2);
            x.merges(1);
            dueRow("log 1 has the same stamp as home 2", x, () -> x.reads(5), 11, 2, 1, 2);
            due("in the log it is not the latest", x.block(1, 3), 0);
            x.sheet(2, 0, 0, 0);
            x.merges(1);
            dueRow("as home 0", x, () -> x.reads(5), 11, 0, 1, 2);
            due("in the log it is not the latest", x.block(1, 3), 0);
            x.sets(2, 9);
            x.writes(5, 12);
            dueRow("log 1 again, by its next leaf", x, () -> x.reads(5), 12, 1, 1, 3);
            due("the latest of the log", x.block(1, 3), 2);
        });
    }

    private static void heat() {
        edge(ONE, "HEAT of a PAGE: how often it was written (0 .. 99; no more is counted), halved (cut) by cools().",
                () -> {
            FlashFolio x = new FlashFolio();
            due("of a new one", x.heat(23), 0);
            for (int i = 1; i <= 101; i++) {
                x.writes(23, 0);
                due("written " + i + " times", x.heat(23), Math.min(i, 99));
            }
            for (int due : new int[] {49, 24, 12, 6, 3, 1, 0, 0}) {
                x.cools();
                due("halved", x.heat(23), due);
            }
        });
        edge(ONE, "It is HOT, if HEAT is WARM (1 .. 9; at first 3) or more, and HOTS is not 0.", () -> {
            for (int warm = 1; warm <= 9; warm++) {
                FlashFolio x = new FlashFolio();
                due("warm", x.sets(2, warm), warm == 3 ? -2 : 13);
                for (int i = 1; i <= 10; i++) {
                    x.writes(4, 0);
                    due("warm " + warm + ", heat " + i, x.hot(), i >= warm ? 16 : 0);
                }
                x.sets(1, 0);
                due("no hots", x.hot(), 0);
            }
        });
    }

    private static void takenAndWiped() {
        edge(ONE, "To TAKE a BLOCK: of the FREE ones that of the fewest WIPES (of equal ones the least).", () -> {
            FlashFolio x = new FlashFolio();
            due("of 16 equal ones", x.writes(0, 0), 0);
            due("of 15", x.writes(4, 0), 1);
            // 5, 4, .., 0, 0, ..: blocks 5 .. 15 have none
            x.sheet(2, 16, 5, -1);
            due("of 11 that have none", x.writes(8, 0), 5);
            x.sheet(2, 16, 15, -1);
            due("the last one alone has none", x.writes(12, 0), 15);
            due("14 has 1", x.writes(16, 0), 14);
            x.sheet(2, 16, 0, 1);
            due("blocks 0, 1 have fewer, but are homes", x.writes(20, 0), 2);
        });
        edge(ONE, "To WIPE one: all LEAVES are empty, WIPES are 1 more, it is FREE.", () -> {
            FlashFolio x = behind("w0010w0111w0212w0313");
            due("to another home", x.merges(0), 1);
            due("no leaf", x.block(0, 2), 0);
            due("free", x.block(0, 0), 0);
            due("of no folder", x.block(0, 1), 0);
            due("1 more", x.block(0, 4), 1);
            due("all but home 1", x.count(0), 65535 - 2);
            due("leaves", x.count(7), 4);
            for (int i = 0; i < 4; i++) {
                int leaf = i;
                refusesBy("leaf " + leaf, () -> x.leaf(0, leaf, 0));
            }
            FlashFolio y = behind("w2010w2111w2112");
            due("a home of folder 5", y.merges(5), 2);
            due("of no folder now", y.block(0, 1), 0);
        });
        edge(ONE, "To COPY a LEAF to an empty one: the same PAGE, VALUE, STAMP.", () -> {
            FlashFolio x = behind("w0410w2399");
            due("folder 5", x.merges(5), 2);
            due("page", x.leaf(2, 3, 0), 23);
            due("value", x.leaf(2, 3, 1), 99);
            due("stamp", x.leaf(2, 3, 2), 2);
            due("no stamp goes on by it", x.count(8), 2);
        });
    }

    /** No 512 calls come as far as 99999; the class goes on behind them, and so it can be seen. */
    private static void counts() {
        edge(ONE, "COUNTS: WRITES, COPIES, WIPED (of all BLOCKS), SWITCHES, PARTIALS, FULLS (0 .. 99999; no more is"
                + " counted).", () -> {
            FlashFolio x = new FlashFolio();
            for (int what = 1; what <= 6; what++) {
                due("count(" + what + ") of a new one", x.count(what), 0);
            }
            // page 0 again and again: home, run, then partials without copies, each of which wipes a home
            for (int i = 0; i < 99999; i++) {
                x.writes(0, 0);
            }
            due("writes", x.count(1), 99999);
            due("wiped", x.count(3), 99997);
            due("partials", x.count(5), 99997);
            for (int i = 0; i < 4; i++) {
                x.writes(0, 0);
            }
            due("no more writes", x.count(1), 99999);
            due("no more wiped", x.count(3), 99999);
            due("no more partials", x.count(5), 99999);
            due("stamps go on", x.count(8), 100003);
            copiesAndFulls();
            switches();
        });
    }

    private static void copiesAndFulls() {
        FlashFolio x = behind("w0010w0111w0212w0313");
        ruleOf(x, "0");
        for (int i = 0; i < 24999; i++) {
            x.merges(0);
        }
        due("copies", x.count(2), 99996);
        due("fulls", x.count(6), 24999);
        x.merges(0);
        due("no more copies", x.count(2), 99999);
        for (int i = 25000; i < 99999; i++) {
            x.merges(0);
        }
        due("fulls", x.count(6), 99999);
        x.merges(0);
        due("no more fulls", x.count(6), 99999);
    }

    private static void switches() {
        FlashFolio x = behind("w0010w0111w0212w0313");
        for (int i = 0; i < 99999; i++) {
            for (int page = 0; page < 4; page++) {
                x.writes(page, 0);
            }
        }
        due("switches", x.count(4), 99999);
        for (int page = 0; page < 4; page++) {
            x.writes(page, 0);
        }
        due("no more switches", x.count(4), 99999);
    }

    private static void fullMerges() {
        edge(ONE, "A FULL MERGE of a FOLDER (of which some LEAF is written)", () -> {
            FlashFolio x = behind("w0010");
            refuses("a folder of which none is", x, () -> x.merges(1), -2);
            due("one of which some is", x.merges(0), 1);
        });
        edge(ONE, "the LATEST LEAF of each of its PAGES, by PLACES, is COPIED to the LEAF of that number in it", () -> {
            FlashFolio x = behind("w0110w0311w0112");
            // home 0: pages 1, 3; cold log 1: page 1
            dueRow("two pages", x, () -> x.merges(0), 2, 2, 1);
            due("at their places, no others", x.block(2, 2), 2 | 8);
            due("the latest", x.leaf(2, 1, 1), 12);
            due("its stamp", x.leaf(2, 1, 2), 3);
            due("the other", x.leaf(2, 3, 1), 11);
            FlashFolio y = behind("w0310w0411w0512w0613w0714w0815");
            dueRow("of its folder alone", y, () -> y.merges(1), 3, 4, 1);
            due("leaves of home 0", y.block(0, 2), 8);
            due("leaves of home 2", y.block(2, 2), 1);
            due("all leaves", y.count(7), 6);
        });
        edge(ONE, "then its HOME of before (if it had one), then its RUN (if there is one) are WIPED. FULLS are 1 more.",
                () -> {
            FlashFolio x = behind("w0010w0111");
            dueRow("home alone", x, () -> x.merges(0), 1, 2, 1);
            due("fulls", x.count(6), 1);
            x.writes(0, 20);
            due("block 2 is the run", x.block(2, 0), 2);
            dueRow("home and run", x, () -> x.merges(0), 3, 2, 2);
            due("wiped", x.block(1, 4), 1);
            due("wiped", x.block(2, 4), 1);
            due("fulls", x.count(6), 2);
            dayOf(x, "w0410w0411");
            due("block 5 is the run", x.block(5, 0), 2);
            dueRow("the run of another folder stays", x, () -> x.merges(0), 6, 2, 1);
            due("it is the run still", x.block(5, 0), 2);
        });
    }

    private static void seals() {
        edge(ONE, "if each of these is the LATEST of its PAGE", () -> {
            FlashFolio x = behind("w0010w0111w0020w0121");
            dueRow("each is", x, () -> x.seals(), 1, 0, 1);
            FlashFolio y = behind("w0010w0111w0020w0121w0122");
            due("page 1 is in a log, later", y.block(1, 3), 1);
            dueRow("the last is not", y, () -> y.seals(), 2, 2, 2);
            due("read", y.reads(1), 22);
        });
        edge(ONE, "the LATEST LEAF of each PAGE of its FOLDER at PLACE n or behind (if any is written) is COPIED to the LEAF"
                + " of that number; it is HOME of the FOLDER from then on, no RUN; the HOME of before (if it had one) is"
                + " WIPED", () -> {
            FlashFolio x = behind("w0010w0111w0212w0213w0020");
            // home 0, log 1 (page 2), run 2: page 3 was never written
            dueRow("two are copied", x, () -> x.seals(), 1, 2, 1);
            due("no leaf 3", x.block(2, 2), 7);
            due("from the home", x.leaf(2, 1, 1), 11);
            due("from the log", x.leaf(2, 2, 1), 13);
            due("home", x.block(2, 0), 1);
            due("of its folder", x.block(2, 1), 0);
            due("the home of before", x.block(0, 0), 0);
            due("wiped", x.block(0, 4), 1);
            FlashFolio y = behind("w0010w0111w0212w0313w0020w0121w0222");
            dueRow("place 3 alone", y, () -> y.seals(), 1, 1, 1);
            due("copied", y.leaf(1, 3, 1), 13);
            FlashFolio z = behind("w0010w0020");
            dueRow("none is written", z, () -> z.seals(), 1, 0, 1);
            due("leaf 0 alone", z.block(1, 2), 1);
            FlashFolio u = behind("w0310w0411w0812w0413");
            dueRow("of its folder alone", u, () -> u.seals(), 1, 0, 1);
            due("all leaves", u.count(7), 3);
        });
        edge(ONE, "SWITCHES are 1 more, if n is 4, else PARTIALS. Else: a FULL MERGE of its FOLDER.", () -> {
            FlashFolio x = behind("w0010w0111w0212w0313w0020w0121w0222");
            dueRow("3 leaves: a partial", x, () -> x.seals(), 1, 1, 1);
            due("switches", x.count(4), 0);
            due("partials", x.count(5), 1);
            due("fulls", x.count(6), 0);
            x.undo();
            dueRow("4 leaves: a switch", x, () -> x.writes(3, 23), 1, 3, 0, 1);
            due("switches", x.count(4), 1);
            due("partials", x.count(5), 0);
            due("fulls", x.count(6), 0);
            FlashFolio y = behind("w0010w0111w0212w0313w0020w0121w0122w0222");
            dueRow("leaf 1 is not the latest", y, () -> y.writes(3, 23), 1, 3, 4, 2);
            due("switches", y.count(4), 0);
            due("partials", y.count(5), 0);
            due("fulls", y.count(6), 1);
        });
    }

    private static void clears() {
        edge(ONE, "A LOG IS CLEARED: of each FOLDER, by number, of which some LEAF in it is the LATEST: a FULL MERGE (each"
                + " as all is then); then the LOG is WIPED.", () -> {
            FlashFolio x = behind("w2110w0110w2111w0111");
            // homes 0 (folder 5), 1 (folder 0), log 2: folder 0 goes first to block 3, 1 is wiped; then 5 to block 4
            dueRow("by number", x, () -> x.clears(0), 2, 2, 3);
            due("folder 0", x.block(3, 1), 0);
            due("folder 5", x.block(4, 1), 5);
            due("the log is wiped", x.block(2, 0), 0);
            due("no log", x.logs(0), 0);
            FlashFolio y = behind("w0110w0111w0410w0511w0512");
            y.merges(0);
            dueRow("folder 0 is the latest no more", y, () -> y.clears(0), 1, 2, 2);
            FlashFolio z = behind("w0110w0111");
            z.merges(0);
            dueRow("no leaf is the latest", z, () -> z.clears(0), 0, 0, 1);
            due("fulls", z.count(6), 1);
        });
    }

    private static void rulesOfSigns() {
        edge(ONE, "THE RULE is a text of at most 40 signs (at first none: d>4).", () -> {
            FlashFolio x = new FlashFolio();
            String forty = "1+".repeat(18) + "1000"; // its last 0 is the fourth digit
            due("40, wrong at the last", ruleOf(x, forty), -40);
            due("40", ruleOf(x, "1+".repeat(18) + "(10)"), 0);
            due("41", ruleOf(x, "1+".repeat(20) + "1"), -41);
            FlashFolio y = aboutToSeal();
            y.sheet(2, 1, 3, 0);
            dueRow("d is 4", y, () -> y.costs(0), 3, 1, 3, 0);
            y.sheet(2, 1, 4, 0);
            dueRow("d is 5", y, () -> y.costs(0), 7, 2, 3, 1);
        });
        edge(ONE, "things: a NUMBER of 1 to 3 digits", () -> {
            due("1 digit", levelsBy("7=(6+1)"), 1);
            due("0", levelsBy("0"), 0);
            due("2 digits", levelsBy("12=(11+1)"), 1);
            due("3 digits", levelsBy("999=(99*10+9)"), 1);
            due("no octal", levelsBy("010=10"), 1);
            due("000", levelsBy("000=0"), 1);
            due("4 digits", ruleOf(new FlashFolio(), "1000"), -4);
            due("4 digits from 0", ruleOf(new FlashFolio(), "0001"), -4);
            due("digits behind a thing", ruleOf(new FlashFolio(), "d1"), -2);
        });
        edge(ONE, "an EXPRESSION in ( ) (at most 4 in one another)", () -> {
            due("4", levelsBy("((((1))))"), 1);
            due("4 and 4", levelsBy("((((1))))+((((1))))=2"), 1);
            due("4 behind a sum", levelsBy("1+(1+(1+(1+(1))))=5"), 1);
            due("5", ruleOf(new FlashFolio(), "((((("), -5);
            due("5 behind a sum", ruleOf(new FlashFolio(), "1+(1+(1+(1+(1+(1)))))"), -15);
            due("a ) too many", ruleOf(new FlashFolio(), "(1))"), -4);
            due("a ) at first", ruleOf(new FlashFolio(), ")"), -1);
            due("nothing in it", ruleOf(new FlashFolio(), "()"), -2);
        });
    }

    private static void rulesOfJoins() {
        edge(ONE, "< > = bind least (two; 1 or 0; not one behind the other)", () -> {
            String[] above = {"1<2", "2>1", "2=2", "(1<2)=1", "(2>1)=1", "(2=2)=1", "(2<1)=0", "(1<1)=0", "(1>1)=0",
                "(1=2)=0", "1+1<3*1", "3-1>1-1", "5=2+3", "(1<2)+(2<3)=2", "1-(2<1)"};
            for (String rule : above) {
                due(rule, levelsBy(rule), 1);
            }
            for (String rule : new String[] {"1<1", "1>1", "1=2", "2<1", "1>2", "2-(1<2)*2"}) {
                due(rule, levelsBy(rule), 0);
            }
            FlashFolio x = new FlashFolio();
            due("one behind the other", ruleOf(x, "1<2<3"), -4);
            due("another one", ruleOf(x, "1=1>0"), -4);
            due("behind a sum", ruleOf(x, "1<2+3*4=5"), -8);
            due("in ( )", ruleOf(x, "(1<2=3)"), -5);
            due("behind ( ) with one", ruleOf(x, "1=(2=3)=4"), -8);
            due("in ( ) it is another expression", ruleOf(x, "(1=2)=(3=4)"), 0);
            due("not two", ruleOf(x, "1<"), -3);
            due("not two", ruleOf(x, "<1"), -1);
        });
        edge(ONE, "then + - (from the left), then * / (from the left; by 0: 0; cut to 0), then - ahead of a thing (any"
                + " many)", () -> {
            String[] above = {"10-3-2=5", "10-3+2=9", "100/5/2=10", "7/2*2=6", "2+3*4=14", "2*3+4=10", "(2+3)*4=20",
                "5/0=0", "0/0=0", "1+5/0=1", "-5/0=0", "7/2=3", "-7/2=-3", "7/-2=-3", "-7/-2=3", "1/2=0", "-1/2=0",
                "--1", "---1=-1", "-".repeat(38) + "1", "2--3=5", "2---3=-1", "-2*-3=6", "2*--3=6", "-(1-2)", "3-2"};
            for (String rule : above) {
                due(rule, levelsBy(rule), 1);
            }
            for (String rule : new String[] {"-1", "5/0", "1/2", "-".repeat(39) + "1", "-(1)", "-".repeat(37) + "1"}) {
                due(rule, levelsBy(rule), 0);
            }
            due("no + ahead of a thing", ruleOf(new FlashFolio(), "+1"), -1);
            due("no * behind one", ruleOf(new FlashFolio(), "1+*1"), -3);
        });
        edge(ONE, "s how many LEAVES are written and not the LATEST of their PAGE. As ints.", () -> {
            due("999 to the 4th is 996005996001, as an int below 0", levelsBy("999*999*999*999<0"), 1);
            due("it is -426416671", levelsBy("999*999*999*999=-((427*999+270)*999+514)"), 1);
            due("999 to the 3rd is below the greatest", levelsBy("999*999*999>0"), 1);
            due("65536 by 65536 is 0", levelsBy("(256*256)*(256*256)=0"), 1);
            due("the least int is below 0", levelsBy("256*256*256*128<0"), 1);
            due("less 1 it is the greatest", levelsBy("256*256*256*128-1>0"), 1);
            due("by -1 it is itself", levelsBy("256*256*256*128/-1<0"), 1);
            due("with - ahead it is itself", levelsBy("-(256*256*256*128)<0"), 1);
        });
    }

    private static void rulesOfThings() {
        edge(ONE, "d the most WIPES of a BLOCK less the fewest, f how many are FREE, w WRITES by 10 (rest), c COPIES by 10"
                + " (rest), l how many LOGS", () -> {
            for (String rule : new String[] {"d=1", "f=14", "w=6", "c=3", "l=0", "s=1"}) {
                due(rule, levelsBy(rule), 1);
            }
            FlashFolio x = behind("w0010w0111w0212w0313w0020", "m0m0");
            // 5 writes, 8 copies; page 0 makes a run again and again: each but the first makes 3 copies
            x.writes(0, 0);
            for (int writes = 7; writes <= 13; writes++) {
                x.sheet(2, 0, 0, 0);
                due("copies", x.count(2), 8 + 3 * (writes - 7));
                String things = "(w=" + writes % 10 + ")*(c=" + (8 + 3 * (writes - 6)) % 10 + ")*(d=1)*(s=1)*(f=14)";
                due("rule", ruleOf(x, things), 0);
                x.costs(0);
                due(things, x.row(2), 1);
                ruleOf(x, "0");
                x.writes(0, 0);
            }
            FlashFolio y = aboutToSeal();
            dayOf(y, "w0930w0931w0932w0933w0934w0935");
            // home of folder 2; page 9 once in a cold log, four times in a hot one: four stale, and page 0
            for (String rule : new String[] {"l=2", "s=6", "f=11"}) {
                ruleOf(y, rule);
                y.costs(0);
                due(rule, y.row(2), 1);
            }
            // page 0 is not written; page 20 stands in the first leaf of block 0 alone
            FlashFolio z = behind("w2010w0411w0512w0413");
            ruleOf(z, "s=1");
            dueRow("page 4 alone is stale", z, () -> z.costs(4), 2, 2, 3, 1);
        });
    }

    private static void levels() {
        edge(ONE, "of HOMES that of the fewest WIPES (of equal ones the least BLOCK), of FREE BLOCKS that of the most (of"
                + " equal ones the least): if there is a HOME, and it has fewer WIPES than that", () -> {
            FlashFolio none = new FlashFolio();
            none.sheet(2, 16, 0, 1);
            refuses("no home", none, () -> none.levels(), -2);
            FlashFolio x = behind("w0010w0411w0812");
            x.sheet(2, 16, 5, 0);
            refuses("as many", x, () -> x.levels(), -2);
            x.sheet(2, 16, 20, -1);
            refuses("more", x, () -> x.levels(), -2);
            x.sheet(2, 16, 5, 1);
            dueRow("home 0 has the fewest, 15 the most", x, () -> x.levels(), 15, 0);
            x.undo();
            // bytes 100, 30, -40, -110, 76, 6, -64, 122, 52, -18, -88, 98, ..: home 2 has 0, free block 7 has 122
            x.sheet(0, 16, 100, -70);
            dueRow("home 2, block 7", x, () -> x.levels(), 7, 2);
            x.undo();
            // bytes 0, 64, -128, -64, 0, 64, ..: homes 0, 2 have 0, free blocks 5, 9, 13 have 64
            x.sheet(0, 16, 0, 64);
            dueRow("of equal ones the least", x, () -> x.levels(), 5, 0);
            FlashFolio y = behind("w0010");
            due("one more", y.merges(0), 1);
            dueRow("0 wipes are fewer than 1", y, () -> y.levels(), 0, 1);
        });
        edge(ONE, "each written LEAF of the HOME is COPIED to the LEAF of that number in the FREE one, which is HOME of its"
                + " FOLDER from then on; the other one is WIPED. Else nothing is done.", () -> {
            FlashFolio x = behind("w2110w2311");
            x.sheet(2, 16, 0, 1);
            due("to block 15", x.levels(), 15);
            due("two leaves", x.block(15, 2), 2 | 8);
            due("page 21", x.leaf(15, 1, 1), 10);
            due("page 23", x.leaf(15, 3, 1), 11);
            due("home", x.block(15, 0), 1);
            due("of folder 5", x.block(15, 1), 5);
            due("free", x.block(0, 0), 0);
            due("no leaf", x.block(0, 2), 0);
            due("wiped", x.block(0, 4), 1);
            due("copies", x.count(2), 2);
            refuses("once more", x, () -> x.levels(), -2);
            FlashFolio y = behind("w0010w0111w0212w0313w0414");
            y.sheet(2, 16, 9, -1);
            y.sheet(2, 1, 5, 0);
            y.merges(0);
            // home 2 (folder 0, no wipes), home 1 (folder 1, none), block 0 free with 6
            dueRow("home 1, of equal ones the least", y, () -> y.levels(), 0, 1);
            due("one leaf", y.block(0, 2), 1);
            due("home 2 stays", y.block(2, 2), 15);
            due("all leaves", y.count(7), 5);
            FlashFolio z = behind("w0310w0411");
            // bytes 100, 30, .., 122 of block 7: home 1 goes there, home 0 stays
            z.sheet(0, 16, 100, -70);
            dueRow("home 1, block 7", z, () -> z.levels(), 7, 1);
            due("of that home alone", z.count(7), 2);
        });
    }

    private static void writesHome() {
        edge(ONE, "STAMPS go on by 1: it has the next one. HEAT of the PAGE is 1 more.", () -> {
            FlashFolio x = new FlashFolio();
            x.writes(3, 1);
            due("the first", x.leaf(0, 3, 2), 1);
            x.writes(24, 1);
            x.writes(2, 100);
            x.writes(2, 1);
            due("the next, refused ones have none", x.leaf(0, 2, 2), 2);
            due("the last", x.count(8), 2);
            due("nor heat", x.heat(2), 1);
        });
        edge(ONE, "(1) If its FOLDER has no HOME: a BLOCK is TAKEN: it is. (2) If the LEAF of its PLACE in its HOME is"
                + " empty: that is written.", () -> {
            FlashFolio x = new FlashFolio();
            dueRow("a new home, place 3", x, () -> x.writes(3, 0), 0, 3, 0, 0);
            dueRow("the home, place 0", x, () -> x.writes(0, 0), 0, 0, 0, 0);
            due("blocks taken", x.count(0), 65534);
            dueRow("another folder", x, () -> x.writes(4, 0), 1, 0, 0, 0);
            x.writes(0, 0);
            dueRow("there is a run, but the leaf is empty", x, () -> x.writes(1, 0), 0, 1, 0, 0);
            dueRow("it is not now", x, () -> x.writes(1, 0), 2, 1, 0, 0);
        });
    }

    private static void writesAlong() {
        edge(ONE, "(3) Else, if its PLACE is 0: if there is a RUN, it IS SEALED; then a BLOCK is TAKEN: the RUN of its"
                + " FOLDER; LEAF 0 of it is written.", () -> {
            FlashFolio x = behind("w0010w2010");
            dueRow("there is none", x, () -> x.writes(0, 11), 2, 0, 0, 0);
            due("the run", x.block(2, 0), 2);
            dueRow("of the same folder", x, () -> x.writes(0, 12), 3, 0, 0, 1);
            due("sealed", x.block(2, 0), 1);
            dueRow("of another folder", x, () -> x.writes(20, 13), 4, 0, 0, 1);
            due("sealed", x.block(3, 0), 1);
            due("the run", x.block(4, 0), 2);
            due("of its folder", x.block(4, 1), 5);
        });
        edge(ONE, "(4) Else, if there is a RUN, of its FOLDER, and its first empty LEAF is that of its PLACE: that is"
                + " written; if it was LEAF 3: the RUN IS SEALED.", () -> {
            FlashFolio x = behind("w0010w0111w0212w0313w0511w0020");
            // home 0, home 1 (folder 1), run 2
            dueRow("of another folder", x, () -> x.writes(5, 21), 3, 0, 0, 0);
            dueRow("leaf 1 is empty before it", x, () -> x.writes(2, 22), 3, 1, 0, 0);
            dueRow("leaf 1", x, () -> x.writes(1, 21), 2, 1, 0, 0);
            dueRow("leaf 1 is written", x, () -> x.writes(1, 23), 4, 0, 0, 0);
            due("for page 1 is hot", x.block(4, 0), 4);
            due("not sealed", x.block(2, 0), 2);
            FlashFolio y = behind("w0010w0111w0212w0313w0020w0121");
            dueRow("leaf 2", y, () -> y.writes(2, 22), 1, 2, 0, 0);
            due("not sealed", y.block(1, 0), 2);
            dueRow("leaf 3", y, () -> y.writes(3, 23), 1, 3, 0, 1);
            due("sealed", y.block(1, 0), 1);
            FlashFolio z = behind("w0010w0111w0212w0313w0020w0121w0222");
            dueRow("3, but no run", behindSeal(z), () -> z.writes(3, 23), 2, 0, 0, 0);
        });
    }

    private static FlashFolio behindSeal(FlashFolio x) {
        due("sealed", x.seals(), 1);
        return x;
    }

    private static void writesToLogs() {
        edge(ONE, "(5) Else it goes to a LOG, HOT if it is HOT (as HEAT is then), else COLD", () -> {
            FlashFolio x = behind("w0110");
            due("heat 2", x.writes(1, 11), 1);
            due("cold", x.block(1, 0), 3);
            due("heat 3 by this write", x.writes(1, 12), 2);
            due("hot", x.block(2, 0), 4);
            x.cools();
            dueRow("heat 2 again", x, () -> x.writes(1, 13), 1, 1, 0, 0);
            dueRow("heat 3 again", x, () -> x.writes(1, 14), 2, 1, 0, 0);
        });
        edge(ONE, "to the first empty LEAF of the last one of that row; if there is none (no such LOG, or it is full): if"
                + " there are COLDS (HOTS) of them, the first of the row IS CLEARED; then a BLOCK is TAKEN: the last of the"
                + " row; LEAF 0 of it is written.", () -> {
            FlashFolio x = behind("w0510");
            x.sets(1, 0);
            for (int i = 0; i < 8; i++) {
                int leaf = i;
                dueRow("leaf " + i, x, () -> x.writes(5, 11 + leaf), 1 + leaf / 4, leaf % 4, 0, 0);
            }
            dueRow("there are 2: the first is cleared, of no latest leaf", x, () -> x.writes(5, 30), 3, 0, 0, 1);
            due("2 again", x.logs(0), 2);
            due("the first", x.row(0), 2);
            due("the last", x.row(1), 3);
            FlashFolio y = behind("w0510");
            y.sets(2, 1);
            for (int i = 0; i < 4; i++) {
                int leaf = i;
                dueRow("leaf " + i, y, () -> y.writes(5, 11 + leaf), 1, leaf, 0, 0);
            }
            // the latest leaf of page 5 is in it: a full merge to block 2, home 0 and the log are wiped, 3 is taken
            dueRow("there is 1 hot one: it is cleared", y, () -> y.writes(5, 30), 3, 0, 1, 2);
            due("one hot log", y.logs(1), 1);
            due("fulls", y.count(6), 1);
            due("value ahead of it is in the home", y.leaf(2, 1, 1), 14);
        });
    }

    private static void writesThatLevel() {
        edge(ONE, "(6) WRITES are 1 more. If some BLOCK was WIPED by this WRITE, and THE RULE (as all is then) is above 0: TO"
                + " LEVEL.", () -> {
            due("0", levelsBy("0"), 0);
            due("1", levelsBy("1"), 1);
            due("-1", levelsBy("-1"), 0);
            due("writes are 6 then", levelsBy("w=6"), 1);
            due("wipes are told then", levelsBy("d=1"), 1);
            FlashFolio x = aboutToSeal();
            x.sheet(2, 16, 0, 9);
            ruleOf(x, "1");
            dueRow("no block is wiped", x, () -> x.writes(1, 0), 1, 1, 0, 0);
            due("homes stay", x.block(0, 0), 1);
            x.sheet(2, 0, 0, 0);
            due("a home is wiped", x.merges(0), 2);
            due("more worn than the other", x.block(0, 4), 1);
            dueRow("that was ahead of this write", x, () -> x.writes(2, 0), 3, 0, 0, 0);
            x.writes(0, 0);
            dueRow("wiped by a question", x, () -> x.costs(0), 7, 2, 3, 1);
            dueRow("that was another one", x, () -> x.costs(1), 0, 0, 4, 0);
        });
    }

    private static void answers() {
        edge(TWO, "numbers told last by a call that says so.", () -> {
            FlashFolio x = behind("w0010w0020");
            x.next();
            x.cools();
            x.sets(2, 9);
            x.sheet(2, 2, 7, 7);
            x.heat(0);
            x.heard(0, 0);
            x.denies();
            x.keep(0);
            x.undo();
            x.again(0);
            ruleOf(x, "1");
            due("row of next()", x.count(11), 2);
            due("wipes then", x.row(0), 0);
            due("free then", x.row(1), 14);
        });
        edge(TWO, "Fractions are told in lowest terms, upper and lower number (0 by 1).", () -> {
            FlashFolio x = behind("w0010w0111w0212w0313");
            dueRow("4 by 4", x, () -> x.swells(), 0, 1, 1);
            dayOf(x, "m0");
            dueRow("8 by 4", x, () -> x.swells(), 0, 2, 1);
            dayOf(x, "w0414w0515");
            dueRow("10 by 6", x, () -> x.swells(), 0, 5, 3);
            x.writes(6, 16);
            dueRow("11 by 7", x, () -> x.swells(), 0, 11, 7);
        });
        edge(TWO, "Refused calls answer NONE, or false, and change nothing but THE TEXT, which a call that reads it empties.",
                () -> {
            FlashFolio x = behind("w0110w0111w0112w0010w0020");
            IntSupplier[] refused = {() -> x.writes(24, 0), () -> x.writes(0, 100), () -> x.reads(24), () -> x.merges(6),
                () -> x.clears(2), () -> x.sets(3, 1), () -> x.sets(0, 4), () -> x.sheet(4, 0, 0, 0), () -> x.copies(24),
                () -> x.heat(24), () -> x.logs(2), () -> x.holds(2), () -> x.costs(24), () -> x.burst(0, 0),
                () -> x.lasts(0, 0), () -> x.cuts(0, 0, 100), () -> x.heard(4, 0), () -> x.years(0, 61)};
            tell(x, "abcd");
            for (int i = 0; i < refused.length; i++) {
                refuses("call " + i, x, refused[i], -1);
            }
            refuses("end", x, () -> x.end(5) ? 1 : 0, 0);
            refuses("keep", x, () -> x.keep(2) ? 1 : 0, 0);
            refuses("again", x, () -> x.again(0) ? 1 : 0, 0);
            due("the text stays", x.count(12), 4);
            refuses("rule", x, () -> x.rule(), -1);
            due("it is empty", x.count(12), 0);
            tell(x, "hx");
            refuses("day", x, () -> x.day(), -2);
            due("it is empty", x.count(12), 0);
            tell(x, "1+");
            refuses("law", x, () -> x.law(1), -10002);
            due("it is empty", x.count(12), 0);
        });
        edge(TWO, "NONE comes ahead of other answers below 0; the ROW stays with each answer below 0 that tells of a refusal,"
                + " or that there is none.", () -> {
            FlashFolio x = new FlashFolio();
            refuses("no such page, none written", x, () -> x.reads(-1), -1);
            refuses("no such row, no log", x, () -> x.clears(-1), -1);
            refuses("no such row, no log", x, () -> x.holds(-1), -1);
            refuses("no such kind, n below 0", x, () -> x.sheet(-1, -1, 0, 0), -1);
            refuses("no such folder, none written", x, () -> x.merges(-1), -1);
            refuses("never written", x, () -> x.reads(0), -2);
            refuses("no leaf", x, () -> x.merges(0), -2);
            refuses("no run", x, () -> x.seals(), -2);
            refuses("no log", x, () -> x.clears(0), -2);
            refuses("no log", x, () -> x.holds(1), -2);
            refuses("nothing to level", x, () -> x.levels(), -2);
            refuses("it is so", x, () -> x.sets(0, 2), -2);
            refuses("n below 0", x, () -> x.sheet(0, -1, 0, 0), -2);
            refuses("no writes", x, () -> x.swells(), -2);
            refuses("in vain", x, () -> x.lasts(0, 999), -2);
            refuses("none to undo", x, () -> x.undo(), -1);
            x.heard(2, 1);
            refuses("none fits", x, () -> x.asks(), -2);
            dayOf(x, "w0110w0111w0112");
            refuses("there are more", x, () -> x.sets(1, 0), -3);
            refuses("it is so, of two", x, () -> x.sets(1, 1), -2);
        });
    }

    private static void questions() {
        edge(TWO, "Questions change nothing.", () -> {
            FlashFolio x = new FlashFolio();
            String[] ahead = new String[9];
            for (int i = 0; i <= 8; i++) {
                ahead[i] = seenOf(x);
                dayOf(x, "w0" + i % 3 + "10w0020w0" + (4 + i % 4) + "30");
            }
            x.heard(0, 0);
            x.sign('h' << 24);
            String before = seenOf(x);
            for (IntSupplier question : questionsOf(x)) {
                question.getAsInt();
                holds("all is as it was", before.equals(seenOf(x)));
            }
            due("to undo", x.count(10), 8);
            due("heard", x.count(9), 1);
            due("text", x.count(12), 4);
            due("colds", x.sets(0, 2), -2);
            due("hots", x.sets(1, 1), -2);
            due("warm", x.sets(2, 3), -2);
            for (int i = 8; i >= 1; i--) {
                due("undone", x.undo(), i - 1);
                holds("as ahead of day " + i, ahead[i].equals(seenOf(x)));
            }
        });
    }

    private static IntSupplier[] questionsOf(FlashFolio x) {
        return new IntSupplier[] {() -> x.reads(0), () -> x.copies(0), () -> x.stale(), () -> x.hot(), () -> x.heat(0),
            () -> x.next(), () -> x.logs(0), () -> x.logs(1), () -> x.holds(0), () -> x.holds(1), () -> x.spread(),
            () -> x.costs(0), () -> x.costs(23), () -> x.worst(), () -> x.burst(0, 24), () -> x.lasts(0, 3),
            () -> x.lasts(0, 999), () -> x.cuts(0, 9, 0), () -> x.cuts(0, 9, 99), () -> x.swells(), () -> x.fits(),
            () -> x.asks(), () -> x.years(5, 60), () -> x.sum(), () -> x.count(0)};
    }
}
