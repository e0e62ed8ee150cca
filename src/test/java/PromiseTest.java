import java.util.function.IntSupplier;

/** For each promise of the document what it tells by itself: ordinary inputs, the edges it names, wrong inputs. */
public final class PromiseTest extends Checks {
    public static void main(String[] args) {
        newObject();
        signs();
        ends();
        rules();
        rulesThatDecide();
        blocks();
        leaves();
        sheets();
        writes();
        writesToLogs();
        writesThatLevel();
        reads();
        merges();
        seals();
        clears();
        levels();
        cools();
        sets();
        days();
        undoes();
        copies();
        stale();
        hot();
        next();
        logs();
        holdsOfLogs();
        spread();
        costs();
        worst();
        burst();
        lasts();
        cuts();
        swells();
        heard();
        fitsAndAsks();
        law();
        years();
        sum();
        keeps();
        counts();
        rows();
        questions();
        close("all promises are kept");
    }

    private static void newObject() {
        promise(1);
        FlashFolio x = new FlashFolio();
        due("free blocks", x.count(0), 65535);
        due("NONE", FlashFolio.NONE, -1);
        for (int b = 0; b < 16; b++) {
            for (int what = 0; what < 5; what++) {
                due("block(" + b + ", " + what + ")", x.block(b, what), 0);
            }
        }
        for (int what = 1; what <= 12; what++) {
            due("count(" + what + ")", x.count(what), 0);
        }
        due("colds are 2", x.sets(0, 2), -2);
        due("hots are 1", x.sets(1, 1), -2);
        due("warm is 3", x.sets(2, 3), -2);
    }

    private static void signs() {
        promise(2);
        FlashFolio x = new FlashFolio();
        for (int n = 4; n <= 80; n += 4) {
            due("sign", x.sign(-1), n);
        }
        due("one too many", x.sign(0), -1);
        due("text", x.count(12), 80);
        x.end(77);
        due("77 and 4", x.sign(0), -1);
        x.end(76);
        due("76 and 4", x.sign(0), 80);
        x.end(0);
        // d>4 with a 0 behind it: the highest byte comes first
        x.sign('d' << 24 | '>' << 16 | '4' << 8);
        due("rule", x.rule(), -4);
        x.sign(0x80643e34);
        due("a sign above 127", x.rule(), -1);
    }

    private static void ends() {
        promise(3);
        FlashFolio x = new FlashFolio();
        holds("end(0) of none", x.end(0));
        holds("end(1) of none", !x.end(1));
        x.sign(0x64646464);
        holds("end(5)", !x.end(5));
        holds("end(-1)", !x.end(-1));
        due("as before", x.count(12), 4);
        holds("end(4)", x.end(4));
        holds("end(1)", x.end(1));
        due("shorter", x.count(12), 1);
        due("d alone is a rule", x.rule(), 0);
    }

    private static void rules() {
        promise(4);
        FlashFolio x = new FlashFolio();
        for (String fine : new String[] {"d>4", "", "0", "999", "--d", "1---1", "2*-3", "d<f", "(d<f)=(w>c)", "l+s-1*2/3",
            "((((1))))", "(1<2)<3", "-(-1)", "1=1+1", "s"}) {
            due("rule " + fine, ruleOf(x, fine), 0);
            due("text is empty", x.count(12), 0);
        }
        due("ends too early", ruleOf(x, "d>"), -3);
        due("two comparisons", ruleOf(x, "1<2<3"), -4);
        due("two comparisons behind a sum", ruleOf(x, "1<2+3=4"), -6);
        due("two comparisons in ( )", ruleOf(x, "(1<2>3)"), -5);
        due("comparison in ( ) is its own", ruleOf(x, "1<(2<3)<4"), -8);
        due("a second pair has its own", ruleOf(x, "(1<2)+(3<4)"), 0);
        due("four digits", ruleOf(x, "1234"), -4);
        due("digit behind )", ruleOf(x, "(1)2"), -4);
        due("digit behind a thing", ruleOf(x, "d2"), -2);
        due("thing behind a number", ruleOf(x, "2d"), -2);
        due("closed too often", ruleOf(x, "(d))"), -4);
        due("not closed", ruleOf(x, "((d)"), -5);
        due("nothing in ( )", ruleOf(x, "()"), -2);
        due("plus ahead", ruleOf(x, "+1"), -1);
        due("times minus nothing", ruleOf(x, "1*-"), -4);
        due("a blank", ruleOf(x, "d >4"), -2);
        due("another letter", ruleOf(x, "n"), -1);
        due("another letter behind", ruleOf(x, "dn"), -2);
        due("five deep", ruleOf(x, "1+(1+(1+(1+(1+(1"), -15);
        String forty = "1+1+1+1+1+1+1+1+1+1+1+1+1+1+1+1+1+1+1+11";
        due("40 signs", forty.length(), 40);
        due("a rule of 40", ruleOf(x, forty), 0);
        due("41 that could go on", ruleOf(x, forty + "1"), -41);
        due("41, wrong at 40", ruleOf(x, forty + "z"), -41);
        due("80, wrong at 39", ruleOf(x, forty.substring(0, 39) + "z" + forty), -40);
        due("40 that end too early", ruleOf(x, forty.substring(0, 39) + "+"), -41);
        due("41, the first 40 could go on", ruleOf(x, forty.substring(0, 39) + "+1"), -41);
        due("80 signs -", ruleOf(x, "-".repeat(80)), -41);
    }

    private static void rulesThatDecide() {
        promise(4);
        // behind the write of page 0: the home of before was wiped, so it has 1 wipe; run 1 is home with 0
        // d = 1, f = 14, w = 6, c = 3, l = 0, s = 1 (page 0 in the home, newer in the run)
        String[] above = {"1", "d=1", "f=14", "w=6", "c=3", "l=0", "s=1", "2-1", "--1", "2*3-5", "7/2=3", "-7/2=-3",
            "1/0=0", "(1+2)*3=9", "1+2*3=7", "10-3-2=5", "100/5/2=10", "1<2", "2>1", "-1+2", "-2*-3=6", "2--3=5",
            "(1<2)+(3<4)=2", "(2>1)+(1=1)=2", "12=12", "123=123", "((((d))))"};
        String[] notAbove = {"0", "-1", "d>4", "d=0", "1<1", "1>1", "2=1", "1-2", "0*5", "5/0", "1-1", "-(1)", "-1*1"};
        for (String rule : above) {
            due("levels by " + rule, levelsBy(rule), 1);
        }
        for (String rule : notAbove) {
            due("levels by " + rule, levelsBy(rule), 0);
        }
        // 999 to the fourth is 996005996001, as an int below 0
        due("ints go round", levelsBy("999*999*999*999"), 0);
        due("ints go round, told", levelsBy("999*999*999*999<0"), 1);
        FlashFolio x = aboutToSeal();
        ruleOf(x, "1");
        due("a wrong one", ruleOf(x, "z"), -1);
        x.costs(0);
        due("leaves the rule", x.row(2), 1);
        due("an empty one", x.rule(), 0);
        x.costs(0);
        due("is d>4", x.row(2), 0);
        x.sheet(2, 1, 5, 0);
        x.costs(0);
        due("d>4 levels", x.row(2), 1);
        x.sheet(2, 1, 4, 0);
        x.costs(0);
        due("5 is above 4", x.row(2), 1);
        x.sheet(2, 1, 3, 0);
        x.costs(0);
        due("4 is not", x.row(2), 0);
        // page 9: home, one leaf in a cold log, four in a hot one; then a partial merge with page 0
        FlashFolio y = aboutToSeal();
        dayOf(y, "w0930w0931w0932w0933w0934w0935");
        due("11 writes", y.count(1), 11);
        for (String rule : new String[] {"w=2", "l=2", "c=3", "s=6", "f=11"}) {
            ruleOf(y, rule);
            y.costs(0);
            due("levels by " + rule, y.row(2), 1);
        }
        dayOf(y, "m0m0m0");
        due("12 copies", y.count(2), 12);
        y.writes(0, 1);
        ruleOf(y, "c=5");
        y.costs(0);
        due("c is a rest", y.row(2), 1);
    }

    private static void blocks() {
        promise(5);
        FlashFolio x = behind("w0510w0511", "w0512w0413", "w0414w0415");
        // home of folder 1: block 0; page 5: cold log 1, then (heat 3) hot log 2; page 4: home, run 3, sealed, run
        due("home", x.block(3, 0), 1);
        due("its folder", x.block(3, 1), 1);
        due("cold", x.block(1, 0), 3);
        due("hot", x.block(2, 0), 4);
        due("its number", x.block(2, 1), 0);
        due("run", x.block(4, 0), 2);
        due("its folder", x.block(4, 1), 1);
        due("written", x.block(3, 2), 3);
        due("latest", x.block(3, 3), 2);
        due("not the latest in the log", x.block(2, 3), 0);
        due("latest in the run", x.block(4, 3), 1);
        due("wipes", x.block(0, 4), 1);
        due("free", x.block(0, 0), 0);
        due("folder of a free one", x.block(0, 1), 0);
        refusesBy("block(-1, 0)", () -> x.block(-1, 0));
        refusesBy("block(16, 0)", () -> x.block(16, 0));
        refusesBy("block(0, -1)", () -> x.block(0, -1));
        refusesBy("block(0, 5)", () -> x.block(0, 5));
        FlashFolio y = new FlashFolio();
        y.sets(1, 0);
        dayOf(y, "w0110w0111w0112w0113w0114w0115");
        due("second cold log", y.block(2, 0), 3);
        due("its number in its row", y.block(2, 1), 1);
    }

    private static void leaves() {
        promise(6);
        FlashFolio x = behind("w0799w0601");
        due("page", x.leaf(0, 3, 0), 7);
        due("value", x.leaf(0, 3, 1), 99);
        due("stamp", x.leaf(0, 3, 2), 1);
        due("page", x.leaf(0, 2, 0), 6);
        due("value", x.leaf(0, 2, 1), 1);
        due("stamp", x.leaf(0, 2, 2), 2);
        refusesBy("an empty leaf", () -> x.leaf(0, 0, 0));
        refusesBy("leaf(0, 3, 3)", () -> x.leaf(0, 3, 3));
        refusesBy("leaf(0, 3, -1)", () -> x.leaf(0, 3, -1));
        refusesBy("leaf(0, 4, 0)", () -> x.leaf(0, 4, 0));
        x.writes(8, 1);
        refusesBy("leaf(0, 4, 0), which is no leaf of block 1", () -> x.leaf(0, 4, 0));
        refusesBy("leaf(0, -1, 0)", () -> x.leaf(0, -1, 0));
        refusesBy("leaf(16, 0, 0)", () -> x.leaf(16, 0, 0));
        refusesBy("leaf(-1, 3, 0)", () -> x.leaf(-1, 3, 0));
    }

    private static void sheets() {
        promise(7);
        FlashFolio x = new FlashFolio();
        due("ints", x.sheet(2, 3, 5, 1), 18);
        due("last", x.block(2, 4), 7);
        due("behind", x.block(3, 4), 0);
        due("bytes have a sign", x.sheet(0, 3, 126, 1), 253);
        due("byte 128", x.block(2, 4), 0);
        due("bytes go round", x.sheet(0, 2, 256 + 9, 0), 18);
        due("shorts", x.sheet(1, 2, 65536 + 500, 600), 1499);
        due("short above 999", x.block(1, 4), 999);
        due("short with its sign", x.sheet(1, 2, 32767, 1), 999);
        due("ints below 0", x.sheet(2, 2, -5, 10), 5);
        due("ints go round", x.sheet(2, 2, Integer.MAX_VALUE, 1), 999);
        due("all", x.sheet(2, 16, 999, 0), 16 * 999);
        due("n below 0", x.sheet(1, -1, 0, 0), -2);
        due("nothing changed", x.block(15, 4), 999);
        due("n above 16", x.sheet(0, 17, 0, 0), -1);
        due("n above 16, missing", x.sheet(3, 17, 0, 0), -1);
        due("kind 4", x.sheet(4, -1, 0, 0), -1);
        due("kind -1", x.sheet(-1, 1, 0, 0), -1);
        due("nothing changed", x.block(15, 4), 999);
        due("missing", x.sheet(3, -5, 3, 3), -3);
        due("all are 0", x.block(15, 4), 0);
        due("none of 16", x.sheet(0, 0, 9, 9), 0);
        due("nothing to undo", x.count(10), 0);
        due("nothing counted", x.count(3), 0);
        x.sheet(2, 1, 3, 0);
        x.writes(0, 0);
        x.sheet(2, 2, 9, 0);
        due("undo", x.undo(), 0);
        due("wipes as ahead of the write", x.block(0, 4), 3);
        due("and of the other", x.block(1, 4), 0);
        x.sheet(2, 1, 999, 0);
        x.writes(0, 0);
        due("the next one is taken", x.block(1, 0), 1);
        dueRow("999 is the most", x, () -> x.merges(0), 2, 1, 1);
        due("one more than 0", x.block(1, 4), 1);
    }

    private static void writes() {
        promise(8);
        FlashFolio x = new FlashFolio();
        dueRow("home", x, () -> x.writes(2, 50), 0, 2, 0, 0);
        dueRow("its other leaf", x, () -> x.writes(0, 51), 0, 0, 0, 0);
        dueRow("a run", x, () -> x.writes(0, 52), 1, 0, 0, 0);
        dueRow("home still, not the run", x, () -> x.writes(1, 53), 0, 1, 0, 0);
        dueRow("along the run", x, () -> x.writes(1, 54), 1, 1, 0, 0);
        dueRow("along the run", x, () -> x.writes(2, 55), 1, 2, 0, 0);
        dueRow("home of the last", x, () -> x.writes(3, 56), 0, 3, 0, 0);
        dueRow("a switch", x, () -> x.writes(3, 57), 1, 3, 0, 1);
        due("switches", x.count(4), 1);
        due("the run is home", x.block(1, 0), 1);
        due("no run", x.seals(), -2);
        dueRow("a new run", x, () -> x.writes(0, 58), 2, 0, 0, 0);
        dueRow("partial, and a new run", x, () -> x.writes(0, 59), 3, 0, 3, 1);
        due("partials", x.count(5), 1);
        dueRow("page 4 has a home of its own", x, () -> x.writes(4, 60), 4, 0, 0, 0);
        dueRow("the run of another folder is sealed", x, () -> x.writes(4, 61), 5, 0, 3, 1);
        due("page 24", x.writes(24, 0), -1);
        due("page -1", x.writes(-1, 0), -1);
        due("value 100", x.writes(0, 100), -1);
        due("value -1", x.writes(0, -1), -1);
        due("row stays", x.row(1), 3);
        due("writes", x.count(1), 12);
        due("stamps", x.count(8), 12);
        due("heat", x.heat(0), 4);
        for (int i = 0; i < 100; i++) {
            x.writes(5, i % 100);
        }
        due("no more heat", x.heat(5), 99);
    }

    private static void writesToLogs() {
        promise(8);
        FlashFolio x = behind("w0110w0111", "w0510w0511");
        due("one cold log", x.logs(0), 1);
        dueRow("its next leaf", x, () -> x.writes(5, 12), 3, 0, 0, 0);
        due("for heat 3 is hot", x.block(3, 0), 4);
        dueRow("hots fill", x, () -> x.writes(5, 13), 3, 1, 0, 0);
        x.writes(1, 12);
        x.writes(1, 13);
        due("full", x.block(3, 2), 15);
        due("latest of both pages", x.block(3, 3), 10);
        // the only hot log is cleared: folder 0 is merged to block 4 (home 0 wiped), folder 1 to 5 (home 2 wiped)
        dueRow("cleared", x, () -> x.writes(1, 14), 6, 0, 2, 3);
        due("fulls", x.count(6), 2);
        due("one hot log", x.logs(1), 1);
        due("it", x.row(0), 6);
        due("read", x.reads(5), 13);
        due("in its home", x.row(0), 5);
        due("by 0 hots all are cold", x.clears(1), 1);
        x.sets(1, 0);
        dueRow("cold now", x, () -> x.writes(5, 15), 1, 2, 0, 0);
        x.writes(5, 16);
        due("cold log full", x.block(1, 2), 15);
        int second = x.writes(5, 17);
        due("a second one", x.logs(0), 2);
        due("behind the first", x.row(1), second);
        for (int i = 0; i < 3; i++) {
            x.writes(5, 18 + i);
        }
        dueRow("the first goes, of no latest leaf", x, () -> x.writes(5, 30), x.next(), 0, 0, 1);
        due("the second is first", x.block(second, 1), 0);
        // a run that goes not on: page 2 is not behind leaf 0
        FlashFolio y = behind("w0010w0111w0212w0020");
        dueRow("page 2 to a log", y, () -> y.writes(2, 13), 2, 0, 0, 0);
        dueRow("page 1 to the run", y, () -> y.writes(1, 14), 1, 1, 0, 0);
        dueRow("page 1 again, hot by now, to another", y, () -> y.writes(1, 15), 3, 0, 0, 0);
        // a full merge to block 4; home 0 and run 1 are wiped, so that block 5 has fewer wipes
        dueRow("the run can only be merged full", y, () -> y.writes(0, 16), 5, 0, 3, 2);
        due("fulls", y.count(6), 1);
    }

    private static void writesThatLevel() {
        promise(8);
        FlashFolio x = aboutToSeal();
        x.sheet(2, 1, 4, 0);
        // block 0 (home, 4 wipes) is wiped by the partial merge: 5 wipes, free; d = 5 > 4: run 1, home with 0
        // wipes, goes to block 0; 3 copies by the merge, 4 by levelling
        dueRow("levelled", x, () -> x.writes(0, 30), 2, 0, 7, 2);
        due("home by it", x.block(0, 0), 1);
        due("the one before", x.block(1, 0), 0);
        due("its wipes", x.block(1, 4), 1);
        due("read", x.reads(0), 30);
        due("read", x.reads(1), 11);
        FlashFolio y = aboutToSeal();
        y.sheet(2, 16, 0, 50);
        dueRow("nothing wiped: no rule is asked", y, () -> y.writes(1, 30), 1, 1, 0, 0);
    }

    private static void reads() {
        promise(9);
        FlashFolio x = behind("w2310w2311");
        dueRow("latest", x, () -> x.reads(23), 11, 1, 0, 2);
        due("never written", x.reads(22), -2);
        due("page 24", x.reads(24), -1);
        due("page -1", x.reads(-1), -1);
        due("row stays", x.row(2), 2);
        x.merges(5);
        dueRow("of equal stamps that in the home", x, () -> x.reads(23), 11, 2, 3, 2);
    }

    private static void merges() {
        promise(10);
        FlashFolio x = behind("w0410w0511w0412w0512");
        dueRow("home and run go", x, () -> x.merges(1), 2, 2, 2);
        due("no run", x.seals(), -2);
        due("home", x.block(2, 1), 1);
        due("leaf", x.leaf(2, 1, 1), 12);
        due("stamp is copied", x.leaf(2, 1, 2), 4);
        due("fulls", x.count(6), 1);
        due("no leaf", x.merges(0), -2);
        due("folder 6", x.merges(6), -1);
        due("folder -1", x.merges(-1), -1);
        due("row stays", x.row(0), 2);
        dueRow("again, home alone", x, () -> x.merges(1), 3, 2, 1);
    }

    private static void seals() {
        promise(11);
        FlashFolio x = behind("w0010w0111w0212w0020");
        dueRow("partial", x, () -> x.seals(), 1, 2, 1);
        due("run is home", x.block(1, 0), 1);
        due("partials", x.count(5), 1);
        due("none", x.seals(), -2);
        due("row stays", x.row(0), 2);
        FlashFolio y = behind("w0010w0111w0020w0121w0122");
        dueRow("full", y, () -> y.seals(), 2, 2, 2);
        due("fulls", y.count(6), 1);
        due("read", y.reads(1), 22);
        FlashFolio z = behind("w0010w0020");
        dueRow("partial without copies", z, () -> z.seals(), 1, 0, 1);
    }

    private static void clears() {
        promise(12);
        FlashFolio x = behind("w0110w0111w0510w0511w0612w0613");
        due("cold logs", x.logs(0), 1);
        due("in it pages 1, 5, 6", x.block((int) x.row(0), 2), 7);
        dueRow("two folders", x, () -> x.clears(0), 2, 3, 3);
        due("no log", x.logs(0), 0);
        due("none", x.clears(0), -2);
        due("no hot one", x.clears(1), -2);
        due("row 2", x.clears(2), -1);
        due("row -1", x.clears(-1), -1);
        FlashFolio y = behind("w0110w0111w0112w0113");
        dueRow("hot", y, () -> y.clears(1), 1, 1, 2);
        dueRow("cold, nothing latest", y, () -> y.clears(0), 0, 0, 1);
    }

    private static void levels() {
        promise(13);
        FlashFolio x = behind("w0010w0111w0412");
        due("no wipes", x.levels(), -2);
        x.sheet(2, 6, 3, 0);
        due("free ones have 3 at most", x.levels(), -2);
        x.sheet(2, 6, 1, 1);
        // homes 0 (1 wipe), 1 (2 wipes); free ones 2 .. 5 have 3 .. 6
        dueRow("the most worn", x, () -> x.levels(), 5, 0);
        due("copies", x.count(2), 2);
        due("wiped", x.count(3), 1);
        due("home", x.block(5, 1), 0);
        due("leaf", x.leaf(5, 1, 1), 11);
        due("wipes", x.block(0, 4), 2);
        FlashFolio y = new FlashFolio();
        y.sheet(2, 16, 0, 1);
        FlashFolio ties = behind("w0010w0411");
        ties.sheet(2, 16, 3, 0);
        ties.sheet(2, 4, 0, 0);
        due("all are 0", ties.levels(), -2);
        ties.sheet(0, 12, 0, 64);
        // 0, 64, -128, -64, 0, 64, ..: block 1 (home) has 64, free ones 5 and 9 have 64
        dueRow("of equal free ones the least", ties, () -> ties.levels(), 5, 0);
        ties.undo();
        ties.sheet(2, 16, 0, 0);
        ties.merges(1);
        dueRow("of equal homes the least", ties, () -> ties.levels(), 1, 0);
        due("no home", y.levels(), -2);
        FlashFolio z = behind("w0010w0411");
        z.sheet(2, 4, 0, 0);
        z.sheet(2, 16, 7, 0);
        due("as many", z.levels(), -2);
        x.sheet(2, 16, 9, 0);
        due("as many", x.levels(), -2);
    }

    private static void cools() {
        promise(14);
        FlashFolio x = behind("w0110w0110w0110w0110w0110w0110w0110w0210w0210w0210");
        due("7 to 3, 3 to 1", x.cools(), 1);
        due("page 0 is not yet written", x.heat(0), 0);
        due("3", x.heat(1), 3);
        due("1", x.heat(2), 1);
        due("3 to 1", x.cools(), 0);
        x.sets(2, 1);
        x.undo();
        due("undone", x.undo(), 1 + x.count(10) - 1);
        due("heat is back", x.heat(1), 3);
        FlashFolio y = behind("w0110w0110w0110w0110w0110w0110w0110");
        y.clears(1);
        y.sets(1, 0);
        due("without hots none is hot", y.cools(), 0);
        FlashFolio z = behind("w0010w0010w0010w0010w0010w0010w2310w2310w2310w2310w2310w2310");
        due("the first page and the last", z.cools(), 2);
        due("first", z.heat(0), 3);
        due("last", z.heat(23), 3);
    }

    private static void sets() {
        promise(15);
        FlashFolio x = new FlashFolio();
        due("colds 3", x.sets(0, 3), 12);
        due("colds 1", x.sets(0, 1), 13);
        due("colds 0", x.sets(0, 0), -1);
        due("colds 4", x.sets(0, 4), -1);
        due("hots 2", x.sets(1, 2), 11);
        due("hots 0", x.sets(1, 0), 12);
        due("hots 3", x.sets(1, 3), -1);
        due("hots -1", x.sets(1, -1), -1);
        due("warm 9", x.sets(2, 9), 13);
        due("warm 1", x.sets(2, 1), 19);
        due("warm 0", x.sets(2, 0), -1);
        due("warm 10", x.sets(2, 10), -1);
        due("what 3", x.sets(3, 1), -1);
        due("what -1", x.sets(-1, 1), -1);
        due("it is so", x.sets(2, 1), -2);
        due("done ones can be undone", x.count(10), 6);
        FlashFolio y = behind("w0110w0110w0110");
        due("there is a hot log", y.sets(1, 0), -3);
        due("and two may be", y.sets(1, 2), 11);
        FlashFolio z = new FlashFolio();
        z.sets(1, 0);
        dayOf(z, "w0110w0110w0110w0110w0110w0110");
        due("two cold ones", z.logs(0), 2);
        due("there are more", z.sets(0, 1), -3);
    }

    private static void days() {
        promise(16);
        FlashFolio x = new FlashFolio();
        tell(x, "w0010w0011qm0l");
        // w: home 0; w: run 1; q: partial, 0 copies, 0 wiped; m: home 2, 1 copy, 1 wiped; l: free 0 (1 wipe), home 2
        dueRow("a day", x, () -> x.day(), 5, 0, 2, 3);
        due("text is empty", x.count(12), 0);
        due("as one", x.count(10), 1);
        tell(x, "hw0510w2400w0010");
        dueRow("till one is refused", x, () -> x.day(), 2, 1, 0, 0);
        due("kept", x.count(10), 2);
        tell(x, "m6h");
        dueRow("none done", x, () -> x.day(), 0, 1, 0, 0);
        due("not kept", x.count(10), 2);
        tell(x, "");
        dueRow("an empty one", x, () -> x.day(), 0, 0, 0, 0);
        due("not kept", x.count(10), 2);
        due("c0 without a log", dayOf(x, "c0"), 0);
        due("refused", x.row(0), 1);
        FlashFolio both = behind("w0110w0111w0112w0113");
        due("hot", dayOf(both, "c1"), 1);
        due("hot is gone", both.logs(1), 0);
        due("cold is not", both.logs(0), 1);
        due("cold", dayOf(both, "hc0"), 2);
        due("cold is gone", both.logs(0), 0);
        due("c2", dayOf(x, "hc2"), -3);
        due("row stays", x.row(0), 1);
        due("nothing is done", x.count(10), 2);
        due("text is empty", x.count(12), 0);
        due("w00x0", dayOf(x, "w00x0"), -4);
        due("too early", dayOf(x, "hhw001"), -7);
        due("m", dayOf(x, "m"), -2);
        due("c", dayOf(x, "c"), -2);
        due("another sign", dayOf(x, "qx"), -2);
        due("a digit alone", dayOf(x, "h1"), -2);
        due("80 signs", dayOf(x, "w0100w0200w0300w0100w0200w0300w0100w0200w0300w0100w0200w0300w0100w0200w0300w0100"), 16);
        due("writes", x.count(1), 2 + 1 + 16);
    }

    private static void undoes() {
        promise(17);
        FlashFolio x = new FlashFolio();
        due("none", x.undo(), -1);
        String[] seen = new String[13];
        for (int i = 0; i < 12; i++) {
            seen[i] = seenOf(x);
            x.writes(i % 5, i);
        }
        seen[12] = seenOf(x);
        due("8 are kept", x.count(10), 8);
        due("refused ones are not", x.writes(24, 0), -1);
        due("still as it is", x.reads(0), 10);
        for (int i = 11; i >= 4; i--) {
            due("undo", x.undo(), i - 4);
            holds("as ahead of write " + i, seenOf(x).equals(seen[i]));
        }
        due("none", x.undo(), -1);
        FlashFolio each = behind("w0110w0111w0112w0410w0411");
        each.sheet(2, 16, 0, 1);
        String ahead = seenOf(each);
        for (IntSupplier act : new IntSupplier[] {() -> each.writes(1, 5), () -> each.merges(1), () -> each.seals(),
            () -> each.clears(0), () -> each.clears(1), () -> each.levels(), () -> each.cools(), () -> each.sets(2, 1),
            () -> dayOf(each, "hm0l")}) {
            holds("done", act.getAsInt() >= 0);
            holds("changed", !ahead.equals(seenOf(each)) || each.sets(2, 1) == -2);
            due("undone", each.undo(), 1);
            holds("all is back", ahead.equals(seenOf(each)) && each.sets(2, 3) == -2);
        }
        String[] long30 = new String[31];
        FlashFolio round = new FlashFolio();
        for (int i = 0; i <= 30; i++) {
            long30[i] = seenOf(round);
            round.writes(i % 7, i);
        }
        for (int i = 30; i > 22; i--) {
            round.undo();
            holds("as ahead of " + i, long30[i].equals(seenOf(round)));
        }
        x.heard(0, 1);
        ruleOf(x, "1");
        x.keep(0);
        tell(x, "abcd");
        x.writes(0, 77);
        x.sum();
        long told = x.row(0);
        x.undo();
        due("row stays", x.row(0), told);
        due("heard stays", x.count(9), 1);
        due("text stays", x.count(12), 4);
        holds("kept stays", x.again(0));
        FlashFolio y = new FlashFolio();
        y.sets(0, 3);
        y.sets(2, 9);
        y.cools();
        dayOf(y, "w0010w0111w0212");
        due("undo a day", y.undo(), 3);
        due("no leaf", y.count(7), 0);
        y.undo();
        y.undo();
        due("warm is 3 again", y.sets(2, 3), -2);
        due("colds are 3 still", y.sets(0, 3), -2);
        y.undo();
        due("colds are 2", y.sets(0, 2), -2);
    }

    private static void copies() {
        promise(18);
        FlashFolio x = new FlashFolio();
        dueRow("none", x, () -> x.copies(5), 0);
        x.sets(1, 0);
        x.sets(0, 3);
        for (int i = 0; i < 4; i++) {
            x.writes(5, i);
        }
        // home 0, log 1
        dueRow("from the latest on", x, () -> x.copies(5), 4, 6, 5, 4, 1);
        x.merges(1);
        // home 2 has the leaf of log 1 with the same stamp
        dueRow("of equal ones the least first", x, () -> x.copies(5), 4, 6, 9, 5, 4);
        for (int i = 0; i < 9; i++) {
            x.writes(5, i);
        }
        due("13 of them", x.copies(5), 13);
        due("the first 12", x.count(11), 12);
        due("page 24", x.copies(24), -1);
        due("page -1", x.copies(-1), -1);
        due("row stays", x.count(11), 12);
    }

    private static void stale() {
        promise(19);
        FlashFolio x = behind("w0110w0111");
        dueRow("one", x, () -> x.stale(), 1, 0, 1);
        x.writes(1, 12);
        x.writes(5, 13);
        x.writes(5, 14);
        dueRow("of as many the least", x, () -> x.stale(), 3, 0, 1);
        x.writes(5, 15);
        dueRow("the most", x, () -> x.stale(), 4, 1, 2);
        dueRow("none", new FlashFolio(), () -> 0, 0);
        FlashFolio y = behind("w0110");
        dueRow("nothing without", y, () -> y.stale(), 0);
    }

    private static void hot() {
        promise(20);
        FlashFolio x = behind("w0110w0110w0110w0210w0210w0210w0310w0310w0010");
        dueRow("pages 1, 2", x, () -> x.hot(), 6, 2, 1, 3);
        x.writes(2, 0);
        dueRow("the most", x, () -> x.hot(), 6, 2, 2, 4);
        x.sets(2, 2);
        dueRow("warm is 2", x, () -> x.hot(), 14, 3, 2, 4);
        x.clears(1);
        x.sets(1, 0);
        dueRow("without hots", x, () -> x.hot(), 0, 0, 2, 4);
        promise(21);
        due("heat", x.heat(2), 4);
        FlashFolio y = behind("w0010w0010w0010w2310w2310w2310");
        promise(20);
        dueRow("the first page and the last", y, () -> y.hot(), 1 | 1 << 23, 2, 0, 3);
        promise(21);
        due("heat", x.heat(3), 2);
        due("heat of none", x.heat(23), 0);
        due("page 24", x.heat(24), -1);
        due("page -1", x.heat(-1), -1);
    }

    private static void next() {
        promise(22);
        FlashFolio x = behind("w0010");
        dueRow("the least", x, () -> x.next(), 1, 0, 15);
        x.sheet(2, 16, 20, -1);
        dueRow("the fewest wipes", x, () -> x.next(), 15, 5, 15);
        x.sheet(2, 16, 3, 0);
        dueRow("of equal ones the least", x, () -> x.next(), 1, 3, 15);
    }

    private static void logs() {
        promise(23);
        FlashFolio x = new FlashFolio();
        dueRow("none", x, () -> x.logs(0), 0);
        x.sets(1, 0);
        dayOf(x, "w0110w0110w0110w0110w0110w0110");
        dueRow("in their order", x, () -> x.logs(0), 2, 1, 2);
        dayOf(x, "w0110w0110w0110w0110");
        dueRow("block 1 was wiped, 3 is taken", x, () -> x.logs(0), 2, 2, 3);
        dueRow("no hot ones", x, () -> x.logs(1), 0);
        due("row 2", x.logs(2), -1);
        due("row -1", x.logs(-1), -1);
        FlashFolio y = behind("w0110w0110w0110");
        dueRow("hot", y, () -> y.logs(1), 1, 2);
    }

    private static void holdsOfLogs() {
        promise(24);
        FlashFolio x = behind("w0110w0111w0510w0511w0410w0210");
        // log 1: pages 1, 5, both the latest; folder 0 has pages 1, 2, folder 1 pages 4, 5
        dueRow("folders 0, 1", x, () -> x.holds(0), 3, 2, 4);
        due("none", x.holds(1), -2);
        due("row 2", x.holds(2), -1);
        due("row -1", x.holds(-1), -1);
        due("row stays", x.row(1), 4);
        String before = seenOf(x);
        x.holds(0);
        holds("nothing changed", before.equals(seenOf(x)));
        due("clears() does so", x.clears(0), 2);
        due("copies", x.row(0), 4);
    }

    private static void spread() {
        promise(25);
        FlashFolio x = new FlashFolio();
        dueRow("none", x, () -> x.spread(), 0, 0, 0, 0);
        x.sheet(2, 4, 9, -3);
        dueRow("9, 6, 3, 0", x, () -> x.spread(), 9, 0, 3, 18);
        x.sheet(2, 16, 20, -1);
        dueRow("20 .. 5", x, () -> x.spread(), 15, 0, 15, 200);
        x.sheet(0, 16, 0, 20);
        // 0, 20, .., 120, then below 0 (140 is -116) till 260: 4, 24, 44
        dueRow("bytes", x, () -> x.spread(), 120, 6, 0, 0 + 20 + 40 + 60 + 80 + 100 + 120 + 4 + 24 + 44);
    }

    private static void costs() {
        promise(26);
        FlashFolio x = behind("w0010w0111w0212");
        dueRow("(2)", x, () -> x.costs(3), 0, 0, 2, 0);
        dueRow("(3)", x, () -> x.costs(0), 0, 0, 3, 0);
        dueRow("(5)", x, () -> x.costs(1), 0, 0, 5, 0);
        x.writes(0, 11);
        dueRow("(4)", x, () -> x.costs(1), 0, 0, 4, 0);
        dueRow("(3) with a seal", x, () -> x.costs(0), 2, 1, 3, 0);
        ruleOf(x, "1");
        dueRow("(3) and levelled", x, () -> x.costs(0), 5, 2, 3, 1);
        dueRow("a folder without a home", x, () -> x.costs(8), 0, 0, 2, 0);
        due("page 24", x.costs(24), -1);
        due("page -1", x.costs(-1), -1);
        due("nothing written", x.count(1), 4);
        due("nothing heated", x.heat(8), 0);
        FlashFolio y = aboutToSeal();
        ruleOf(y, "1");
        y.sheet(2, 16, 999, 0);
        dueRow("a rule above 0, but nothing to level", y, () -> y.costs(0), 3, 1, 3, 0);
        y.merges(0);
        dueRow("of this write alone", y, () -> y.costs(0), 0, 0, 3, 0);
    }

    private static void worst() {
        promise(27);
        FlashFolio x = new FlashFolio();
        dueRow("nothing: the least page", x, () -> x.worst(), 0, 0, 0);
        dayOf(x, "w0410w0511w0412");
        dueRow("a seal", x, () -> x.worst(), 4, 1, 1);
        dayOf(x, "w0010w0111w0212w0313");
        dueRow("page 0 seals the run of folder 1, too", x, () -> x.worst(), 0, 1, 1);
        dayOf(x, "w0613w0613w0614w0614w0614w0614");
        // the hot log (pages 6) is full: page 6 clears it by a full merge of folder 1: 3 copies, home, run, log
        dueRow("a log", x, () -> x.worst(), 6, 3, 3);
        due("nothing done", x.count(1), 3 + 4 + 6);
    }

    private static void burst() {
        promise(28);
        FlashFolio x = new FlashFolio();
        dueRow("new", x, () -> x.burst(0, 24), 0, 0, 0, 0, 0);
        dayOf(x, "w0010w0111w0212w0313");
        dueRow("a switch", x, () -> x.burst(0, 4), 0, 1, 1, 0, 0);
        x.writes(0, 0);
        dueRow("a partial by page 0, then a switch", x, () -> x.burst(0, 4), 3, 2, 1, 1, 0);
        dueRow("behind 23 comes 0", x, () -> x.burst(23, 2), 3, 1, 0, 1, 0);
        dueRow("one", x, () -> x.burst(1, 1), 0, 0, 0, 0, 0);
        due("n 0", x.burst(0, 0), -1);
        due("n 25", x.burst(0, 25), -1);
        due("page 24", x.burst(24, 1), -1);
        due("page -1", x.burst(-1, 1), -1);
        due("nothing done", x.count(1), 5);
        x.writes(1, 0);
        x.writes(1, 0);
        dueRow("a full one", x, () -> x.burst(0, 1), 4, 2, 0, 0, 1);
    }

    private static void lasts() {
        promise(29);
        FlashFolio x = new FlashFolio();
        // page 0: home 0, run 1, then each write seals the run: home before is wiped, the next block is taken
        dueRow("the third write wipes", x, () -> x.lasts(0, 1), 3, 0, 0);
        // blocks are taken by fewest wipes: all 16 have one wipe behind 18 writes, then the second round
        due("second round", x.lasts(0, 2), 17 + 2);
        due("page 24", x.lasts(24, 1), -1);
        due("page -1", x.lasts(-1, 1), -1);
        due("k 0", x.lasts(0, 0), -1);
        due("k 1000", x.lasts(0, 1000), -1);
        due("in vain", x.lasts(0, 999), -2);
        due("nothing done", x.count(1), 0);
        // each round of 16 blocks takes 16 writes: the seventh begins with the 99th
        due("the last that counts", x.lasts(0, 7), 99);
        for (int n = 0; n <= 16; n++) {
            lastsByHand(n);
        }
        x.sheet(2, 16, 0, 1);
        dueRow("one has now", x, () -> x.lasts(0, 15), 0, 15, 0);
        dueRow("the least", x, () -> x.lasts(5, 3), 0, 3, 0);
        due("in vain", x.lasts(0, 999), -2);
        due("row stays", x.row(0), 3);
    }

    /** Written till a block is worn, by calls of writes(): the first n blocks have one wipe at first. */
    private static void lastsByHand(int n) {
        FlashFolio x = new FlashFolio();
        x.sheet(2, n, 1, 0);
        FlashFolio y = new FlashFolio();
        y.sheet(2, n, 1, 0);
        int k = 2;
        for (int i = 1; i <= 101; i++) {
            y.writes(0, 0);
            int worn = 15;
            while (worn >= 0 && y.block(worn, 4) < k) {
                worn--;
            }
            if (worn >= 0) {
                due("lasts(0, " + k + ") behind " + n, x.lasts(0, k), i <= 99 ? i : -2);
                k++;
            }
        }
        due("in vain", x.lasts(0, k), -2);
    }

    private static void cuts() {
        promise(30);
        FlashFolio x = behind("w0010w0111w0212w0313w0020");
        // partial: 3 copies, home is wiped, then leaf 0 of the next run
        dueRow("no step", x, () -> x.cuts(0, 30, 0), 20, 5, 0);
        dueRow("4 steps", x, () -> x.cuts(0, 30, 4), 20, 5, 0);
        dueRow("5 steps", x, () -> x.cuts(0, 30, 5), 30, 5, 0);
        dueRow("more than it has", x, () -> x.cuts(0, 30, 99), 30, 5, 0);
        dueRow("never written", x, () -> x.cuts(5, 30, 0), 100, 1, 0);
        dueRow("home", x, () -> x.cuts(5, 30, 1), 30, 1, 0);
        due("k 100", x.cuts(0, 30, 100), -1);
        due("k -1", x.cuts(0, 30, -1), -1);
        due("page 24", x.cuts(24, 30, 1), -1);
        due("page -1", x.cuts(-1, 30, 1), -1);
        due("value 100", x.cuts(0, 100, 1), -1);
        due("value -1", x.cuts(0, -1, 1), -1);
        due("value 0", x.cuts(5, 0, 1), 0);
        ruleOf(x, "1");
        // levelling behind it: 4 copies, one wipe
        dueRow("levelled", x, () -> x.cuts(0, 30, 7), 30, 10, 0);
        due("nothing done", x.reads(0), 20);
        x.writes(1, 31);
        x.writes(2, 32);
        due("a switch: the leaf, then the wipe", x.cuts(3, 33, 1), 33);
    }

    private static void swells() {
        promise(31);
        FlashFolio x = new FlashFolio();
        due("none", x.swells(), -2);
        x.writes(23, 0);
        dueRow("one by one", x, () -> x.swells(), 0, 1, 1);
        x.undo();
        dayOf(x, "w0010w0111");
        dueRow("1", x, () -> x.swells(), 0, 1, 1);
        x.merges(0);
        dueRow("4 by 2", x, () -> x.swells(), 0, 2, 1);
        x.writes(2, 0);
        x.merges(0);
        dueRow("8 by 3", x, () -> x.swells(), 0, 8, 3);
    }

    private static void heard() {
        promise(32);
        FlashFolio x = new FlashFolio();
        due("kind 4", x.heard(0, 4), 1);
        due("kind 5", x.heard(0, 5), -1);
        due("wipes 9", x.heard(1, 9), 2);
        due("wipes 10", x.heard(1, 10), -1);
        due("leaves 4", x.heard(2, 4), 3);
        due("leaves 5", x.heard(2, 5), -1);
        due("folder 5", x.heard(3, 5), 4);
        due("folder 6", x.heard(3, 6), -1);
        due("what 4", x.heard(4, 0), -1);
        due("what -1", x.heard(-1, 0), -1);
        due("v -1", x.heard(0, -1), -1);
        for (int i = 5; i <= 12; i++) {
            due("more", x.heard(0, 0), i);
        }
        due("13", x.heard(0, 0), -1);
        due("heard", x.count(9), 12);
        promise(33);
        due("denied", x.denies(), 12);
        due("none left", x.denies(), 0);
        due("none left", x.count(9), 0);
    }

    private static void fitsAndAsks() {
        promise(34);
        FlashFolio x = behind("w0010w0111w0212w0413w0020w0511");
        // homes 0 (3 leaves of folder 0), 1 (2 leaves of folder 1); run 2 (1 leaf of folder 0)
        dueRow("all", x, () -> x.fits(), 65535, 16);
        x.heard(3, 0);
        dueRow("folder 0", x, () -> x.fits(), 5, 2);
        x.heard(0, 1);
        dueRow("and home", x, () -> x.fits(), 1, 1);
        promise(35);
        dueRow("one is left", x, () -> x.asks(), 0, 1);
        x.heard(0, 2);
        promise(34);
        dueRow("none", x, () -> x.fits(), 0, 0);
        promise(35);
        due("none fits", x.asks(), -2);
        due("row stays", x.row(0), 0);
        x.denies();
        // free: 13 of 16, no other question parts them better: home 2, leaves: 1 or more 3 of 16
        dueRow("is it free", x, () -> x.asks(), 0, 13);
        x.heard(2, 1);
        // left: 0, 1, 2: home or not parts them 2 and 1
        dueRow("is it home", x, () -> x.asks(), 1, 2);
        promise(34);
        x.denies();
        x.heard(2, 2);
        dueRow("2 leaves or more", x, () -> x.fits(), 3, 2);
        x.denies();
        x.sheet(2, 16, 0, 1);
        x.heard(1, 9);
        dueRow("9 wipes or more", x, () -> x.fits(), 65535 & ~511, 7);
        promise(35);
        x.denies();
        dueRow("8 wipes or more", x, () -> x.asks(), 18, 8);
        FlashFolio y = behind("w2000w2101");
        y.heard(2, 1);
        y.writes(0, 0);
        y.writes(4, 0);
        y.writes(8, 0);
        y.writes(12, 0);
        // homes 0 (folder 5, 2 leaves), 1 .. 4 (1 leaf): none but the leaves and the folders part them
        dueRow("2 leaves or more", y, () -> y.asks(), 22, 4);
        y.writes(1, 0);
        y.writes(5, 0);
        dueRow("parted 3 and 2", y, () -> y.asks(), 22, 3);
        y.denies();
        y.heard(3, 5);
        dueRow("the last folder", y, () -> y.fits(), 1, 1);
    }

    private static void law() {
        promise(36);
        FlashFolio x = behind("w0010");
        due("wrong", lawOf(x, "1+", 3), -10002);
        due("text is empty", x.count(12), 0);
        due("wrong at once", lawOf(x, "z", 3), -10000);
        due("too long", lawOf(x, "1+1+1+1+1+1+1+1+1+1+1+1+1+1+1+1+1+1+1+1+1", 3), -10040);
        String before = seenOf(x);
        due("an empty one is the rule of first", lawOf(x, "", 3), 0);
        due("both", x.row(0), x.row(1));
        due("copies of both", x.row(2), x.row(3));
        int less = lawOf(x, "1", 3);
        long byIt = x.row(0);
        long byRule = x.row(1);
        long copiesByIt = x.row(2);
        long copiesByRule = x.row(3);
        due("the difference", less, byIt - byRule);
        due("four numbers", x.count(11), 4);
        holds("nothing changed", before.equals(seenOf(x)));
        due("copies by the rule", x.years(3, 40), copiesByRule);
        ruleOf(x, "1");
        due("copies by it", x.years(3, 40), copiesByIt);
        due("the other way round", lawOf(x, "d>4", 3), -less);
        due("other way round", x.row(0), byRule);
        due("other way round", x.row(1), byIt);
        for (int seed = 1; seed <= 10; seed++) {
            lawByHand(seed);
        }
    }

    private static void lawByHand(int seed) {
        FlashFolio x = new FlashFolio();
        ruleOf(x, "d>0");
        FlashFolio y = new FlashFolio();
        writeDrawn(x, seed, 40);
        writeDrawn(y, seed, 40);
        int byIt = x.spread();
        int byRule = y.spread();
        FlashFolio z = new FlashFolio();
        tell(z, "d>0");
        dueRow("seed " + seed, z, () -> z.law(seed), byIt - byRule, byIt, byRule, x.count(2), y.count(2));
    }

    private static void writeDrawn(FlashFolio x, int seed, int n) {
        int r = seed;
        for (int i = 0; i < n; i++) {
            r = r * 1103515245 + 12345;
            int tells = (r >>> 16) % 4;
            r = r * 1103515245 + 12345;
            int page = tells == 3 ? (r >>> 16) % 4 : (r >>> 16) % 24;
            r = r * 1103515245 + 12345;
            x.writes(page, (r >>> 16) % 100);
        }
    }

    private static void years() {
        promise(37);
        FlashFolio x = new FlashFolio();
        due("n 0", x.years(1, 0), -1);
        due("n 61", x.years(1, 61), -1);
        holds("n 60", x.years(1, 60) >= 0);
        // seed 0: R = 12345 (draw 0), 12345 * 1103515245 + 12345 = 13623033942870 ..; told by longs below
        long r = 0;
        int[] draws = new int[3];
        for (int i = 0; i < 3; i++) {
            r = (r * 1103515245L + 12345) & 0xffffffffL;
            draws[i] = (int) (r / 65536);
        }
        int page = draws[0] % 4 == 3 ? draws[1] % 4 : draws[1] % 24;
        FlashFolio y = new FlashFolio();
        y.writes(page, draws[2] % 100);
        y.sum();
        dueRow("one", x, () -> x.years(0, 1), 0, 0, 0, y.row(0));
        String before = seenOf(x);
        x.years(-7, 60);
        holds("nothing changed", before.equals(seenOf(x)));
        due("nothing to undo", x.count(10), 0);
        for (int seed : new int[] {1, -1, 123456789, Integer.MIN_VALUE}) {
            drawnByHand(seed);
        }
    }

    private static void drawnByHand(int seed) {
        FlashFolio x = new FlashFolio();
        writeDrawn(x, seed, 60);
        x.sum();
        FlashFolio y = new FlashFolio();
        dueRow("seed " + seed, y, () -> y.years(seed, 60), x.count(2), x.count(3), x.count(6), x.row(0));
    }

    private static void sum() {
        promise(38);
        FlashFolio x = new FlashFolio();
        int due = 7;
        for (int i = 0; i < 64; i++) {
            due *= 31;
        }
        dueRow("empty", x, () -> x.sum(), 0, due);
        x.writes(23, 99);
        due = 7;
        for (int i = 0; i < 64; i++) {
            due = 31 * due + (i == 3 ? 2300 + 100 + 99 : 0);
        }
        dueRow("one leaf", x, () -> x.sum(), 0, due);
        FlashFolio y = behind("w0000");
        y.sum();
        long one = y.row(0);
        y.undo();
        y.sum();
        holds("page 0, value 0 is not empty", one != y.row(0));
    }

    private static void keeps() {
        promise(39);
        FlashFolio x = behind("w0010w0020");
        holds("keep(2)", !x.keep(2));
        holds("keep(-1)", !x.keep(-1));
        promise(40);
        holds("nothing kept", !x.again(0));
        holds("again(2)", !x.again(2));
        holds("again(-1)", !x.again(-1));
        due("not forgotten by a refused one", x.count(10), 1);
        promise(39);
        holds("keep(1)", x.keep(1));
        String before = seenOf(x);
        due("what can be undone stays", x.count(10), 1);
        x.sets(0, 3);
        dayOf(x, "w0511w0512hm0");
        x.sheet(2, 16, 9, 0);
        holds("keep(0)", x.keep(0));
        promise(40);
        holds("again(1)", x.again(1));
        holds("as it was", before.equals(seenOf(x)));
        due("colds, too", x.sets(0, 2), -2);
        due("forgotten", x.count(10), 0);
        due("none to undo", x.undo(), -1);
        holds("again(0)", x.again(0));
        due("wipes", x.block(3, 4), 9);
        x.writes(9, 9);
        holds("more than once", x.again(1) && before.equals(seenOf(x)));
        x.writes(9, 9);
        x.keep(1);
        x.undo();
        holds("kept anew", x.again(1) && !before.equals(seenOf(x)));
    }

    private static void counts() {
        promise(41);
        FlashFolio x = behind("w0010w0111w0212w0313", "w0020w0121w0222w0323", "w0030w0031");
        x.merges(0);
        // block 0: home, wiped by the switch; 1: the run, home; 2: run, home by the partial; 3: run; merged to 4
        due("free", x.count(0), 65535 & ~(1 << 4));
        due("writes", x.count(1), 10);
        due("copies", x.count(2), 3 + 4);
        due("wiped", x.count(3), 1 + 1 + 2);
        due("switches", x.count(4), 1);
        due("partials", x.count(5), 1);
        due("fulls", x.count(6), 1);
        due("leaves", x.count(7), 4);
        due("stamp", x.count(8), 10);
        x.heard(0, 0);
        due("heard", x.count(9), 1);
        due("to undo", x.count(10), 4);
        due("row", x.count(11), 2);
        x.sign(0);
        due("text", x.count(12), 4);
        due("what 13", x.count(13), -100);
        due("what -1", x.count(-1), -100);
        due("what far off", x.count(Integer.MIN_VALUE), -100);
    }

    private static void rows() {
        promise(42);
        FlashFolio x = new FlashFolio();
        refusesBy("an empty row", () -> x.row(0));
        x.next();
        due("row(1)", x.row(1), 16);
        refusesBy("row(2)", () -> x.row(2));
        refusesBy("row(-1)", () -> x.row(-1));
        refusesBy("row far off", () -> x.row(Integer.MAX_VALUE));
    }

    /** Terms 2: questions change nothing, refused calls nothing but the text; the row stays with those. */
    private static void questions() {
        about("terms 2");
        FlashFolio x = behind("w0010w0111w0212w0313w0120w0520w0521", "w0122w0123w0020w0121w0822w0823");
        String before = seenOf(x);
        int past = x.count(10);
        for (int p = -1; p <= 24; p++) {
            x.reads(p);
            x.copies(p);
            x.heat(p);
            x.costs(p);
            x.burst(p, 7);
            x.lasts(p, 2);
            x.cuts(p, 9, 3);
            x.years(p, 30);
            x.logs(p);
            x.holds(p);
        }
        x.stale();
        x.hot();
        x.next();
        x.spread();
        x.worst();
        x.swells();
        x.fits();
        x.asks();
        x.sum();
        lawOf(x, "f>9", 5);
        x.merges(7);
        x.sets(0, 9);
        x.sheet(1, -4, 0, 0);
        holds("nothing changed", before.equals(seenOf(x)));
        due("nor what can be undone", x.count(10), past);
    }
}
