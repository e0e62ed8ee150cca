import java.util.ArrayDeque;
import java.util.ArrayList;
import java.util.Arrays;
import java.util.List;
import java.util.NoSuchElementException;

/**
 * The document told a second time, with other means than FlashFolio has (objects, lists, deep copies, a
 * recursive reader of rules), so that a slip in one of them shows when both are asked the same.
 */
final class PlainFolio {
    private record Leaf(int page, int value, int stamp) {
    }

    private static final class Block {
        final int number;
        final Leaf[] leaves = new Leaf[4];
        int wipes;

        Block(int number) {
            this.number = number;
        }

        Block copy() {
            Block b = new Block(number);
            System.arraycopy(leaves, 0, b.leaves, 0, 4);
            b.wipes = wipes;
            return b;
        }

        int firstEmpty() {
            for (int i = 0; i < 4; i++) {
                if (leaves[i] == null) {
                    return i;
                }
            }
            return 4;
        }
    }

    /** What undo() brings back. */
    private static final class World {
        Block[] blocks = new Block[16];
        Block[] homes = new Block[6];
        Block run;
        int runFolder;
        List<Block> cold = new ArrayList<>();
        List<Block> hot = new ArrayList<>();
        int colds = 2;
        int hots = 1;
        int warm = 3;
        int[] heat = new int[24];
        int stamp;
        int writes;
        int copies;
        int wiped;
        int switches;
        int partials;
        int fulls;
        // of the latest write
        int way;
        int wentBlock;
        int wentLeaf;
        boolean levelled;
        Block levelledFrom;
        /** Values of all pages behind each step, if they are asked for. */
        List<int[]> film;

        World() {
            for (int i = 0; i < 16; i++) {
                blocks[i] = new Block(i);
            }
        }

        World copy() {
            World w = new World();
            for (int i = 0; i < 16; i++) {
                w.blocks[i] = blocks[i].copy();
            }
            for (int i = 0; i < 6; i++) {
                w.homes[i] = homes[i] == null ? null : w.blocks[homes[i].number];
            }
            w.run = run == null ? null : w.blocks[run.number];
            w.runFolder = runFolder;
            cold.forEach(b -> w.cold.add(w.blocks[b.number]));
            hot.forEach(b -> w.hot.add(w.blocks[b.number]));
            w.colds = colds;
            w.hots = hots;
            w.warm = warm;
            w.heat = heat.clone();
            w.stamp = stamp;
            w.writes = writes;
            w.copies = copies;
            w.wiped = wiped;
            w.switches = switches;
            w.partials = partials;
            w.fulls = fulls;
            return w;
        }

        boolean isFree(Block b) {
            return !Arrays.asList(homes).contains(b) && run != b && !cold.contains(b) && !hot.contains(b);
        }

        List<Block> free() {
            List<Block> list = new ArrayList<>();
            for (Block b : blocks) {
                if (isFree(b)) {
                    list.add(b);
                }
            }
            return list;
        }

        Block nextFree() {
            Block best = null;
            for (Block b : free()) {
                if (best == null || b.wipes < best.wipes) {
                    best = b;
                }
            }
            return best;
        }

        /** {block, leaf} of the latest leaf of a page, or null. */
        int[] latest(int page) {
            int top = 0;
            for (Block b : blocks) {
                for (Leaf l : b.leaves) {
                    if (l != null && l.page() == page) {
                        top = Math.max(top, l.stamp());
                    }
                }
            }
            if (top == 0) {
                return null;
            }
            List<Block> order = new ArrayList<>();
            if (homes[page / 4] != null) {
                order.add(homes[page / 4]);
            }
            if (run != null && runFolder == page / 4) {
                order.add(run);
            }
            order.addAll(Arrays.asList(blocks));
            for (Block b : order) {
                for (int i = 0; i < 4; i++) {
                    Leaf l = b.leaves[i];
                    if (l != null && l.page() == page && l.stamp() == top) {
                        return new int[] {b.number, i};
                    }
                }
            }
            throw new AssertionError();
        }

        boolean isLatest(Block b, int leaf) {
            Leaf l = b.leaves[leaf];
            if (l == null) {
                return false;
            }
            int[] at = latest(l.page());
            return at[0] == b.number && at[1] == leaf;
        }

        int valueOf(int page) {
            int[] at = latest(page);
            return at == null ? 100 : blocks[at[0]].leaves[at[1]].value();
        }

        int[] values() {
            int[] all = new int[24];
            for (int p = 0; p < 24; p++) {
                all[p] = valueOf(p);
            }
            return all;
        }

        void step() {
            if (film != null) {
                film.add(values());
            }
        }

        void put(Block b, int leaf, Leaf l) {
            if (b.leaves[leaf] != null) {
                throw new AssertionError("a leaf is written twice");
            }
            b.leaves[leaf] = l;
            step();
        }

        void copyLatest(int page, Block to, int leaf) {
            int[] at = latest(page);
            if (at != null) {
                put(to, leaf, blocks[at[0]].leaves[at[1]]);
                copies = Math.min(99999, copies + 1);
            }
        }

        void wipe(Block b) {
            Arrays.fill(b.leaves, null);
            b.wipes = Math.min(999, b.wipes + 1);
            wiped = Math.min(99999, wiped + 1);
            if (run == b) {
                run = null;
            }
            for (int i = 0; i < 6; i++) {
                if (homes[i] == b) {
                    homes[i] = null;
                }
            }
            cold.remove(b);
            hot.remove(b);
            step();
        }

        boolean anyWritten(int folder) {
            for (int p = 4 * folder; p < 4 * folder + 4; p++) {
                if (latest(p) != null) {
                    return true;
                }
            }
            return false;
        }

        Block fullMerge(int folder) {
            Block fresh = nextFree();
            Block before = homes[folder];
            homes[folder] = fresh;
            for (int i = 0; i < 4; i++) {
                copyLatest(4 * folder + i, fresh, i);
            }
            if (before != null) {
                wipe(before);
            }
            if (run != null && runFolder == folder) {
                wipe(run);
            }
            fulls = Math.min(99999, fulls + 1);
            return fresh;
        }

        int seal() {
            int n = run.firstEmpty();
            boolean all = true;
            for (int i = 0; i < n; i++) {
                all &= isLatest(run, i);
            }
            if (!all) {
                fullMerge(runFolder);
                return 2;
            }
            Block sealed = run;
            for (int i = n; i < 4; i++) {
                copyLatest(4 * runFolder + i, sealed, i);
            }
            Block before = homes[runFolder];
            homes[runFolder] = sealed;
            run = null;
            if (before != null) {
                wipe(before);
            }
            if (n == 4) {
                switches++;
                return 0;
            }
            partials++;
            return 1;
        }

        int foldersOf(Block log) {
            int bits = 0;
            for (int i = 0; i < 4; i++) {
                if (isLatest(log, i)) {
                    bits |= 1 << log.leaves[i].page() / 4;
                }
            }
            return bits;
        }

        int clear(Block log) {
            int n = 0;
            for (int folder = 0; folder < 6; folder++) {
                if ((foldersOf(log) & 1 << folder) != 0) {
                    fullMerge(folder);
                    n++;
                }
            }
            wipe(log);
            return n;
        }

        /** The block that is home by it, or null. */
        Block level() {
            int folder = -1;
            for (Block b : blocks) {
                int f = Arrays.asList(homes).indexOf(b);
                if (f >= 0 && (folder < 0 || b.wipes < homes[folder].wipes)) {
                    folder = f;
                }
            }
            Block most = null;
            for (Block b : free()) {
                if (most == null || b.wipes > most.wipes) {
                    most = b;
                }
            }
            if (folder < 0 || most == null || homes[folder].wipes >= most.wipes) {
                return null;
            }
            Block home = homes[folder];
            for (int i = 0; i < 4; i++) {
                if (home.leaves[i] != null) {
                    put(most, i, home.leaves[i]);
                    copies = Math.min(99999, copies + 1);
                }
            }
            homes[folder] = most;
            wipe(home);
            levelledFrom = home;
            return most;
        }

        boolean isHot(int page) {
            return hots != 0 && heat[page] >= warm;
        }

        void write(int page, int value, String rule) {
            int wipedBefore = wiped;
            stamp++;
            heat[page] = Math.min(99, heat[page] + 1);
            Leaf leaf = new Leaf(page, value, stamp);
            int folder = page / 4;
            int place = page % 4;
            if (homes[folder] == null) {
                homes[folder] = nextFree();
            }
            Block home = homes[folder];
            if (home.leaves[place] == null) {
                way(2, home, place);
                put(home, place, leaf);
            } else if (place == 0) {
                if (run != null) {
                    seal();
                }
                run = nextFree();
                runFolder = folder;
                way(3, run, 0);
                put(run, 0, leaf);
            } else if (run != null && runFolder == folder && run.firstEmpty() == place) {
                way(4, run, place);
                put(run, place, leaf);
                if (place == 3) {
                    seal();
                }
            } else {
                toLog(leaf);
            }
            writes = Math.min(99999, writes + 1);
            levelled = wiped > wipedBefore && new Reader(rule, this).value() > 0 && level() != null;
        }

        void way(int number, Block b, int leaf) {
            way = number;
            wentBlock = b.number;
            wentLeaf = leaf;
        }

        void toLog(Leaf leaf) {
            List<Block> row = isHot(leaf.page()) ? hot : cold;
            int most = row == hot ? hots : colds;
            if (row.isEmpty() || row.get(row.size() - 1).firstEmpty() == 4) {
                if (row.size() == most) {
                    clear(row.get(0));
                }
                row.add(nextFree());
            }
            Block last = row.get(row.size() - 1);
            way(5, last, last.firstEmpty());
            put(last, last.firstEmpty(), leaf);
        }

        int most() {
            int most = 0;
            for (Block b : blocks) {
                most = Math.max(most, b.wipes);
            }
            return most;
        }

        int fewest() {
            int fewest = 999;
            for (Block b : blocks) {
                fewest = Math.min(fewest, b.wipes);
            }
            return fewest;
        }

        int kind(Block b) {
            if (Arrays.asList(homes).contains(b)) {
                return 1;
            }
            return run == b ? 2 : cold.contains(b) ? 3 : hot.contains(b) ? 4 : 0;
        }

        int written() {
            int n = 0;
            for (Block b : blocks) {
                n += written(b);
            }
            return n;
        }

        int written(Block b) {
            int n = 0;
            for (Leaf l : b.leaves) {
                n += l != null ? 1 : 0;
            }
            return n;
        }

        int stale(Block b) {
            int n = 0;
            for (int i = 0; i < 4; i++) {
                n += b.leaves[i] != null && !isLatest(b, i) ? 1 : 0;
            }
            return n;
        }

        int stale() {
            int n = 0;
            for (Block b : blocks) {
                n += stale(b);
            }
            return n;
        }

        int sum() {
            int s = 7;
            for (Block b : blocks) {
                for (Leaf l : b.leaves) {
                    s *= 31;
                    if (l != null) {
                        s += 100 * l.page() + 100 + l.value();
                    }
                }
            }
            return s;
        }
    }

    /** Reads a rule by going down into it; without a world it only looks whether the text is one. */
    private static final class Reader {
        private static final class Wrong extends RuntimeException {
            private static final long serialVersionUID = 1L;
        }

        final String text;
        final World world;
        int at;

        Reader(String text, World world) {
            this.text = text;
            this.world = world;
        }

        /** -1, or where the text is wrong. */
        static int wrongAt(String text) {
            Reader r = new Reader(text.length() > 40 ? text.substring(0, 40) : text, null);
            try {
                r.value();
            } catch (Wrong e) {
                if (r.at < r.text.length()) {
                    return r.at;
                }
                return text.length() > 40 ? 40 : r.at;
            }
            return text.length() > 40 ? 40 : -1;
        }

        char sign() {
            return at < text.length() ? text.charAt(at) : '\uffff';
        }

        int value() {
            int v = compared(0);
            if (at < text.length()) {
                throw new Wrong();
            }
            return v;
        }

        int compared(int depth) {
            int a = added(depth);
            char c = sign();
            if (c != '<' && c != '>' && c != '=') {
                return a;
            }
            at++;
            int b = added(depth);
            boolean so = c == '<' ? a < b : c == '>' ? a > b : a == b;
            return so ? 1 : 0;
        }

        int added(int depth) {
            int a = multiplied(depth);
            while (sign() == '+' || sign() == '-') {
                boolean plus = sign() == '+';
                at++;
                int b = multiplied(depth);
                a = plus ? a + b : a - b;
            }
            return a;
        }

        int multiplied(int depth) {
            int a = signed(depth);
            while (sign() == '*' || sign() == '/') {
                boolean times = sign() == '*';
                at++;
                int b = signed(depth);
                a = times ? a * b : b == 0 ? 0 : a / b;
            }
            return a;
        }

        int signed(int depth) {
            if (sign() == '-') {
                at++;
                return -signed(depth);
            }
            return thing(depth);
        }

        int thing(int depth) {
            char c = sign();
            if (c == '(' && depth < 4) {
                at++;
                int v = compared(depth + 1);
                if (sign() != ')') {
                    throw new Wrong();
                }
                at++;
                return v;
            }
            if (c >= '0' && c <= '9') {
                int v = 0;
                for (int i = 0; i < 3 && sign() >= '0' && sign() <= '9'; i++) {
                    v = 10 * v + sign() - '0';
                    at++;
                }
                return v;
            }
            if ("dfwcls".indexOf(c) < 0) {
                throw new Wrong();
            }
            at++;
            if (world == null) {
                return 1;
            }
            return switch (c) {
                case 'd' -> world.most() - world.fewest();
                case 'f' -> world.free().size();
                case 'w' -> world.writes % 10;
                case 'c' -> world.copies % 10;
                case 'l' -> world.cold.size() + world.hot.size();
                default -> world.stale();
            };
        }
    }

    private World w = new World();
    private String rule = "d>4";
    private String text = "";
    private long[] row = new long[0];
    private final ArrayDeque<World> past = new ArrayDeque<>();
    private final World[] kept = new World[2];
    private final List<int[]> clues = new ArrayList<>();

    private void tell(long... numbers) {
        row = numbers;
    }

    private void remember(World before) {
        past.addLast(before);
        if (past.size() > 8) {
            past.removeFirst();
        }
    }

    int sign(int v) {
        if (text.length() > 76) {
            return -1;
        }
        text += "" + (char) (v >> 24 & 255) + (char) (v >> 16 & 255) + (char) (v >> 8 & 255) + (char) (v & 255);
        return text.length();
    }

    boolean end(int n) {
        if (n < 0 || n > text.length()) {
            return false;
        }
        text = text.substring(0, n);
        return true;
    }

    private String takeText() {
        String t = text;
        text = "";
        return t;
    }

    int rule() {
        String t = takeText();
        if (t.isEmpty()) {
            rule = "d>4";
            return 0;
        }
        int wrong = Reader.wrongAt(t);
        if (wrong >= 0) {
            return -1 - wrong;
        }
        rule = t;
        return 0;
    }

    int block(int block, int what) {
        if (block < 0 || block > 15 || what < 0 || what > 4) {
            throw new NoSuchElementException();
        }
        Block b = w.blocks[block];
        int kind = w.kind(b);
        int bits = 0;
        switch (what) {
            case 0:
                return kind;
            case 1:
                return switch (kind) {
                    case 1 -> Arrays.asList(w.homes).indexOf(b);
                    case 2 -> w.runFolder;
                    case 3 -> w.cold.indexOf(b);
                    case 4 -> w.hot.indexOf(b);
                    default -> 0;
                };
            case 4:
                return b.wipes;
            default:
                for (int i = 0; i < 4; i++) {
                    bits |= b.leaves[i] != null && (what == 2 || w.isLatest(b, i)) ? 1 << i : 0;
                }
                return bits;
        }
    }

    int leaf(int block, int leaf, int what) {
        if (block < 0 || block > 15 || leaf < 0 || leaf > 3 || what < 0 || what > 2) {
            throw new NoSuchElementException();
        }
        Leaf l = w.blocks[block].leaves[leaf];
        if (l == null) {
            throw new NoSuchElementException();
        }
        return what == 0 ? l.page() : what == 1 ? l.value() : l.stamp();
    }

    int sheet(int kind, int n, int f, int step) {
        if (kind < 0 || kind > 3 || n > 16) {
            return -1;
        }
        if (kind != 3 && n < 0) {
            return -2;
        }
        int sum = 0;
        int entry = f;
        for (int i = 0; i < 16; i++) {
            int v = kind == 0 ? (byte) entry : kind == 1 ? (short) entry : entry;
            v = v < 0 ? 0 : v > 999 ? 999 : v;
            w.blocks[i].wipes = kind == 3 || i >= n ? 0 : v;
            sum += w.blocks[i].wipes;
            entry += step;
        }
        return kind == 3 ? -3 : sum;
    }

    /** One act on the world: its answer; the row that belongs to it comes as extra. */
    private int act(char kind, int a, int b) {
        switch (kind) {
            case 'w':
                if (a < 0 || a > 23 || b < 0 || b > 99) {
                    return -1;
                }
                w.write(a, b, rule);
                return w.wentBlock;
            case 'm':
                if (a < 0 || a > 5) {
                    return -1;
                }
                return w.anyWritten(a) ? w.fullMerge(a).number : -2;
            case 'q':
                return w.run == null ? -2 : w.seal();
            case 'c':
                if (a < 0 || a > 1) {
                    return -1;
                }
                List<Block> logs = a == 0 ? w.cold : w.hot;
                return logs.isEmpty() ? -2 : w.clear(logs.get(0));
            case 'l':
                Block to = w.level();
                return to == null ? -2 : to.number;
            default:
                int hot = 0;
                for (int p = 0; p < 24; p++) {
                    w.heat[p] /= 2;
                    hot += w.isHot(p) ? 1 : 0;
                }
                return hot;
        }
    }

    private int call(char kind, int a, int b) {
        World before = w.copy();
        int answer = act(kind, a, b);
        if (answer < 0) {
            return answer;
        }
        remember(before);
        int copies = w.copies - before.copies;
        int wiped = w.wiped - before.wiped;
        if (kind == 'w') {
            tell(w.wentLeaf, copies, wiped);
        } else if (kind == 'l') {
            tell(w.levelledFrom.number);
        } else if (kind != 'h') {
            tell(copies, wiped);
        }
        return answer;
    }

    int writes(int page, int value) {
        return call('w', page, value);
    }

    int reads(int page) {
        if (page < 0 || page > 23) {
            return -1;
        }
        int[] at = w.latest(page);
        if (at == null) {
            return -2;
        }
        Leaf l = w.blocks[at[0]].leaves[at[1]];
        tell(at[0], at[1], l.stamp());
        return l.value();
    }

    int merges(int folder) {
        return call('m', folder, 0);
    }

    int seals() {
        return call('q', 0, 0);
    }

    int clears(int kind) {
        return call('c', kind, 0);
    }

    int levels() {
        return call('l', 0, 0);
    }

    int cools() {
        return call('h', 0, 0);
    }

    int sets(int what, int v) {
        boolean fine = what == 0 && v >= 1 && v <= 3 || what == 1 && v >= 0 && v <= 2 || what == 2 && v >= 1 && v <= 9;
        if (!fine) {
            return -1;
        }
        int before = what == 0 ? w.colds : what == 1 ? w.hots : w.warm;
        if (before == v) {
            return -2;
        }
        if (what == 0 && w.cold.size() > v || what == 1 && w.hot.size() > v) {
            return -3;
        }
        remember(w.copy());
        if (what == 0) {
            w.colds = v;
        } else if (what == 1) {
            w.hots = v;
        } else {
            w.warm = v;
        }
        return 10 + before;
    }

    int day() {
        String t = takeText();
        String[] forms = {"w####", "m#", "q", "c!", "l", "h"};
        List<String> acts = new ArrayList<>();
        int p = 0;
        while (p < t.length()) {
            String form = null;
            for (String f : forms) {
                form = f.charAt(0) == t.charAt(p) ? f : form;
            }
            if (form == null) {
                return -1 - p;
            }
            for (int i = 1; i < form.length(); i++) {
                String may = form.charAt(i) == '#' ? "0123456789" : "01";
                if (p + i >= t.length() || may.indexOf(t.charAt(p + i)) < 0) {
                    return -1 - (p + i);
                }
            }
            acts.add(t.substring(p, p + form.length()));
            p += form.length();
        }
        World before = w.copy();
        int done = 0;
        for (String a : acts) {
            int x = a.length() == 5 ? Integer.parseInt(a.substring(1, 3)) : a.length() == 2 ? a.charAt(1) - '0' : 0;
            int y = a.length() == 5 ? Integer.parseInt(a.substring(3)) : 0;
            if (act(a.charAt(0), x, y) < 0) {
                break;
            }
            done++;
        }
        if (done > 0) {
            remember(before);
        }
        tell(done < acts.size() ? 1 : 0, w.copies - before.copies, w.wiped - before.wiped);
        return done;
    }

    int undo() {
        if (past.isEmpty()) {
            return -1;
        }
        w = past.removeLast();
        return past.size();
    }

    int copies(int page) {
        if (page < 0 || page > 23) {
            return -1;
        }
        List<int[]> all = new ArrayList<>();
        for (Block b : w.blocks) {
            for (int i = 0; i < 4; i++) {
                if (b.leaves[i] != null && b.leaves[i].page() == page) {
                    all.add(new int[] {b.leaves[i].stamp(), 4 * b.number + i});
                }
            }
        }
        all.sort((x, y) -> x[0] != y[0] ? y[0] - x[0] : x[1] - y[1]);
        row = all.stream().limit(12).mapToLong(x -> x[1]).toArray();
        return all.size();
    }

    int stale() {
        int most = 0;
        for (Block b : w.blocks) {
            most = Math.max(most, w.stale(b));
        }
        tell();
        for (Block b : w.blocks) {
            if (most > 0 && w.stale(b) == most) {
                tell(b.number, most);
                break;
            }
        }
        return w.stale();
    }

    int hot() {
        int bits = 0;
        int most = 0;
        for (int p = 0; p < 24; p++) {
            bits |= w.isHot(p) ? 1 << p : 0;
            most = Math.max(most, w.heat[p]);
        }
        int first = 0;
        while (w.heat[first] != most) {
            first++;
        }
        tell(Integer.bitCount(bits), first, most);
        return bits;
    }

    int heat(int page) {
        return page < 0 || page > 23 ? -1 : w.heat[page];
    }

    int next() {
        Block b = w.nextFree();
        tell(b.wipes, w.free().size());
        return b.number;
    }

    int logs(int kind) {
        if (kind < 0 || kind > 1) {
            return -1;
        }
        List<Block> logs = kind == 0 ? w.cold : w.hot;
        row = logs.stream().mapToLong(b -> b.number).toArray();
        return logs.size();
    }

    int holds(int kind) {
        if (kind < 0 || kind > 1) {
            return -1;
        }
        List<Block> logs = kind == 0 ? w.cold : w.hot;
        if (logs.isEmpty()) {
            return -2;
        }
        int bits = w.foldersOf(logs.get(0));
        World t = w.copy();
        t.clear((kind == 0 ? t.cold : t.hot).get(0));
        tell(Integer.bitCount(bits), t.copies - w.copies);
        return bits;
    }

    int spread() {
        int most = -1;
        int fewest = -1;
        int all = 0;
        for (int i = 15; i >= 0; i--) {
            most = w.blocks[i].wipes == w.most() ? i : most;
            fewest = w.blocks[i].wipes == w.fewest() ? i : fewest;
            all += w.blocks[i].wipes;
        }
        tell(most, fewest, all);
        return w.most() - w.fewest();
    }

    int costs(int page) {
        if (page < 0 || page > 23) {
            return -1;
        }
        World t = w.copy();
        t.write(page, 0, rule);
        tell(t.wiped - w.wiped, t.way, t.levelled ? 1 : 0);
        return t.copies - w.copies;
    }

    int worst() {
        int best = 0;
        int key = -1;
        for (int p = 0; p < 24; p++) {
            World t = w.copy();
            t.write(p, 0, rule);
            int k = 1000 * (t.copies - w.copies) + t.wiped - w.wiped;
            if (k > key) {
                best = p;
                key = k;
            }
        }
        tell(key / 1000, key % 1000);
        return best;
    }

    int burst(int page, int n) {
        if (page < 0 || page > 23 || n < 1 || n > 24) {
            return -1;
        }
        World t = w.copy();
        int p = page;
        for (int i = 0; i < n; i++) {
            t.write(p, 0, rule);
            p = p == 23 ? 0 : p + 1;
        }
        tell(t.wiped - w.wiped, t.switches - w.switches, t.partials - w.partials, t.fulls - w.fulls);
        return t.copies - w.copies;
    }

    int lasts(int page, int k) {
        if (page < 0 || page > 23 || k < 1 || k > 999) {
            return -1;
        }
        World t = w.copy();
        for (int n = 0; n <= 99; n++) {
            if (n > 0) {
                t.write(page, 0, rule);
            }
            for (Block b : t.blocks) {
                if (b.wipes >= k) {
                    tell(b.number, t.copies - w.copies);
                    return n;
                }
            }
        }
        return -2;
    }

    int cuts(int page, int value, int k) {
        if (page < 0 || page > 23 || value < 0 || value > 99 || k < 0 || k > 99) {
            return -1;
        }
        World t = w.copy();
        t.film = new ArrayList<>();
        t.film.add(t.values());
        t.write(page, value, rule);
        int steps = t.film.size() - 1;
        int[] then = t.film.get(Math.min(k, steps));
        int others = 0;
        for (int p = 0; p < 24; p++) {
            others += p != page && then[p] != w.valueOf(p) ? 1 : 0;
        }
        tell(steps, others);
        return then[page];
    }

    int swells() {
        if (w.writes == 0) {
            return -2;
        }
        int up = w.writes + w.copies;
        int low = w.writes;
        for (int d = low; d > 1; d--) {
            if (up % d == 0 && low % d == 0) {
                up /= d;
                low /= d;
            }
        }
        tell(up, low);
        return 0;
    }

    private static final int[] MOST = {4, 9, 4, 5};

    int heard(int what, int v) {
        if (what < 0 || what > 3 || v < 0 || v > MOST[what] || clues.size() == 12) {
            return -1;
        }
        clues.add(new int[] {what, v});
        return clues.size();
    }

    int denies() {
        int n = clues.size();
        clues.clear();
        return n;
    }

    private boolean isSo(Block b, int what, int v) {
        if (what == 3) {
            for (Leaf l : b.leaves) {
                if (l != null && l.page() / 4 == v) {
                    return true;
                }
            }
            return false;
        }
        return what == 0 ? w.kind(b) == v : what == 1 ? b.wipes >= v : w.written(b) >= v;
    }

    private List<Block> fitting() {
        List<Block> list = new ArrayList<>();
        for (Block b : w.blocks) {
            boolean all = true;
            for (int[] c : clues) {
                all &= isSo(b, c[0], c[1]);
            }
            if (all) {
                list.add(b);
            }
        }
        return list;
    }

    int fits() {
        int bits = 0;
        for (Block b : fitting()) {
            bits |= 1 << b.number;
        }
        tell(Integer.bitCount(bits));
        return bits;
    }

    int asks() {
        List<Block> list = fitting();
        if (list.isEmpty()) {
            return -2;
        }
        int best = -1;
        int least = 99;
        for (int q = 35; q >= 0; q--) {
            int what = q / 10;
            int v = q % 10;
            if (v > MOST[what]) {
                continue;
            }
            int so = 0;
            for (Block b : list) {
                so += isSo(b, what, v) ? 1 : 0;
            }
            int left = Math.max(so, list.size() - so);
            if (left <= least) {
                least = left;
                best = q;
            }
        }
        tell(least);
        return best;
    }

    private World drawn(int seed, int n, String by) {
        World t = w.copy();
        int[] r = {seed};
        for (int i = 0; i < n; i++) {
            int page = draw(r, 4) == 3 ? draw(r, 4) : draw(r, 24);
            int value = draw(r, 100);
            t.write(page, value, by);
        }
        return t;
    }

    private static int draw(int[] r, int n) {
        r[0] = r[0] * 1103515245 + 12345;
        return (int) (Integer.toUnsignedLong(r[0]) / 65536 % n);
    }

    int law(int seed) {
        String t = takeText();
        int wrong = t.isEmpty() ? -1 : Reader.wrongAt(t);
        if (wrong >= 0) {
            return -10000 - wrong;
        }
        World a = drawn(seed, 40, t.isEmpty() ? "d>4" : t);
        World b = drawn(seed, 40, rule);
        int x = a.most() - a.fewest();
        int y = b.most() - b.fewest();
        tell(x, y, a.copies - w.copies, b.copies - w.copies);
        return x - y;
    }

    int years(int seed, int n) {
        if (n < 1 || n > 60) {
            return -1;
        }
        World t = drawn(seed, n, rule);
        tell(t.wiped - w.wiped, t.fulls - w.fulls, t.sum());
        return t.copies - w.copies;
    }

    int sum() {
        tell(w.sum());
        return 0;
    }

    boolean keep(int i) {
        if (i < 0 || i > 1) {
            return false;
        }
        kept[i] = w.copy();
        return true;
    }

    boolean again(int i) {
        if (i < 0 || i > 1 || kept[i] == null) {
            return false;
        }
        w = kept[i].copy();
        past.clear();
        return true;
    }

    int count(int what) {
        int free = 0;
        for (Block b : w.free()) {
            free |= 1 << b.number;
        }
        int[] all = {free, w.writes, w.copies, w.wiped, w.switches, w.partials, w.fulls, w.written(), w.stamp,
            clues.size(), past.size(), row.length, text.length()};
        return what < 0 || what >= all.length ? -100 : all[what];
    }

    long row(int i) {
        if (i < 0 || i >= row.length) {
            throw new NoSuchElementException();
        }
        return row[i];
    }
}
