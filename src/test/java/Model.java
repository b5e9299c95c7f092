import java.util.ArrayDeque;
import java.util.ArrayList;
import java.util.Collections;
import java.util.Deque;
import java.util.List;
import java.util.Set;
import java.util.TreeSet;
import java.util.regex.Matcher;
import java.util.regex.Pattern;

/**
 * The document once more, word by word and by other means than the class: sets instead of bits,
 * a pattern instead of a reader, every order of arcs instead of their weights.
 */
final class Model {
    static final int UNKNOWN = -1, BAD = -2, LATE = -3, FULL = -4, NONE = -9;

    private static final class Block {
        final int act;
        final List<Integer> arcs;

        Block(int act, List<Integer> arcs) {
            this.act = act;
            this.arcs = new ArrayList<>(arcs);
        }
    }

    private static final class Found {
        int[] order, leave, header, type;
        List<Set<Integer>> entries = new ArrayList<>();
        List<Set<Integer>> passers = new ArrayList<>();
        int reached, clock;
    }

    private final StringBuilder text = new StringBuilder();
    private List<Block> graph = new ArrayList<>();
    private final Deque<List<Block>> doings = new ArrayDeque<>();
    private final List<List<Block>> slots = new ArrayList<>();
    private final List<int[]> seen = new ArrayList<>();
    private long seed = 0;

    Model() {
        slots.add(null);
        slots.add(null);
    }

    private static List<Block> copy(List<Block> blocks) {
        List<Block> made = new ArrayList<>();
        for (Block b : blocks) {
            made.add(new Block(b.act, b.arcs));
        }
        return made;
    }

    private static boolean isBlock(List<Block> g, int b) {
        return b >= 0 && b < g.size();
    }

    private static boolean isArc(List<Block> g, int b, int i) {
        return isBlock(g, b) && i >= 0 && i < g.get(b).arcs.size();
    }

    private static int arcsOf(List<Block> g) {
        return g.stream().mapToInt(b -> b.arcs.size()).sum();
    }

    // ---- walk, loops, passing

    private static Found find(List<Block> g) {
        Found f = new Found();
        int n = g.size();
        f.order = new int[n];
        f.leave = new int[n];
        f.header = new int[n];
        f.type = new int[n];
        for (int b = 0; b < n; b++) {
            f.order[b] = NONE;
            f.header[b] = NONE;
            f.entries.add(new TreeSet<>());
        }
        if (n > 0) {
            walk(g, f, 0);
        }
        for (int v = 0; v < n; v++) {
            for (int w : g.get(v).arcs) {
                if (f.order[v] != NONE && !above(f, w, v)) {
                    f.entries.get(w).add(v);
                }
            }
        }
        for (int o = f.reached - 1; o >= 0; o--) {
            for (int w = 0; w < n; w++) {
                if (f.order[w] == o) {
                    gather(g, f, w);
                }
            }
        }
        pass(g, f);
        return f;
    }

    private static void walk(List<Block> g, Found f, int b) {
        f.order[b] = f.reached++;
        for (int to : g.get(b).arcs) {
            if (f.order[to] == NONE) {
                walk(g, f, to);
            }
        }
        f.leave[b] = f.reached - 1;
    }

    private static boolean above(Found f, int w, int v) {
        return f.order[w] != NONE && f.order[v] != NONE
            && f.order[w] <= f.order[v] && f.order[v] <= f.leave[w];
    }

    private static int leader(Found f, int b) {
        return f.header[b] == NONE ? b : leader(f, f.header[b]);
    }

    private static void gather(List<Block> g, Found f, int w) {
        Set<Integer> body = new TreeSet<>();
        boolean loop = false;
        for (int v = 0; v < g.size(); v++) {
            if (g.get(v).arcs.contains(w) && above(f, w, v)) {
                loop = true;
                if (leader(f, v) != w) {
                    body.add(leader(f, v));
                }
            }
        }
        boolean many = false;
        boolean grew = true;
        while (grew) {
            grew = false;
            for (int x : new ArrayList<>(body)) {
                for (int y : f.entries.get(x)) {
                    int lead = leader(f, y);
                    if (!above(f, w, lead)) {
                        f.entries.get(w).add(lead);
                        many = true;
                    } else if (lead != w) {
                        grew |= body.add(lead);
                    }
                }
            }
        }
        for (int b : body) {
            f.header[b] = w;
        }
        f.type[w] = !loop ? 0 : body.isEmpty() ? 1 : many ? 3 : 2;
    }

    /** By meeting what passes those ahead, until nothing changes. */
    private static void pass(List<Block> g, Found f) {
        Set<Integer> all = new TreeSet<>();
        for (int b = 0; b < g.size(); b++) {
            if (f.order[b] != NONE) {
                all.add(b);
            }
        }
        for (int b = 0; b < g.size(); b++) {
            f.passers.add(new TreeSet<>(f.order[b] == NONE ? Set.of() : b == 0 ? Set.of(0) : all));
        }
        boolean changed = true;
        while (changed) {
            changed = false;
            for (int v : all) {
                if (v == 0) {
                    continue;
                }
                Set<Integer> met = new TreeSet<>(all);
                for (int u : all) {
                    if (g.get(u).arcs.contains(v)) {
                        met.retainAll(f.passers.get(u));
                    }
                }
                met.add(v);
                if (!met.equals(f.passers.get(v))) {
                    f.passers.set(v, met);
                    changed = true;
                }
            }
        }
    }

    private static boolean tame(List<Block> g, Found f) {
        for (int v = 0; v < g.size(); v++) {
            for (int w : g.get(v).arcs) {
                if (above(f, w, v) && !f.passers.get(v).contains(w)) {
                    return false;
                }
            }
        }
        return true;
    }

    private static int loops(List<Block> g) {
        int count = 0;
        for (int type : find(g).type) {
            count += type != 0 ? 1 : 0;
        }
        return count;
    }

    private static int many(Found f) {
        int count = 0;
        for (int type : f.type) {
            count += type == 3 ? 1 : 0;
        }
        return count;
    }

    private static int depth(Found f, int b) {
        int depth = f.type[b] != 0 ? 1 : 0;
        for (int h = f.header[b]; h != NONE; h = f.header[h]) {
            depth++;
        }
        return depth;
    }

    private static boolean inNest(Found f, int w, int b) {
        return b == w || f.header[b] != NONE && inNest(f, w, f.header[b]);
    }

    // ---- the graph

    int write(int letter) {
        if (letter < 0 || letter > 255) {
            return BAD;
        }
        if (text.length() == 64) {
            return FULL;
        }
        text.append((char) letter);
        return text.length();
    }

    int wipe() {
        int was = text.length();
        text.setLength(0);
        return was;
    }

    private static Pattern told() {
        StringBuilder all = new StringBuilder();
        for (int n = 1; n <= 8; n++) {
            all.append(n > 1 ? "|" : "").append("G").append(n);
            all.append("([a-z][0-").append(n - 1).append("]{0,3}){").append(n).append("}");
        }
        return Pattern.compile(all.toString());
    }

    private static final Pattern TOLD = told();

    int fault() {
        for (int end = 1; end <= text.length(); end++) {
            Matcher m = TOLD.matcher(text.substring(0, end));
            if (!m.matches() && !m.hitEnd()) {
                return end - 1;
            }
        }
        return TOLD.matcher(text).matches() ? NONE : text.length();
    }

    int graph() {
        if (fault() != NONE) {
            return LATE;
        }
        graph = new ArrayList<>();
        for (char c : text.substring(2).toCharArray()) {
            if (c >= 'a') {
                graph.add(new Block(c, List.of()));
            } else {
                graph.get(graph.size() - 1).arcs.add(c - '0');
            }
        }
        doings.clear();
        slots.set(0, null);
        slots.set(1, null);
        return graph.size();
    }

    int about(int what) {
        Found f = find(graph);
        int deepest = 0;
        int backward = 0;
        for (int v = 0; v < graph.size(); v++) {
            deepest = Math.max(deepest, depth(f, v));
            for (int w : graph.get(v).arcs) {
                backward += above(f, w, v) ? 1 : 0;
            }
        }
        int[] answers = {graph.size(), arcsOf(graph), f.reached, loops(graph), many(f), deepest,
            tame(graph, f) ? 1 : 0, backward, doings.size(), seen.size(), text.length()};
        return what < 0 || what >= answers.length ? BAD : answers[what];
    }

    int block(int block, int what) {
        if (!isBlock(graph, block)) {
            return UNKNOWN;
        }
        Found f = find(graph);
        int[] answers = {graph.get(block).act, graph.get(block).arcs.size(), f.order[block],
            f.header[block], f.type[block], depth(f, block)};
        return what < 0 || what >= answers.length ? BAD : answers[what];
    }

    int arc(int block, int i) {
        return isArc(graph, block, i) ? graph.get(block).arcs.get(i) : UNKNOWN;
    }

    int sets(int block, int what) {
        if (!isBlock(graph, block)) {
            return UNKNOWN;
        }
        if (what < 0 || what > 3) {
            return BAD;
        }
        Found f = find(graph);
        int bits = 0;
        for (int b = 0; b < graph.size() && f.order[block] != NONE; b++) {
            boolean in = what == 0 ? above(f, block, b)
                : what == 1 ? inNest(f, block, b)
                : what == 2 ? f.passers.get(b).contains(block)
                : f.entries.get(block).contains(b);
            bits += in ? 1 << b : 0;
        }
        return bits;
    }

    // ---- doings

    private static int doAdd(List<Block> g, int block, int to) {
        if (!isBlock(g, block) || !isBlock(g, to)) {
            return UNKNOWN;
        }
        if (g.get(block).arcs.size() == 3) {
            return FULL;
        }
        g.get(block).arcs.add(to);
        return g.get(block).arcs.size();
    }

    private static int doCut(List<Block> g, int block, int i) {
        return isArc(g, block, i) ? g.get(block).arcs.remove(i) : UNKNOWN;
    }

    private static int doSplit(List<Block> g, int p, int x) {
        if (!isBlock(g, p) || !isBlock(g, x)) {
            return UNKNOWN;
        }
        if (!g.get(p).arcs.contains(x)) {
            return LATE;
        }
        if (g.size() == 12) {
            return FULL;
        }
        int made = g.size();
        g.add(new Block(g.get(x).act, g.get(x).arcs));
        g.get(p).arcs.replaceAll(to -> to == x ? made : to);
        return made;
    }

    private static int doMend(List<Block> g) {
        int splits = 0;
        while (true) {
            Found f = find(g);
            int w = NONE;
            for (int b = 0; b < g.size(); b++) {
                if (f.type[b] == 3 && (w == NONE || f.order[b] > f.order[w])) {
                    w = b;
                }
            }
            if (w == NONE || g.size() == 12) {
                return splits;
            }
            int[] pair = entered(g, f, w);
            if (pair == null) {
                return splits;
            }
            doSplit(g, pair[0], pair[1]);
            splits++;
        }
    }

    private static int[] entered(List<Block> g, Found f, int w) {
        for (int x = 0; x < g.size(); x++) {
            for (int p = 0; p < g.size(); p++) {
                if (x != w && inNest(f, w, x) && f.order[p] != NONE && !inNest(f, w, p)
                    && g.get(p).arcs.contains(x)) {
                    return new int[] {p, x};
                }
            }
        }
        return null;
    }

    private int settle(List<Block> changed, int answer) {
        if (answer >= 0) {
            if (doings.size() == 14) {
                doings.removeFirst();
            }
            doings.addLast(graph);
            graph = changed;
        }
        return answer;
    }

    int add(int block, int to) {
        List<Block> g = copy(graph);
        return settle(g, doAdd(g, block, to));
    }

    int cut(int block, int i) {
        List<Block> g = copy(graph);
        return settle(g, doCut(g, block, i));
    }

    int split(int p, int x) {
        List<Block> g = copy(graph);
        return settle(g, doSplit(g, p, x));
    }

    int mend() {
        List<Block> g = copy(graph);
        return settle(g, many(find(g)) == 0 ? LATE : doMend(g));
    }

    int undo() {
        if (doings.isEmpty()) {
            return LATE;
        }
        graph = doings.removeLast();
        return doings.size();
    }

    // ---- what would be

    private int atEnd(String choices) {
        int at = 0;
        for (char c : choices.toCharArray()) {
            List<Integer> arcs = graph.get(at).arcs;
            at = arcs.isEmpty() ? at : arcs.get((c - '0') % arcs.size());
        }
        return at;
    }

    private static String figures(long row, int n) {
        StringBuilder s = new StringBuilder(Long.toString(row));
        while (s.length() < n) {
            s.insert(0, '0');
        }
        return s.toString();
    }

    int run(int n, int row, int what) {
        if (graph.isEmpty()) {
            return LATE;
        }
        if (n < 0 || n > 8 || row < 0 || what < 0 || what > 1) {
            return BAD;
        }
        String choices = n == 0 && row == 0 ? "" : figures(row, n);
        if (choices.length() != n || !choices.matches("[0-2]*")) {
            return BAD;
        }
        int at = atEnd(choices);
        return what == 0 ? at : graph.get(at).act;
    }

    int would(int what) {
        List<Block> g = copy(graph);
        int splits = doMend(g);
        int[] answers = {splits, g.size(), many(find(g)) == 0 ? 1 : 0};
        return what < 0 || what > 2 ? BAD : answers[what];
    }

    int judge(int n, long row) {
        if (n < 1 || n > 4 || row < 0 || figures(row, 3 * n).length() > 3 * n) {
            return BAD;
        }
        String told = figures(row, 3 * n);
        List<Block> g = copy(graph);
        for (int place = 0; place < n; place++) {
            int a = told.charAt(3 * place + 1) - '0';
            int b = told.charAt(3 * place + 2) - '0';
            if (!so(g, told.charAt(3 * place), a, b)) {
                return place;
            }
        }
        return NONE;
    }

    private static boolean so(List<Block> g, char kind, int a, int b) {
        Found f = find(g);
        boolean one = isBlock(g, a);
        boolean both = one && isBlock(g, b);
        return switch (kind) {
            case '1' -> doAdd(g, a, b) >= 0;
            case '2' -> doCut(g, a, b) >= 0;
            case '3' -> doSplit(g, a, b) >= 0;
            case '4' -> a == 0 && b == 0 && tame(g, f);
            case '5' -> one && f.type[a] == b;
            case '6' -> one && depth(f, a) == b;
            case '7' -> both && f.header[b] == a;
            case '8' -> both && f.passers.get(b).contains(a);
            default -> false;
        };
    }

    private static void orders(List<Integer> left, List<Integer> sofar, List<List<Integer>> all) {
        if (left.isEmpty()) {
            all.add(sofar);
        }
        for (Integer one : left) {
            List<Integer> rest = new ArrayList<>(left);
            rest.remove(one);
            List<Integer> next = new ArrayList<>(sofar);
            next.add(one);
            orders(rest, next, all);
        }
    }

    private List<Block> withArcs(int block, List<Integer> stay) {
        List<Block> g = copy(graph);
        List<Integer> sorted = new ArrayList<>(stay);
        Collections.sort(sorted);
        g.get(block).arcs.clear();
        for (int i : sorted) {
            g.get(block).arcs.add(graph.get(block).arcs.get(i));
        }
        return g;
    }

    private static int told(long top, long below, boolean upper) {
        for (long d = below; d > 1; d--) {
            if (top % d == 0 && below % d == 0) {
                return told(top / d, below / d, upper);
            }
        }
        return (int) (upper ? top : below);
    }

    int share(int block, int i, boolean upper) {
        if (!isArc(graph, block, i)) {
            return UNKNOWN;
        }
        List<Integer> indices = new ArrayList<>();
        for (int k = 0; k < graph.get(block).arcs.size(); k++) {
            indices.add(k);
        }
        List<List<Integer>> all = new ArrayList<>();
        orders(indices, List.of(), all);
        long top = 0;
        for (List<Integer> order : all) {
            int place = order.indexOf(i);
            top += loops(withArcs(block, order.subList(0, place + 1)));
            top -= loops(withArcs(block, order.subList(0, place)));
        }
        return told(top, all.size(), upper);
    }

    // ---- seen

    int see(int k, int letter, int was) {
        if (k < 0 || k > 4 || letter < 'a' || letter > 'z' || was < 0 || was > 1) {
            return BAD;
        }
        if (seen.size() == 6) {
            return FULL;
        }
        seen.add(new int[] {k, letter, was});
        return seen.size();
    }

    int unsee() {
        int was = seen.size();
        seen.clear();
        return was;
    }

    int rows(int what) {
        if (what < 0 || what > 1) {
            return BAD;
        }
        if (graph.isEmpty()) {
            return LATE;
        }
        List<Integer> fitting = new ArrayList<>();
        for (int row = 0; row <= 2222; row++) {
            String choices = figures(row, 4);
            boolean fits = choices.matches("[0-2]{4}");
            for (int[] s : seen) {
                fits = fits && (graph.get(atEnd(choices.substring(0, s[0]))).act == s[1]) == (s[2] == 1);
            }
            if (fits) {
                fitting.add(row);
            }
        }
        return what == 0 ? fitting.size() : fitting.isEmpty() ? NONE : fitting.get(0);
    }

    // ---- chances

    int torn(int block, int x, boolean upper) {
        if (!isBlock(graph, block)) {
            return UNKNOWN;
        }
        if (x < 0 || x > 10) {
            return BAD;
        }
        long below = 1;
        for (int i = 0; i < graph.get(block).arcs.size(); i++) {
            below *= 10;
        }
        return told(tameWays(block, x, 0, new ArrayList<>()), below, upper);
    }

    private long tameWays(int block, int x, int i, List<Integer> stay) {
        if (i == graph.get(block).arcs.size()) {
            List<Block> g = withArcs(block, stay);
            return tame(g, find(g)) ? 1 : 0;
        }
        List<Integer> more = new ArrayList<>(stay);
        more.add(i);
        return x * tameWays(block, x, i + 1, stay) + (10 - x) * tameWays(block, x, i + 1, more);
    }

    long seed(long v) {
        long was = seed;
        seed = v;
        return was;
    }

    int drawn(int m) {
        if (m < 1 || m > 20) {
            return BAD;
        }
        List<Block> g = copy(graph);
        int sum = 0;
        for (int i = 0; i < m; i++) {
            seed = seed * 6364136223846793005L + 1442695040888963407L;
            String bits = Long.toBinaryString(seed);
            while (bits.length() < 64) {
                bits = "0" + bits;
            }
            long upper = Long.parseLong(bits.substring(0, 31), 2);
            int one = (int) (upper % 8);
            int other = (int) (upper / 8 % 8);
            if (upper / 64 % 4 == 3) {
                doCut(g, one, 0);
            } else {
                doAdd(g, one, other);
            }
            sum += loops(g);
        }
        return sum;
    }

    // ---- slots

    int keep(int slot) {
        if (slot < 0 || slot > 1) {
            return UNKNOWN;
        }
        slots.set(slot, copy(graph));
        return arcsOf(graph);
    }

    int again(int slot) {
        if (slot < 0 || slot > 1) {
            return UNKNOWN;
        }
        if (slots.get(slot) == null) {
            return LATE;
        }
        graph = copy(slots.get(slot));
        doings.clear();
        return arcsOf(graph);
    }
}
