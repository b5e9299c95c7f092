import java.util.Arrays;

/** Loops of a graph that may be entered anywhere. The promises are in ../shared/DOC.md. */
public final class NestFinder {
    public static final int UNKNOWN = -1, BAD = -2, LATE = -3, FULL = -4, NONE = -9;

    private static final int MOST_BLOCKS = 12;
    private static final int MOST_TOLD_BLOCKS = 8;
    private static final int MOST_ARCS = 3;
    private static final int MOST_LETTERS = 64;
    private static final int GREATEST_LETTER = 255;
    private static final int MOST_DOINGS = 14;
    private static final int MOST_JUDGED = 4;
    private static final int MOST_CHOICES = 8;
    private static final int UNKNOWN_CHOICES = 4;
    private static final int UNKNOWN_ROWS = 81;
    private static final int MOST_SEEN = 6;
    private static final int MOST_DRAWS = 20;
    private static final int SLOTS = 2;
    private static final int TENTHS = 10;

    private static final int NO_LOOP = 0;
    private static final int ALONE = 1;
    private static final int PROPER = 2;
    private static final int MANY_ENTERED = 3;

    private static final long DRAW_FACTOR = 6364136223846793005L;
    private static final long DRAW_STEP = 1442695040888963407L;

    private final Text text = new Text();
    private final Graph now = new Graph();
    /** Whatever is only tried is done here, so that what is refused leaves nothing behind. */
    private final Graph trial = new Graph();
    private final Survey survey = new Survey();
    private final History history = new History();
    private final Slots slots = new Slots();
    private final Sights sights = new Sights();
    private long seedNow = 0;

    public NestFinder() {
    }

    // ---- the graph

    public int write(int letter) {
        if (letter < 0 || letter > GREATEST_LETTER) {
            return BAD;
        }
        return text.append(letter);
    }

    public int wipe() {
        return text.clear();
    }

    public int fault() {
        return text.readInto(trial);
    }

    public int graph() {
        if (text.readInto(trial) != NONE) {
            return LATE;
        }
        now.copyFrom(trial);
        history.forget();
        slots.forget();
        return now.size;
    }

    public int about(int what) {
        switch (what) {
            case 0:
                return now.size;
            case 1:
                return now.countArcs();
            case 8:
                return history.count;
            case 9:
                return sights.count;
            case 10:
                return text.length;
            default:
                return what >= 2 && what <= 7 ? aboutLoops(what) : BAD;
        }
    }

    private int aboutLoops(int what) {
        survey.read(now);
        switch (what) {
            case 2:
                return survey.reached;
            case 3:
                return survey.countLoops();
            case 4:
                return survey.countManyEntered();
            case 5:
                return survey.greatestDepth();
            case 6:
                return survey.isTame() ? 1 : 0;
            default:
                return survey.backwardArcs;
        }
    }

    public int block(int block, int what) {
        if (!now.hasBlock(block)) {
            return UNKNOWN;
        }
        if (what < 0 || what > 5) {
            return BAD;
        }
        survey.read(now);
        switch (what) {
            case 0:
                return now.acts[block];
            case 1:
                return now.counts[block];
            case 2:
                return survey.order[block];
            case 3:
                return survey.header[block];
            case 4:
                return survey.type[block];
            default:
                return survey.depthOf(block);
        }
    }

    public int arc(int block, int i) {
        if (!now.hasArc(block, i)) {
            return UNKNOWN;
        }
        return now.target(block, i);
    }

    public int sets(int block, int what) {
        if (!now.hasBlock(block)) {
            return UNKNOWN;
        }
        if (what < 0 || what > 3) {
            return BAD;
        }
        survey.read(now);
        if (!survey.hasOrder(block)) {
            return 0;
        }
        switch (what) {
            case 0:
                return survey.beneath[block];
            case 1:
                return survey.nestOf(block);
            case 2:
                return survey.passedBy(block);
            default:
                return survey.entries[block];
        }
    }

    // ---- doings

    public int add(int block, int to) {
        trial.copyFrom(now);
        return settle(trial.appendArc(block, to));
    }

    public int cut(int block, int i) {
        trial.copyFrom(now);
        return settle(trial.dropArc(block, i));
    }

    public int split(int p, int x) {
        trial.copyFrom(now);
        return settle(trial.copyBlockFor(p, x));
    }

    public int mend() {
        survey.read(now);
        if (survey.lastManyEntered() == NONE) {
            return LATE;
        }
        trial.copyFrom(now);
        return settle(mendTrial());
    }

    public int undo() {
        if (history.count == 0) {
            return LATE;
        }
        history.bringLastBack(now);
        return history.count;
    }

    /** What was tried becomes the graph, unless its answer is a refusal. */
    private int settle(int answer) {
        if (answer >= 0) {
            history.remember(now);
            now.copyFrom(trial);
        }
        return answer;
    }

    /** Leaves the survey at the graph that the mending ended with. */
    private int mendTrial() {
        int splits = 0;
        for (int step = 0; step < MOST_BLOCKS; step++) {
            survey.read(trial);
            if (!mendOnce()) {
                break;
            }
            splits++;
        }
        return splits;
    }

    private boolean mendOnce() {
        int w = survey.lastManyEntered();
        if (w == NONE) {
            return false;
        }
        int nest = survey.nestOf(w);
        int outside = survey.reachedMask & ~nest;
        int x = leastTarget(outside, nest & ~(1 << w));
        if (x == NONE) {
            return false;
        }
        return trial.copyBlockFor(leastSource(outside, x), x) >= 0;
    }

    private int leastTarget(int from, int among) {
        int reachable = 0;
        for (int block = 0; block < trial.size; block++) {
            if ((from >> block & 1) != 0) {
                reachable |= survey.targets[block];
            }
        }
        return leastOf(reachable & among);
    }

    private int leastSource(int from, int x) {
        for (int block = 0; block < trial.size; block++) {
            if ((from >> block & 1) != 0 && (survey.targets[block] >> x & 1) != 0) {
                return block;
            }
        }
        return NONE;
    }

    // ---- what would be

    public int run(int n, int row, int what) {
        if (now.size == 0) {
            return LATE;
        }
        if (n < 0 || n > MOST_CHOICES || !areChoices(n, row) || what < 0 || what > 1) {
            return BAD;
        }
        int at = 0;
        for (int place = n - 1; place >= 0; place--) {
            at = now.follow(at, figure(row, place));
        }
        return what == 0 ? at : now.acts[at];
    }

    private static boolean areChoices(int n, int row) {
        if (row < 0 || row >= tens(n)) {
            return false;
        }
        for (int place = 0; place < n; place++) {
            if (figure(row, place) > 2) {
                return false;
            }
        }
        return true;
    }

    public int would(int what) {
        if (what < 0 || what > 2) {
            return BAD;
        }
        trial.copyFrom(now);
        int splits = mendTrial();
        switch (what) {
            case 0:
                return splits;
            case 1:
                return trial.size;
            default:
                return survey.lastManyEntered() == NONE ? 1 : 0;
        }
    }

    public int judge(int n, long row) {
        if (n < 1 || n > MOST_JUDGED || row < 0 || row >= tens(3 * n)) {
            return BAD;
        }
        trial.copyFrom(now);
        for (int place = 0; place < n; place++) {
            int end = 3 * (n - 1 - place);
            if (!holds(figure(row, end + 2), figure(row, end + 1), figure(row, end))) {
                return place;
            }
        }
        return NONE;
    }

    /** Whether a told doing can be, which then is done to the trial, or a told saying is so of it. */
    private boolean holds(int kind, int one, int other) {
        switch (kind) {
            case 1:
                return trial.appendArc(one, other) >= 0;
            case 2:
                return trial.dropArc(one, other) >= 0;
            case 3:
                return trial.copyBlockFor(one, other) >= 0;
            case 4:
                survey.read(trial);
                return one == 0 && other == 0 && survey.isTame();
            default:
                return isSaidOfBlock(kind, one, other);
        }
    }

    private boolean isSaidOfBlock(int kind, int one, int other) {
        if (!trial.hasBlock(one)) {
            return false;
        }
        survey.read(trial);
        switch (kind) {
            case 5:
                return survey.type[one] == other;
            case 6:
                return survey.depthOf(one) == other;
            case 7:
                return trial.hasBlock(other) && survey.header[other] == one;
            case 8:
                return trial.hasBlock(other) && (survey.passedBy(one) >> other & 1) != 0;
            default:
                return false;
        }
    }

    public int share(int block, int i, boolean upper) {
        if (!now.hasArc(block, i)) {
            return UNKNOWN;
        }
        int count = now.counts[block];
        int top = 0;
        for (int come = 0; come < 1 << count; come++) {
            if ((come >> i & 1) == 0) {
                int ahead = Integer.bitCount(come);
                int orders = factorial(ahead) * factorial(count - 1 - ahead);
                top += orders * (loopsWithArcs(block, come | 1 << i) - loopsWithArcs(block, come));
            }
        }
        return inLeastTerms(top, factorial(count), upper);
    }

    private int loopsWithArcs(int block, int stay) {
        surveyWithArcs(block, stay);
        return survey.countLoops();
    }

    private void surveyWithArcs(int block, int stay) {
        trial.copyFrom(now);
        trial.keepArcs(block, stay);
        survey.read(trial);
    }

    // ---- seen

    public int see(int k, int letter, int was) {
        if (k < 0 || k > UNKNOWN_CHOICES || letter < 'a' || letter > 'z' || was < 0 || was > 1) {
            return BAD;
        }
        return sights.append(k, letter, was);
    }

    public int unsee() {
        return sights.clear();
    }

    public int rows(int what) {
        if (what < 0 || what > 1) {
            return BAD;
        }
        if (now.size == 0) {
            return LATE;
        }
        int count = 0;
        int first = NONE;
        for (int number = 0; number < UNKNOWN_ROWS; number++) {
            int row = choicesOf(number);
            if (agreesWithSights(row)) {
                count++;
                first = first == NONE ? row : first;
            }
        }
        return what == 0 ? count : first;
    }

    /** The figures of a number by threes, told by tens. */
    private static int choicesOf(int number) {
        return number / 27 * 1000 + number / 9 % 3 * 100 + number / 3 % 3 * 10 + number % 3;
    }

    private boolean agreesWithSights(int row) {
        int at = 0;
        for (int k = 0; k < UNKNOWN_CHOICES; k++) {
            if (!sights.agree(k, now.acts[at])) {
                return false;
            }
            at = now.follow(at, figure(row, UNKNOWN_CHOICES - 1 - k));
        }
        return sights.agree(UNKNOWN_CHOICES, now.acts[at]);
    }

    // ---- chances

    public int torn(int block, int x, boolean upper) {
        if (!now.hasBlock(block)) {
            return UNKNOWN;
        }
        if (x < 0 || x > TENTHS) {
            return BAD;
        }
        int count = now.counts[block];
        int top = 0;
        for (int stay = 0; stay < 1 << count; stay++) {
            surveyWithArcs(block, stay);
            if (survey.isTame()) {
                int stays = Integer.bitCount(stay);
                top += power(TENTHS - x, stays) * power(x, count - stays);
            }
        }
        return inLeastTerms(top, power(TENTHS, count), upper);
    }

    public long seed(long v) {
        long was = seedNow;
        seedNow = v;
        return was;
    }

    public int drawn(int m) {
        if (m < 1 || m > MOST_DRAWS) {
            return BAD;
        }
        trial.copyFrom(now);
        int loops = 0;
        for (int time = 0; time < m; time++) {
            seedNow = seedNow * DRAW_FACTOR + DRAW_STEP;
            changeByDraw((int) (seedNow >>> 33));
            survey.read(trial);
            loops += survey.countLoops();
        }
        return loops;
    }

    /** A draw that can not be is passed over: its refusal is of no interest. */
    private void changeByDraw(int draw) {
        int one = draw % 8;
        int other = draw / 8 % 8;
        if (draw / 64 % 4 == 3) {
            trial.dropArc(one, 0);
        } else {
            trial.appendArc(one, other);
        }
    }

    // ---- slots

    public int keep(int slot) {
        if (slot < 0 || slot >= SLOTS) {
            return UNKNOWN;
        }
        slots.store(slot, now);
        return now.countArcs();
    }

    public int again(int slot) {
        if (slot < 0 || slot >= SLOTS) {
            return UNKNOWN;
        }
        if (!slots.isFilled[slot]) {
            return LATE;
        }
        slots.bringBack(slot, now);
        history.forget();
        return now.countArcs();
    }

    // ---- numbers

    private static int figure(long row, int place) {
        long left = row;
        for (int i = 0; i < place; i++) {
            left /= 10;
        }
        return (int) (left % 10);
    }

    private static long tens(int exponent) {
        long product = 1;
        for (int i = 0; i < exponent; i++) {
            product *= 10;
        }
        return product;
    }

    private static int power(int base, int exponent) {
        int product = 1;
        for (int i = 0; i < exponent; i++) {
            product *= base;
        }
        return product;
    }

    private static int factorial(int n) {
        int product = 1;
        for (int i = 1; i < n; i++) {
            product *= i + 1;
        }
        return product;
    }

    private static int inLeastTerms(int top, int below, boolean upper) {
        int divisor = greatestDivisor(Math.abs(top), below);
        int told = upper ? top : below;
        return divisor == 0 ? told : told / divisor;
    }

    private static int greatestDivisor(int one, int other) {
        for (int step = 0; step < 64 && other != 0; step++) {
            int left = one % other;
            one = other;
            other = left;
        }
        return one;
    }

    private static int leastOf(int mask) {
        return mask == 0 ? NONE : Integer.numberOfTrailingZeros(mask);
    }

    /** The letters that were written, and how they are read as a graph. */
    private static final class Text {
        private final int[] letters = new int[MOST_LETTERS];
        private int length = 0;

        int append(int letter) {
            if (length >= MOST_LETTERS) {
                return FULL;
            }
            letters[length] = letter;
            length++;
            return length;
        }

        int clear() {
            int was = length;
            length = 0;
            return was;
        }

        /** Answers the fault; only if there is none, what was read is a graph. */
        int readInto(Graph read) {
            read.size = 0;
            if (length == 0 || letters[0] != 'G') {
                return 0;
            }
            if (length == 1) {
                return 1;
            }
            int told = letters[1] - '0';
            if (told < 1 || told > MOST_TOLD_BLOCKS) {
                return 1;
            }
            for (int place = 2; place < length; place++) {
                if (!readLetter(read, told, letters[place])) {
                    return place;
                }
            }
            return read.size < told ? length : NONE;
        }

        private static boolean readLetter(Graph read, int told, int letter) {
            if (letter >= 'a' && letter <= 'z') {
                return read.size < told && read.appendBlock(letter);
            }
            int to = letter - '0';
            return to >= 0 && to < told && read.appendArcToLast(to);
        }
    }

    /** Blocks with their acts and arcs. Every arc goes to a block that there is. */
    private static final class Graph {
        private final int[] acts = new int[MOST_BLOCKS];
        private final int[] counts = new int[MOST_BLOCKS];
        private final int[] arcs = new int[MOST_BLOCKS * MOST_ARCS];
        private int size = 0;

        void copyFrom(Graph other) {
            size = other.size;
            System.arraycopy(other.acts, 0, acts, 0, MOST_BLOCKS);
            System.arraycopy(other.counts, 0, counts, 0, MOST_BLOCKS);
            System.arraycopy(other.arcs, 0, arcs, 0, MOST_BLOCKS * MOST_ARCS);
        }

        boolean hasBlock(int block) {
            return block >= 0 && block < size;
        }

        boolean hasArc(int block, int i) {
            return hasBlock(block) && i >= 0 && i < counts[block];
        }

        int target(int block, int i) {
            return arcs[block * MOST_ARCS + i];
        }

        int countArcs() {
            int sum = 0;
            for (int block = 0; block < size; block++) {
                sum += counts[block];
            }
            return sum;
        }

        int follow(int block, int choice) {
            int count = counts[block];
            return count == 0 ? block : target(block, choice % count);
        }

        boolean appendBlock(int act) {
            if (size >= MOST_BLOCKS) {
                return false;
            }
            acts[size] = act;
            counts[size] = 0;
            size++;
            return true;
        }

        /** While a text is read, the block to which an arc goes may be told later. */
        boolean appendArcToLast(int to) {
            if (size == 0 || counts[size - 1] >= MOST_ARCS) {
                return false;
            }
            putArcBehind(size - 1, to);
            return true;
        }

        private void putArcBehind(int block, int to) {
            arcs[block * MOST_ARCS + counts[block]] = to;
            counts[block]++;
        }

        int appendArc(int block, int to) {
            if (!hasBlock(block) || !hasBlock(to)) {
                return UNKNOWN;
            }
            if (counts[block] >= MOST_ARCS) {
                return FULL;
            }
            putArcBehind(block, to);
            return counts[block];
        }

        int dropArc(int block, int i) {
            if (!hasArc(block, i)) {
                return UNKNOWN;
            }
            int to = target(block, i);
            keepArcs(block, ~(1 << i));
            return to;
        }

        /** Arcs whose bit is not set are gone; the others keep their row. */
        void keepArcs(int block, int stay) {
            int count = counts[block];
            counts[block] = 0;
            for (int i = 0; i < count; i++) {
                if ((stay >> i & 1) != 0) {
                    putArcBehind(block, target(block, i));
                }
            }
        }

        /** A split: p goes to a copy of x, where it went to x. */
        int copyBlockFor(int p, int x) {
            if (!hasBlock(p) || !hasBlock(x)) {
                return UNKNOWN;
            }
            if (!goesTo(p, x)) {
                return LATE;
            }
            int copy = size;
            if (!appendBlock(acts[x])) {
                return FULL;
            }
            // p may be x itself: the copy takes its arcs ahead of their being turned
            int count = counts[x];
            for (int i = 0; i < count; i++) {
                putArcBehind(copy, target(x, i));
            }
            turnArcs(p, x, copy);
            return copy;
        }

        private boolean goesTo(int block, int to) {
            for (int i = 0; i < counts[block]; i++) {
                if (target(block, i) == to) {
                    return true;
                }
            }
            return false;
        }

        private void turnArcs(int block, int from, int to) {
            for (int i = 0; i < counts[block]; i++) {
                if (target(block, i) == from) {
                    arcs[block * MOST_ARCS + i] = to;
                }
            }
        }
    }

    /** What the walk and the loops of one graph are. Sets of blocks are bits. */
    private static final class Survey {
        private final int[] order = new int[MOST_BLOCKS];
        private final int[] blockAt = new int[MOST_BLOCKS];
        private final int[] beneath = new int[MOST_BLOCKS];
        private final int[] targets = new int[MOST_BLOCKS];
        private final int[] backers = new int[MOST_BLOCKS];
        private final int[] entries = new int[MOST_BLOCKS];
        private final int[] header = new int[MOST_BLOCKS];
        private final int[] type = new int[MOST_BLOCKS];
        private int reached = 0;
        private int reachedMask = 0;
        private int backwardArcs = 0;

        void read(Graph graph) {
            clear();
            if (graph.size > 0) {
                reachedMask = visit(this, graph, 0, 0);
            }
            for (int place = 0; place < reached; place++) {
                sortArcs(graph, blockAt[place]);
            }
            for (int place = reached - 1; place >= 0; place--) {
                gather(blockAt[place]);
            }
        }

        private void clear() {
            Arrays.fill(order, NONE);
            Arrays.fill(beneath, 0);
            Arrays.fill(targets, 0);
            Arrays.fill(backers, 0);
            Arrays.fill(entries, 0);
            Arrays.fill(header, NONE);
            Arrays.fill(type, NO_LOOP);
            reached = 0;
            reachedMask = 0;
            backwardArcs = 0;
        }

        /** Answers all that were come to from the block on, itself too. */
        private static int visit(Survey walk, Graph graph, int block, int level) {
            if (level >= MOST_BLOCKS || walk.reached >= MOST_BLOCKS) {
                return 0;
            }
            walk.order[block] = walk.reached;
            walk.blockAt[walk.reached] = block;
            walk.reached++;
            int found = 1 << block;
            for (int i = 0; i < graph.counts[block]; i++) {
                int to = graph.target(block, i);
                if (!walk.hasOrder(to)) {
                    found |= visit(walk, graph, to, level + 1);
                }
            }
            walk.beneath[block] = found;
            return found;
        }

        private void sortArcs(Graph graph, int block) {
            for (int i = 0; i < graph.counts[block]; i++) {
                int to = graph.target(block, i);
                targets[block] |= 1 << to;
                if ((beneath[to] >> block & 1) != 0) {
                    backers[to] |= 1 << block;
                    backwardArcs++;
                } else {
                    entries[to] |= 1 << block;
                }
            }
        }

        /** The loop of w; those of greater order must have been gathered ahead of it. */
        private void gather(int w) {
            if (backers[w] == 0) {
                return;
            }
            int body = leadersOf(backers[w]) & ~(1 << w);
            int done = 0;
            type[w] = body == 0 ? ALONE : PROPER;
            for (int step = 0; step < MOST_BLOCKS && (body & ~done) != 0; step++) {
                int x = Integer.numberOfTrailingZeros(body & ~done);
                done |= 1 << x;
                int leaders = leadersOf(entries[x]);
                body |= leaders & beneath[w] & ~(1 << w);
                int strangers = leaders & ~beneath[w];
                if (strangers != 0) {
                    entries[w] |= strangers;
                    type[w] = MANY_ENTERED;
                }
            }
            for (int block = 0; block < MOST_BLOCKS; block++) {
                if ((body >> block & 1) != 0) {
                    header[block] = w;
                }
            }
        }

        private int leadersOf(int blocks) {
            int leaders = 0;
            for (int block = 0; block < MOST_BLOCKS; block++) {
                if ((blocks >> block & 1) != 0) {
                    leaders |= 1 << leaderOf(block);
                }
            }
            return leaders;
        }

        private int leaderOf(int block) {
            int leader = block;
            for (int step = 0; step < MOST_BLOCKS && header[leader] != NONE; step++) {
                leader = header[leader];
            }
            return leader;
        }

        boolean hasOrder(int block) {
            return order[block] != NONE;
        }

        int countLoops() {
            int count = 0;
            for (int block = 0; block < MOST_BLOCKS; block++) {
                count += type[block] == NO_LOOP ? 0 : 1;
            }
            return count;
        }

        int countManyEntered() {
            int count = 0;
            for (int block = 0; block < MOST_BLOCKS; block++) {
                count += type[block] == MANY_ENTERED ? 1 : 0;
            }
            return count;
        }

        int lastManyEntered() {
            for (int place = reached - 1; place >= 0; place--) {
                if (type[blockAt[place]] == MANY_ENTERED) {
                    return blockAt[place];
                }
            }
            return NONE;
        }

        int depthOf(int block) {
            int depth = type[block] == NO_LOOP ? 0 : 1;
            int above = header[block];
            for (int step = 0; step < MOST_BLOCKS && above != NONE; step++) {
                depth++;
                above = header[above];
            }
            return depth;
        }

        int greatestDepth() {
            int greatest = 0;
            for (int block = 0; block < MOST_BLOCKS; block++) {
                greatest = Math.max(greatest, depthOf(block));
            }
            return greatest;
        }

        /** A header has a lesser order than its body: by rising order one pass is enough. */
        int nestOf(int w) {
            int nest = 1 << w;
            for (int place = 0; place < reached; place++) {
                int above = header[blockAt[place]];
                if (above != NONE && (nest >> above & 1) != 0) {
                    nest |= 1 << blockAt[place];
                }
            }
            return nest;
        }

        boolean isTame() {
            for (int place = 0; place < reached; place++) {
                int w = blockAt[place];
                if (backers[w] != 0 && (backers[w] & ~passedBy(w)) != 0) {
                    return false;
                }
            }
            return true;
        }

        int passedBy(int block) {
            return hasOrder(block) ? reachedMask & ~reachedWithout(block) : 0;
        }

        private int reachedWithout(int barred) {
            int open = ~(1 << barred);
            int found = 1 & open;
            int done = 0;
            for (int step = 0; step < MOST_BLOCKS && (found & ~done) != 0; step++) {
                int block = Integer.numberOfTrailingZeros(found & ~done);
                done |= 1 << block;
                found |= targets[block] & open;
            }
            return found;
        }
    }

    /** Places for graphs, all in the same few rows. */
    private static final class Shelf {
        private final int[] sizes;
        private final int[] acts;
        private final int[] counts;
        private final int[] arcs;

        Shelf(int places) {
            int room = Math.max(0, places);
            sizes = new int[room];
            acts = new int[room * MOST_BLOCKS];
            counts = new int[room * MOST_BLOCKS];
            arcs = new int[room * MOST_BLOCKS * MOST_ARCS];
        }

        void store(int place, Graph graph) {
            if (place < 0 || place >= sizes.length) {
                return;
            }
            int from = place * MOST_BLOCKS;
            sizes[place] = graph.size;
            System.arraycopy(graph.acts, 0, acts, from, MOST_BLOCKS);
            System.arraycopy(graph.counts, 0, counts, from, MOST_BLOCKS);
            System.arraycopy(graph.arcs, 0, arcs, from * MOST_ARCS, MOST_BLOCKS * MOST_ARCS);
        }

        void bringBack(int place, Graph graph) {
            if (place < 0 || place >= sizes.length) {
                return;
            }
            int from = place * MOST_BLOCKS;
            graph.size = sizes[place];
            System.arraycopy(acts, from, graph.acts, 0, MOST_BLOCKS);
            System.arraycopy(counts, from, graph.counts, 0, MOST_BLOCKS);
            System.arraycopy(arcs, from * MOST_ARCS, graph.arcs, 0, MOST_BLOCKS * MOST_ARCS);
        }
    }

    /** Graphs as they were ahead of each doing, in a ring that forgets the first. */
    private static final class History {
        private final Shelf before = new Shelf(MOST_DOINGS);
        private int first = 0;
        private int count = 0;

        void forget() {
            first = 0;
            count = 0;
        }

        void remember(Graph graph) {
            before.store((first + count) % MOST_DOINGS, graph);
            if (count < MOST_DOINGS) {
                count++;
            } else {
                first = (first + 1) % MOST_DOINGS;
            }
        }

        void bringLastBack(Graph graph) {
            if (count > 0) {
                count--;
                before.bringBack((first + count) % MOST_DOINGS, graph);
            }
        }
    }

    /** A slot may hold a graph without blocks: that it is filled is told apart. */
    private static final class Slots {
        private final Shelf kept = new Shelf(SLOTS);
        private final boolean[] isFilled = new boolean[SLOTS];

        void forget() {
            for (int slot = 0; slot < SLOTS; slot++) {
                isFilled[slot] = false;
            }
        }

        void store(int slot, Graph graph) {
            kept.store(slot, graph);
            isFilled[slot] = true;
        }

        void bringBack(int slot, Graph graph) {
            kept.bringBack(slot, graph);
        }
    }

    /** What was seen behind how many of the unknown choices. */
    private static final class Sights {
        private final int[] behind = new int[MOST_SEEN];
        private final int[] letter = new int[MOST_SEEN];
        private final boolean[] was = new boolean[MOST_SEEN];
        private int count = 0;

        int append(int k, int act, int wasSo) {
            if (count >= MOST_SEEN) {
                return FULL;
            }
            behind[count] = k;
            letter[count] = act;
            was[count] = wasSo == 1;
            count++;
            return count;
        }

        int clear() {
            int had = count;
            count = 0;
            return had;
        }

        boolean agree(int k, int act) {
            for (int i = 0; i < count; i++) {
                if (behind[i] == k && (letter[i] == act) != was[i]) {
                    return false;
                }
            }
            return true;
        }
    }
}
