import java.util.Arrays;

/**
 * Weighted trees that describe rooms of three dimensions, with the moves that keep the size of their determinant.
 *
 * <p>Rows are made in constructors and used again, because all that a run makes is counted and never given back.
 * Every index is looked at where it is used, so that no call can make the machine throw.
 */
public final class RoomTrees {
    private static final int LOW = -1100000000;
    private static final int BEYOND = 1;
    private static final int NONE = 2;
    private static final int STATE = 3;
    private static final int FULL = 4;
    private static final int OVER = 5;
    private static final int KIND = 6;
    private static final int MISSING = 7;
    private static final int LEAST_TOLD = -1073741824;
    private static final int MOST_TOLD = 1073741823;

    private static final int PLACES = 12;
    private static final int HEAVIEST = 30;
    private static final int MOST_DONE = 40;
    private static final int TAPE_BYTES = 120;
    private static final int SHELVES = 4;
    private static final int SHEETS = 4;
    private static final int SHEET_NUMBERS = 24;
    private static final int NO_WEIGHT = 99;

    private static final int DOWN = 0;
    private static final int UP = 1;
    private static final int BUD = 2;
    private static final int LONE = 3;
    private static final int ABSORB = 4;
    private static final int SPLIT = 5;
    private static final int MIRROR = 6;
    private static final int DRAW = 7;
    private static final int MIRROR_NUMBER = 600;

    private static final int PLAIN = 0;
    private static final int BOTH = 1;
    private static final int ABSORBER = 2;
    private static final int LATE = 3;
    private static final int SPLITTER = 4;
    private static final int SHY = 5;
    private static final int WORKER_KINDS = 6;
    private static final int MOST_START = 9;

    private static final int MOST_FEWEST = 4;
    private static final int MOST_REACH = 3;
    private static final int MOST_WORK = 12;
    private static final int MOST_CHAIN = 999;
    /** Euclid's steps for two numbers of 63 bits are fewer than 92. */
    private static final int EUCLID_STEPS = 100;

    private final int[] told = new int[MISSING + 1];
    private final Forest forest = new Forest();
    private final Forest thought = new Forest();
    private final Step step = new Step();
    private final Trail trail = new Trail();
    private final Walk walk = new Walk();
    private final Reckoner reckoner = new Reckoner();
    private final Speller speller = new Speller();
    private final Text spelled = new Text();
    private final Search search = new Search();
    private final Tape tape = new Tape();
    private final Forest[] shelves = new Forest[SHELVES];
    private final Sheet[] sheets = new Sheet[SHEETS];
    private final Crew crew = new Crew();
    private final Forest imageForest = new Forest();
    private final Crew imageCrew = new Crew();
    private boolean imaged;

    public RoomTrees() {
    }

    // ---- the forest by hand

    public int vertex(int w) {
        if (!isWeight(w)) {
            return refuse(BEYOND);
        }
        if (forest.size() >= PLACES) {
            return refuse(FULL);
        }
        trail.clear();
        return forest.grow(w);
    }

    public int weigh(int p, int w) {
        if (!forest.has(p) || !isWeight(w)) {
            return refuse(BEYOND);
        }
        int was = forest.weightAt(p);
        forest.setWeight(p, w);
        trail.clear();
        return was;
    }

    public int tie(int p, int q) {
        if (!forest.has(p) || !forest.has(q)) {
            return refuse(BEYOND);
        }
        if (isIn(q, treeOf(p))) {
            return refuse(STATE);
        }
        forest.join(p, q);
        trail.clear();
        return forest.trees();
    }

    public int cut(int p, int q) {
        if (!forest.has(p) || !forest.has(q)) {
            return refuse(BEYOND);
        }
        if (!forest.areNear(p, q)) {
            return refuse(NONE);
        }
        forest.part(p, q);
        trail.clear();
        return forest.trees();
    }

    public int take(int p) {
        if (!forest.has(p)) {
            return refuse(BEYOND);
        }
        int was = forest.weightAt(p);
        forest.remove(p);
        trail.clear();
        return was;
    }

    public int at(int p, int what) {
        if (!forest.has(p)) {
            return refuse(BEYOND);
        }
        switch (what) {
            case 0:
                return forest.weightAt(p);
            case 1:
                return forest.degree(p);
            case 2:
                return forest.nearsAt(p);
            case 3:
                return treeOf(p);
            case 4:
                return step.shrink(forest, p) ? step.kind : -1;
            case 5:
                walk.from(forest, p);
                return walk.farthest();
            default:
                return refuse(BEYOND);
        }
    }

    public int table(int p, int q) {
        if (!forest.has(p) || !forest.has(q)) {
            return refuse(BEYOND);
        }
        if (p == q) {
            return forest.weightAt(p);
        }
        return forest.areNear(p, q) ? 1 : 0;
    }

    // ---- moves

    public int move(int kind, int p, int q, int v, int s) {
        step.mean(kind, p, q, v, s);
        int refused = step.refusal(forest, trail.done >= MOST_DONE);
        if (refused != 0) {
            return refuse(refused);
        }
        trail.perform(step, forest);
        return forest.size();
    }

    public int undo() {
        return trail.back(forest) ? trail.done : refuse(NONE);
    }

    public int redo() {
        return trail.again(forest) ? trail.done : refuse(NONE);
    }

    public int trail(int i, int what) {
        if (what < 0 || what > 4) {
            return refuse(BEYOND);
        }
        Step made = i < trail.done ? trail.stepAt(i) : null;
        if (made == null) {
            return refuse(NONE);
        }
        switch (what) {
            case 0:
                return made.kind;
            case 1:
                return made.p;
            case 2:
                return made.q;
            case 3:
                return made.v;
            default:
                return made.s;
        }
    }

    public int factor() {
        return trail.signs();
    }

    // ---- tables

    public int minor(int set) {
        if ((set & ~forest.set) != 0) {
            return refuse(BEYOND);
        }
        return tell(reckoner.minorOf(forest, set));
    }

    public int det() {
        return tell(reckoner.minorOf(forest, forest.set));
    }

    public int link(int p, int q, int part) {
        if (!forest.has(p) || !forest.has(q) || !isPart(part)) {
            return refuse(BEYOND);
        }
        if (!reckoner.inverseOf(forest, p, q)) {
            return refuse(STATE);
        }
        return tell(part == 0 ? reckoner.upper : reckoner.lower);
    }

    public int inertia(int what) {
        if (what < 0 || what > 2) {
            return refuse(BEYOND);
        }
        reckoner.sortSigns(forest, 0);
        if (what == 0) {
            return reckoner.above;
        }
        return what == 1 ? reckoner.below : reckoner.zeros;
    }

    public int kernel(int prime) {
        if (!isPrime(prime)) {
            return refuse(BEYOND);
        }
        reckoner.sortSigns(forest, prime);
        return reckoner.zeros;
    }

    public int wu(int what) {
        if (!isPart(what)) {
            return refuse(BEYOND);
        }
        reckoner.solveWu(forest);
        return what == 0 ? 1 << reckoner.wuFree : reckoner.wuLeast;
    }

    public int mu() {
        if ((reckoner.minorOf(forest, forest.set) & 1) == 0) {
            return refuse(STATE);
        }
        reckoner.sortSigns(forest, 0);
        reckoner.solveWu(forest);
        return reckoner.above - reckoner.below - forest.tableSum(reckoner.wuLeast);
    }

    // ---- chains

    public int fraction(int p, int q, int part) {
        if (!forest.has(p) || !forest.has(q) || !isPart(part)) {
            return refuse(BEYOND);
        }
        if (!reckoner.fractionOf(forest, p, q)) {
            return refuse(NONE);
        }
        return tell(part == 0 ? reckoner.upper : reckoner.lower);
    }

    public int room(int p, int what) {
        if (!forest.has(p) || !isPart(what)) {
            return refuse(BEYOND);
        }
        int tree = treeOf(p);
        if (!forest.isLine(tree)) {
            return refuse(STATE);
        }
        reckoner.roomOf(forest, tree);
        if (reckoner.upper > MOST_TOLD) {
            return refuse(OVER);
        }
        return tell(what == 0 ? reckoner.upper : reckoner.lower);
    }

    public int oneRoom(int p, int q) {
        if (!forest.has(p) || !forest.has(q)) {
            return refuse(BEYOND);
        }
        int tree = treeOf(p);
        int other = treeOf(q);
        if (!forest.isLine(tree) || !forest.isLine(other)) {
            return refuse(STATE);
        }
        reckoner.roomOf(forest, tree);
        long n = reckoner.upper;
        long m = reckoner.lower;
        reckoner.roomOf(forest, other);
        if (n > MOST_TOLD || reckoner.upper > MOST_TOLD) {
            return refuse(OVER);
        }
        if (n != reckoner.upper) {
            return 0;
        }
        // n 0 and n 1 come here with one and the same m, so that no divisor is 0 below
        if (m == reckoner.lower) {
            return 1;
        }
        return n > 0 && m * reckoner.lower % n == 1 ? 1 : 0;
    }

    public int chain(int n, int m, int i) {
        if (!isChain(n, m) || i < -1) {
            return refuse(BEYOND);
        }
        if (commonDivisor(n, m) != 1) {
            return refuse(STATE);
        }
        int answer = chainNumber(n, m, i);
        return answer == 0 ? refuse(NONE) : answer;
    }

    public int plant(int n, int m) {
        if (!isChain(n, m)) {
            return refuse(BEYOND);
        }
        if (commonDivisor(n, m) != 1) {
            return refuse(STATE);
        }
        int many = chainNumber(n, m, -1);
        if (many > PLACES - forest.size()) {
            return refuse(FULL);
        }
        for (int i = 0; i < many; i++) {
            if (!isWeight(-chainNumber(n, m, i))) {
                return refuse(OVER);
            }
        }
        int first = forest.grow(-chainNumber(n, m, 0));
        int last = first;
        for (int i = 1; i < many; i++) {
            int fresh = forest.grow(-chainNumber(n, m, i));
            forest.join(last, fresh);
            last = fresh;
        }
        trail.clear();
        return first;
    }

    // ---- texts

    public int feed(long word, int n) {
        if (n < 1 || n > 8) {
            return refuse(BEYOND);
        }
        if (tape.length + n > TAPE_BYTES) {
            return refuse(FULL);
        }
        for (int i = 0; i < n; i++) {
            tape.add((int) (word >> 8 * i & 255));
        }
        return tape.length;
    }

    public int forest() {
        int fault = tape.read(thought);
        tape.length = 0;
        if (fault >= 0) {
            return -10 - fault;
        }
        return swap(thought);
    }

    public int least(int i) {
        if (i < -1) {
            return refuse(BEYOND);
        }
        speller.spell(forest, spelled);
        if (i == -1) {
            return spelled.length;
        }
        return i < spelled.length ? spelled.byteAt(i) : refuse(NONE);
    }

    // ---- shelves

    public int keep(int shelf) {
        if (shelf < 0 || shelf >= SHELVES) {
            return refuse(BEYOND);
        }
        Forest kept = new Forest();
        kept.follow(forest);
        shelves[shelf] = kept;
        return kept.size();
    }

    public int fetch(int shelf) {
        if (shelf < 0 || shelf >= SHELVES) {
            return refuse(BEYOND);
        }
        Forest kept = shelves[shelf];
        if (kept == null) {
            return refuse(MISSING);
        }
        return swap(kept);
    }

    public int drop(int shelf) {
        if (shelf < 0 || shelf >= SHELVES) {
            return refuse(BEYOND);
        }
        boolean held = shelves[shelf] != null;
        shelves[shelf] = null;
        return held ? 1 : 0;
    }

    public int alike(int shelf) {
        if (shelf < 0 || shelf >= SHELVES) {
            return refuse(BEYOND);
        }
        Forest kept = shelves[shelf];
        if (kept == null) {
            return refuse(MISSING);
        }
        search.aim(kept);
        return search.isGoal(forest) ? 1 : 0;
    }

    // ---- workers

    public int worker(int kind, int m) {
        if (!isWorkerKind(kind) || !isStart(m)) {
            return refuse(BEYOND);
        }
        int made = crew.hire(kind, m);
        return made < 0 ? refuse(FULL) : made;
    }

    public int workerIs(int worker, int what) {
        if (!crew.has(worker)) {
            return refuse(BEYOND);
        }
        switch (what) {
            case 0:
                return crew.kindOf(worker);
            case 1:
                return crew.startOf(worker);
            case 2:
                return crew.jobsOf(worker);
            case 3:
                return Crew.cost(crew.kindOf(worker), crew.startOf(worker));
            default:
                return refuse(BEYOND);
        }
    }

    public int become(int worker, int kind) {
        if (!crew.has(worker) || !isWorkerKind(kind)) {
            return refuse(BEYOND);
        }
        int was = crew.kindOf(worker);
        crew.retrain(worker, kind);
        return was;
    }

    public int as(int worker, int kind) {
        if (!crew.has(worker) || !isWorkerKind(kind)) {
            return refuse(BEYOND);
        }
        return Crew.isUnder(crew.kindOf(worker), kind) ? crew.startOf(worker) : refuse(KIND);
    }

    public int next(int worker, int what) {
        if (!crew.has(worker) || !isPart(what)) {
            return refuse(BEYOND);
        }
        if (!Crew.plan(step, forest, crew.kindOf(worker), crew.startOf(worker))) {
            return refuse(NONE);
        }
        return what == 0 ? step.kind : step.p;
    }

    public int work(int worker, int n) {
        if (!crew.has(worker) || n < 1 || n > MOST_WORK) {
            return refuse(BEYOND);
        }
        if (trail.done + n > MOST_DONE) {
            return refuse(FULL);
        }
        int kind = crew.kindOf(worker);
        int m = crew.startOf(worker);
        int did = 0;
        while (did < n && Crew.plan(step, forest, kind, m)) {
            trail.perform(step, forest);
            did++;
        }
        crew.credit(worker, did);
        return did;
    }

    public int rest(int worker, int what) {
        if (!crew.has(worker) || what < 0 || what > 2) {
            return refuse(BEYOND);
        }
        int moves = thinkToTheEnd(crew.kindOf(worker), crew.startOf(worker));
        if (what == 0) {
            return moves;
        }
        return what == 1 ? thought.size() : thought.weightSum();
    }

    public int best(int m) {
        if (!isStart(m)) {
            return refuse(BEYOND);
        }
        int best = -1;
        int fewest = PLACES + 1;
        for (int kind = 0; kind < WORKER_KINDS; kind++) {
            thinkToTheEnd(kind, m);
            if (thought.size() < fewest) {
                fewest = thought.size();
                best = kind;
            }
        }
        return best;
    }

    // ---- what moves can do

    public int fewest(int n, int what) {
        if (n < 0 || n > MOST_FEWEST || what < 0 || what > 2) {
            return refuse(BEYOND);
        }
        search.dig(forest, n);
        if (what == 0) {
            return search.left;
        }
        return what == 1 ? search.moves : search.first;
    }

    public int reach(int shelf, int n) {
        if (shelf < 0 || shelf >= SHELVES || n < 0 || n > MOST_REACH) {
            return refuse(BEYOND);
        }
        Forest kept = shelves[shelf];
        if (kept == null) {
            return refuse(MISSING);
        }
        search.aim(kept);
        search.begin(forest);
        for (int moves = 0; moves <= n; moves++) {
            if (Search.climb(search, 0, moves)) {
                return moves;
            }
        }
        return refuse(NONE);
    }

    // ---- sheets, images, what is told

    public int sheet(int sheet, int bits, int n) {
        if (sheet < 0 || sheet >= SHEETS || bits != 0 && bits != 8 && bits != 16 && bits != 32) {
            return refuse(BEYOND);
        }
        if (bits == 0) {
            sheets[sheet] = null;
            return 1;
        }
        if (n < 0) {
            return refuse(STATE);
        }
        if (n > SHEET_NUMBERS) {
            return refuse(BEYOND);
        }
        sheets[sheet] = new Sheet(bits, n);
        return 1;
    }

    public int put(int sheet, int i, int v) {
        if (sheet < 0 || sheet >= SHEETS) {
            return refuse(BEYOND);
        }
        Sheet row = sheets[sheet];
        if (row == null) {
            return refuse(MISSING);
        }
        if (!row.has(i)) {
            return refuse(BEYOND);
        }
        row.write(i, v);
        return 1;
    }

    public int number(int sheet, int i) {
        if (sheet < 0 || sheet >= SHEETS) {
            return refuse(BEYOND);
        }
        Sheet row = sheets[sheet];
        if (row == null) {
            return refuse(MISSING);
        }
        return row.has(i) ? row.read(i) : refuse(BEYOND);
    }

    public int copy(int sheet, int i, int other, int j, int n) {
        if (sheet < 0 || sheet >= SHEETS || other < 0 || other >= SHEETS) {
            return refuse(BEYOND);
        }
        Sheet from = sheets[sheet];
        Sheet to = sheets[other];
        if (from == null || to == null) {
            return refuse(MISSING);
        }
        if (from.bits != to.bits) {
            return refuse(KIND);
        }
        if (!from.holds(i, n) || !to.holds(j, n)) {
            return refuse(BEYOND);
        }
        System.arraycopy(from.numbers, i, to.numbers, j, n);
        return n;
    }

    public int weighAll(int sheet) {
        if (sheet < 0 || sheet >= SHEETS) {
            return refuse(BEYOND);
        }
        Sheet row = sheets[sheet];
        if (row == null) {
            return refuse(MISSING);
        }
        int many = 0;
        while (many < PLACES && row.has(many) && forest.has(many) && isWeight(row.read(many))) {
            forest.setWeight(many, row.read(many));
            many++;
        }
        trail.clear();
        return many;
    }

    public int book(int sheet) {
        if (sheet < 0 || sheet >= SHEETS) {
            return refuse(BEYOND);
        }
        Sheet row = sheets[sheet];
        if (row == null) {
            return refuse(MISSING);
        }
        int many = 0;
        while (many < PLACES && row.has(many)) {
            row.write(many, forest.has(many) ? forest.weightAt(many) : NO_WEIGHT);
            many++;
        }
        return many;
    }

    public int plays(int sheet, int what) {
        if (sheet < 0 || sheet >= SHEETS || !isPart(what)) {
            return refuse(BEYOND);
        }
        Sheet row = sheets[sheet];
        if (row == null) {
            return refuse(MISSING);
        }
        thought.follow(forest);
        int many = 0;
        while (many < SHEET_NUMBERS && row.has(many) && step.meanNumber(row.read(many))
                && step.refusal(thought, false) == 0) {
            step.act(thought);
            many++;
        }
        return what == 0 ? many : thought.size();
    }

    public int image() {
        imageForest.follow(forest);
        imageCrew.follow(crew);
        imaged = true;
        return forest.size();
    }

    public int restore() {
        if (!imaged) {
            return refuse(NONE);
        }
        crew.follow(imageCrew);
        return swap(imageForest);
    }

    public int count(int what) {
        switch (what) {
            case 0:
                return forest.size();
            case 1:
                return forest.trees();
            case 2:
                return forest.edges();
            case 3:
                return forest.weightSum();
            case 4:
                return trail.done;
            case 5:
                return trail.known - trail.done;
            case 6:
                return crew.size;
            case 7:
                return tape.length;
            case 8:
                return shelvesHeld();
            case 9:
                return crew.allJobs();
            default:
                return refuse(BEYOND);
        }
    }

    public int told(int k) {
        return k < 1 || k > MISSING ? refuse(BEYOND) : told[k];
    }

    // ---- what several acts share

    private int refuse(int k) {
        if (k > 0 && k < told.length) {
            told[k]++;
        }
        return LOW - k;
    }

    private int tell(long x) {
        return x < LEAST_TOLD || x > MOST_TOLD ? refuse(OVER) : (int) x;
    }

    /** THE FOREST becomes another one BY HAND. */
    private int swap(Forest other) {
        forest.follow(other);
        trail.clear();
        return forest.size();
    }

    private int treeOf(int p) {
        walk.from(forest, p);
        return walk.seen;
    }

    private int thinkToTheEnd(int kind, int m) {
        thought.follow(forest);
        int moves = 0;
        // each such MOVE takes a VERTEX away at least
        while (moves < PLACES && Crew.plan(step, thought, kind, m)) {
            step.act(thought);
            moves++;
        }
        return moves;
    }

    private int shelvesHeld() {
        int held = 0;
        for (int i = 0; i < SHELVES; i++) {
            held += shelves[i] == null ? 0 : 1;
        }
        return held;
    }

    private static boolean isPlace(int p) {
        return p >= 0 && p < PLACES;
    }

    private static boolean isIn(int p, int set) {
        return p >= 0 && p < PLACES && (set >> p & 1) != 0;
    }

    private static boolean isWeight(int w) {
        return w >= -HEAVIEST && w <= HEAVIEST;
    }

    private static boolean isPart(int part) {
        return part == 0 || part == 1;
    }

    private static boolean isPrime(int x) {
        return x == 2 || x == 3 || x == 5 || x == 7 || x == 11 || x == 13;
    }

    private static boolean isWorkerKind(int kind) {
        return kind >= 0 && kind < WORKER_KINDS;
    }

    private static boolean isStart(int m) {
        return m >= 0 && m <= MOST_START;
    }

    private static boolean isChain(int n, int m) {
        return n >= 2 && n <= MOST_CHAIN && m >= 1 && m < n;
    }

    /** The least PLACE of a set, -1 of none. */
    private static int leastOf(int set) {
        for (int p = 0; p < PLACES; p++) {
            if ((set >> p & 1) != 0) {
                return p;
            }
        }
        return -1;
    }

    /** The greatest PLACE of a set, -1 of none. */
    private static int greatestOf(int set) {
        for (int p = PLACES - 1; p >= 0; p--) {
            if ((set >> p & 1) != 0) {
                return p;
            }
        }
        return -1;
    }

    private static long commonDivisor(long x, long y) {
        long a = x < 0 ? -x : x;
        long b = y < 0 ? -y : y;
        for (int i = 0; i < EUCLID_STEPS && b != 0; i++) {
            long left = a % b;
            a = b;
            b = left;
        }
        return a;
    }

    /** Number i of CHAIN, which is never 0; 0 if there is none; of i -1 how many there are. */
    private static int chainNumber(int n, int m, int i) {
        int above = n;
        int below = m;
        int many = 0;
        while (many < MOST_CHAIN && below > 0) {
            int number = (above + below - 1) / below;
            if (many == i) {
                return number;
            }
            int left = number * below - above;
            above = below;
            below = left;
            many++;
        }
        return i == -1 ? many : 0;
    }

    /** VERTICES with their WEIGHTS, and the EDGES between them. */
    private static final class Forest {
        private final int[] weights = new int[PLACES];
        private final int[] nears = new int[PLACES];
        private int set;

        Forest() {
        }

        void clear() {
            Arrays.fill(weights, 0);
            Arrays.fill(nears, 0);
            set = 0;
        }

        void follow(Forest other) {
            System.arraycopy(other.weights, 0, weights, 0, PLACES);
            System.arraycopy(other.nears, 0, nears, 0, PLACES);
            set = other.set;
        }

        boolean has(int p) {
            return p >= 0 && p < PLACES && (set >> p & 1) != 0;
        }

        int size() {
            return Integer.bitCount(set);
        }

        int weightAt(int p) {
            return p >= 0 && p < PLACES ? weights[p] : 0;
        }

        int nearsAt(int p) {
            return p >= 0 && p < PLACES ? nears[p] : 0;
        }

        int degree(int p) {
            return p >= 0 && p < PLACES ? Integer.bitCount(nears[p]) : 0;
        }

        boolean areNear(int p, int q) {
            return p >= 0 && p < PLACES && q >= 0 && q < PLACES && (nears[p] >> q & 1) != 0;
        }

        int edges() {
            int ends = 0;
            for (int p = 0; p < PLACES; p++) {
                ends += Integer.bitCount(nears[p]);
            }
            return ends / 2;
        }

        /** Without rings there is one EDGE less in each TREE than it has VERTICES. */
        int trees() {
            return size() - edges();
        }

        int weightSum() {
            int sum = 0;
            for (int p = 0; p < PLACES; p++) {
                sum += weights[p];
            }
            return sum;
        }

        boolean isLine(int tree) {
            for (int p = 0; p < PLACES; p++) {
                if (isIn(p, tree) && degree(p) > 2) {
                    return false;
                }
            }
            return true;
        }

        /** All numbers of THE TABLE of two of a set, together. */
        int tableSum(int some) {
            int sum = 0;
            for (int p = 0; p < PLACES; p++) {
                if (isIn(p, some)) {
                    sum += weights[p] + Integer.bitCount(nears[p] & some);
                }
            }
            return sum;
        }

        void setWeight(int p, int w) {
            if (has(p)) {
                weights[p] = w;
            }
        }

        void addWeight(int p, int more) {
            if (has(p)) {
                weights[p] += more;
            }
        }

        void mirror() {
            for (int p = 0; p < PLACES; p++) {
                weights[p] = -weights[p];
            }
        }

        /** A new VERTEX: its PLACE, -1 if there is no room. */
        int grow(int w) {
            int p = leastOf(~set);
            if (isPlace(p)) {
                set |= 1 << p;
                weights[p] = w;
            }
            return p;
        }

        void join(int p, int q) {
            if (p >= 0 && p < PLACES && q >= 0 && q < PLACES) {
                nears[p] |= 1 << q;
                nears[q] |= 1 << p;
            }
        }

        void joinAll(int p, int some) {
            for (int q = 0; q < PLACES; q++) {
                if ((some >> q & 1) != 0) {
                    join(p, q);
                }
            }
        }

        void part(int p, int q) {
            if (p >= 0 && p < PLACES && q >= 0 && q < PLACES) {
                nears[p] &= ~(1 << q);
                nears[q] &= ~(1 << p);
            }
        }

        void partAll(int p, int some) {
            for (int q = 0; q < PLACES; q++) {
                if ((some >> q & 1) != 0) {
                    part(p, q);
                }
            }
        }

        void remove(int p) {
            if (has(p)) {
                for (int q = 0; q < PLACES; q++) {
                    nears[q] &= ~(1 << p);
                }
                nears[p] = 0;
                weights[p] = 0;
                set &= ~(1 << p);
            }
        }

        /** A number that is the same for any two FORESTS that are ALIKE: it spares most of the spelling. */
        int print() {
            int print = 0;
            for (int p = 0; p < PLACES; p++) {
                if (has(p)) {
                    int own = (weights[p] * 31 + degree(p)) * 1009 + nearSum(p) + 77777;
                    print += own * own * own;
                }
            }
            return print;
        }

        private int nearSum(int p) {
            int sum = 0;
            for (int q = 0; q < PLACES; q++) {
                sum += areNear(p, q) ? weights[q] : 0;
            }
            return sum;
        }
    }

    /** One MOVE with its numbers, and THE FOREST ahead of it where a TRAIL keeps it. */
    private static final class Step {
        private static final int HAS_P = 1;
        private static final int HAS_Q = 2;
        private static final int HAS_V = 4;
        private static final int HAS_S = 8;
        /** By KIND: which numbers a MOVE has. */
        private static final int[] HAS = {HAS_P, HAS_P | HAS_Q | HAS_V, HAS_P | HAS_V, HAS_V, HAS_P, HAS_P, 0,
            HAS_P | HAS_V | HAS_S};
        /** By KIND: how many new VERTICES come. */
        private static final int[] NEW = {0, 1, 1, 1, 0, 0, 0, 2};

        private int kind;
        private int p;
        private int q;
        private int v;
        private int s;
        private int sign;
        private final Forest ahead = new Forest();

        Step() {
        }

        /** Numbers that the MOVE doesn't have are 0, as trail() tells them. */
        void mean(int kind, int p, int q, int v, int s) {
            int has = kind >= 0 && kind < HAS.length ? HAS[kind] : 0;
            this.kind = kind;
            this.p = (has & HAS_P) == 0 ? 0 : p;
            this.q = (has & HAS_Q) == 0 ? 0 : q;
            this.v = (has & HAS_V) == 0 ? 0 : v;
            this.s = (has & HAS_S) == 0 ? 0 : s;
        }

        /** By a number of a SHEET: whether it tells a MOVE. */
        boolean meanNumber(int number) {
            if (number == MIRROR_NUMBER) {
                mean(MIRROR, 0, 0, 0, 0);
                return true;
            }
            if (number < 0) {
                return false;
            }
            mean(number / 100, number % 100, 0, 0, 0);
            return kind == DOWN || kind == ABSORB || kind == SPLIT;
        }

        /** Becomes that one of DOWN, ABSORB, SPLIT at a PLACE that is not REFUSED: whether there is one. */
        boolean shrink(Forest f, int place) {
            int w = f.weightAt(place);
            int kindThere = w != 0 ? DOWN : f.degree(place) == 1 ? SPLIT : ABSORB;
            mean(kindThere, place, 0, 0, 0);
            return refusal(f, false) == 0;
        }

        /** Becomes the first MOVE of a KIND by a WEIGHT, from PLACE m on, that is not REFUSED: whether there is one. */
        boolean seek(Forest f, int kind, int weight, int m, boolean late, int mostNear) {
            for (int i = 0; i < PLACES; i++) {
                int place = late ? PLACES - 1 - i : i;
                if (place >= m && f.weightAt(place) == weight && f.degree(place) <= mostNear) {
                    mean(kind, place, 0, 0, 0);
                    if (refusal(f, false) == 0) {
                        return true;
                    }
                }
            }
            return false;
        }

        /** The ERROR with which the MOVE is REFUSED, 0 if it is not; it is FULL as well for a TRAIL that is. */
        int refusal(Forest f, boolean full) {
            if (!isTold(f)) {
                return BEYOND;
            }
            if (!fits(f)) {
                return STATE;
            }
            int fresh = kind >= 0 && kind < NEW.length ? NEW[kind] : 0;
            if (full || fresh > PLACES - f.size()) {
                return FULL;
            }
            return overloads(f) ? OVER : 0;
        }

        private boolean isTold(Forest f) {
            if (kind < 0 || kind >= HAS.length) {
                return false;
            }
            int has = HAS[kind];
            if ((has & HAS_P) != 0 && !f.has(p) || (has & HAS_Q) != 0 && !f.has(q)) {
                return false;
            }
            if (kind == DRAW) {
                return isWeight(v) && (s & ~f.nearsAt(p)) == 0;
            }
            return (has & HAS_V) == 0 || v == 1 || v == -1;
        }

        private boolean fits(Forest f) {
            int w = f.weightAt(p);
            switch (kind) {
                case DOWN:
                    return (w == 1 || w == -1) && f.degree(p) <= 2;
                case UP:
                    return f.areNear(p, q);
                case ABSORB:
                    return w == 0 && f.degree(p) == 2;
                case SPLIT:
                    return w == 0 && f.degree(p) == 1;
                default:
                    return true;
            }
        }

        private boolean overloads(Forest f) {
            int w = f.weightAt(p);
            int near = f.nearsAt(p);
            int one = leastOf(near);
            int other = greatestOf(near);
            switch (kind) {
                case DOWN:
                    return near != 0 && (!isWeight(f.weightAt(one) - w) || !isWeight(f.weightAt(other) - w));
                case UP:
                    return !isWeight(w + v) || !isWeight(f.weightAt(q) + v);
                case BUD:
                    return !isWeight(w + v);
                case ABSORB:
                    return !isWeight(f.weightAt(one) + f.weightAt(other));
                case DRAW:
                    return !isWeight(w - v);
                default:
                    return false;
            }
        }

        int signOn(Forest f) {
            switch (kind) {
                case DOWN:
                    return f.weightAt(p);
                case UP:
                case BUD:
                case LONE:
                    return v;
                case MIRROR:
                    return (f.size() & 1) == 0 ? 1 : -1;
                default:
                    return -1;
            }
        }

        /** Does the MOVE, which is not REFUSED. */
        void act(Forest f) {
            switch (kind) {
                case DOWN:
                    blowDown(f);
                    break;
                case UP:
                    f.part(p, q);
                    f.addWeight(q, v);
                    f.join(bud(f), q);
                    break;
                case BUD:
                    bud(f);
                    break;
                case LONE:
                    f.grow(v);
                    break;
                case ABSORB:
                    absorb(f);
                    break;
                case SPLIT:
                    f.remove(leastOf(f.nearsAt(p)));
                    f.remove(p);
                    break;
                case MIRROR:
                    f.mirror();
                    break;
                case DRAW:
                    draw(f);
                    break;
                default:
                    break;
            }
        }

        private void blowDown(Forest f) {
            int e = f.weightAt(p);
            int near = f.nearsAt(p);
            int one = leastOf(near);
            int other = greatestOf(near);
            f.remove(p);
            f.addWeight(one, -e);
            if (one != other) {
                f.addWeight(other, -e);
                f.join(one, other);
            }
        }

        private int bud(Forest f) {
            int fresh = f.grow(v);
            f.addWeight(p, v);
            f.join(fresh, p);
            return fresh;
        }

        private void absorb(Forest f) {
            int one = leastOf(f.nearsAt(p));
            int other = greatestOf(f.nearsAt(p));
            f.remove(p);
            int others = f.nearsAt(other);
            f.addWeight(one, f.weightAt(other));
            f.remove(other);
            f.joinAll(one, others);
        }

        private void draw(Forest f) {
            int zero = f.grow(0);
            int fresh = f.grow(v);
            f.addWeight(p, -v);
            f.partAll(p, s);
            f.joinAll(fresh, s);
            f.join(p, zero);
            f.join(zero, fresh);
        }
    }

    /** MOVES that are DONE, and behind them those TAKEN BACK. */
    private static final class Trail {
        private final Step[] steps = new Step[MOST_DONE];
        private int done;
        private int known;

        Trail() {
            for (int i = 0; i < MOST_DONE; i++) {
                steps[i] = new Step();
            }
        }

        Step stepAt(int i) {
            return i >= 0 && i < MOST_DONE ? steps[i] : null;
        }

        void clear() {
            done = 0;
            known = 0;
        }

        void perform(Step step, Forest f) {
            Step made = stepAt(done);
            if (made == null) {
                return;
            }
            made.mean(step.kind, step.p, step.q, step.v, step.s);
            made.sign = made.signOn(f);
            made.ahead.follow(f);
            made.act(f);
            done++;
            known = done;
        }

        boolean back(Forest f) {
            Step made = done > 0 ? stepAt(done - 1) : null;
            if (made == null) {
                return false;
            }
            f.follow(made.ahead);
            done--;
            return true;
        }

        boolean again(Forest f) {
            Step made = done < known ? stepAt(done) : null;
            if (made == null) {
                return false;
            }
            made.act(f);
            done++;
            return true;
        }

        int signs() {
            int product = 1;
            for (int i = 0; i < done && i < MOST_DONE; i++) {
                Step made = steps[i];
                product *= made == null ? 1 : made.sign;
            }
            return product;
        }
    }

    /** VERTICES of a set in such an order that each comes behind the one on its way from the root. */
    private static final class Walk {
        private final int[] order = new int[PLACES];
        private final int[] holders = new int[PLACES];
        private final int[] depths = new int[PLACES];
        private int size;
        private int seen;

        Walk() {
        }

        void over(Forest f, int set) {
            size = 0;
            seen = 0;
            for (int p = 0; p < PLACES; p++) {
                if (isIn(p, set) && !isIn(p, seen)) {
                    spread(f, set, p);
                }
            }
        }

        void from(Forest f, int root) {
            size = 0;
            seen = 0;
            if (f.has(root)) {
                spread(f, f.set, root);
            }
        }

        private void spread(Forest f, int set, int root) {
            int start = size;
            enter(root, -1, 0);
            for (int i = start; i < size && i < PLACES; i++) {
                int p = order[i];
                int fresh = f.nearsAt(p) & set & ~seen;
                for (int q = 0; q < PLACES; q++) {
                    if (isIn(q, fresh)) {
                        enter(q, p, depthAt(p) + 1);
                    }
                }
            }
        }

        private void enter(int p, int holder, int depth) {
            if (p >= 0 && p < PLACES && size >= 0 && size < PLACES) {
                order[size] = p;
                size++;
                holders[p] = holder;
                depths[p] = depth;
                seen |= 1 << p;
            }
        }

        int placeAt(int i) {
            return i >= 0 && i < size && i < PLACES ? order[i] : -1;
        }

        int holderOf(int p) {
            return p >= 0 && p < PLACES ? holders[p] : -1;
        }

        int depthAt(int p) {
            return p >= 0 && p < PLACES ? depths[p] : 0;
        }

        int farthest() {
            return depthAt(placeAt(size - 1));
        }

        /** THE PATH of two VERTICES as a set, 0 if they aren't of one TREE. */
        int path(Forest f, int p, int q) {
            from(f, q);
            if (!isIn(p, seen)) {
                return 0;
            }
            int path = 0;
            int on = p;
            for (int i = 0; i < PLACES && isPlace(on); i++) {
                path |= 1 << on;
                on = holderOf(on);
            }
            return path;
        }
    }

    /** Numbers of THE TABLE, reckoned from the leaves to the roots, since there are no rings. */
    private static final class Reckoner {
        private final Walk walk = new Walk();
        /** MINORS of what hangs on a VERTEX as far as it is reckoned: with it, and without it. */
        private final long[] tops = new long[PLACES];
        private final long[] rests = new long[PLACES];
        private final int[] rows = new int[PLACES];
        private long upper;
        private long lower;
        private int paired;
        private int above;
        private int below;
        private int zeros;
        private int wuFree;
        private int wuLeast;

        Reckoner() {
        }

        long minorOf(Forest f, int set) {
            walk.over(f, set);
            start(f, 0);
            long product = 1;
            for (int i = PLACES - 1; i >= 0; i--) {
                int p = walk.placeAt(i);
                int holder = walk.holderOf(p);
                if (isPlace(p) && isPlace(holder)) {
                    fold(p, holder, 0);
                } else if (isPlace(p)) {
                    product *= tops[p];
                }
            }
            return product;
        }

        private void start(Forest f, int prime) {
            for (int p = 0; p < PLACES; p++) {
                tops[p] = left(f.weightAt(p), prime);
                rests[p] = 1;
            }
        }

        private void fold(int p, int holder, int prime) {
            if (isPlace(p) && isPlace(holder)) {
                tops[holder] = left(tops[holder] * tops[p] - rests[holder] * rests[p], prime);
                rests[holder] = left(rests[holder] * tops[p], prime);
            }
        }

        /** What is left of a number by a prime; by 0 the number itself. */
        private static long left(long x, int prime) {
            return prime > 0 ? Math.floorMod(x, (long) prime) : x;
        }

        boolean inverseOf(Forest f, int p, int q) {
            long det = minorOf(f, f.set);
            if (det == 0) {
                return false;
            }
            int path = walk.path(f, p, q);
            long around = path == 0 ? 0 : minorOf(f, f.set & ~path);
            // each EDGE of THE PATH turns the sign
            long cofactor = (Integer.bitCount(path) & 1) == 0 ? -around : around;
            long divisor = commonDivisor(cofactor, det);
            if (divisor == 0) {
                return false;
            }
            upper = cofactor / divisor;
            lower = det / divisor;
            if (lower < 0) {
                upper = -upper;
                lower = -lower;
            }
            return true;
        }

        boolean fractionOf(Forest f, int p, int q) {
            int path = walk.path(f, p, q);
            if (path == 0) {
                return false;
            }
            upper = minorOf(f, path);
            lower = minorOf(f, path & ~(1 << p));
            if (lower < 0) {
                upper = -upper;
                lower = -lower;
            } else if (lower == 0) {
                upper = 1;
            }
            return true;
        }

        /** ROOM of a LINE: upper is n, lower is m. */
        void roomOf(Forest f, int tree) {
            int end = -1;
            for (int p = PLACES - 1; p >= 0; p--) {
                if (isIn(p, tree) && f.degree(p) <= 1) {
                    end = p;
                }
            }
            int without = isPlace(end) ? tree & ~(1 << end) : tree;
            long minor = minorOf(f, tree);
            long b = minorOf(f, without);
            upper = minor < 0 ? -minor : minor;
            if (upper <= 0) {
                lower = 1;
            } else {
                lower = Math.floorMod(minor > 0 ? -b : b, upper);
            }
        }

        /** INERTIA, by prime 0; by another prime just zeros counts, and it is KERNEL. */
        void sortSigns(Forest f, int prime) {
            walk.over(f, f.set);
            start(f, prime);
            paired = 0;
            above = 0;
            below = 0;
            zeros = 0;
            for (int i = PLACES - 1; i >= 0; i--) {
                int p = walk.placeAt(i);
                if (isPlace(p)) {
                    settle(p, walk.holderOf(p), prime);
                }
            }
        }

        /**
         * A VERTEX whose number came to 0 clears all else of its holder's row: the two together have one
         * eigenvalue above 0 and one below, and the holder is cut off from its own holder.
         */
        private void settle(int p, int holder, int prime) {
            if (isIn(p, paired)) {
                above++;
                below++;
            } else if (isPlace(p) && tops[p] != 0) {
                boolean isAbove = tops[p] > 0 == rests[p] > 0;
                above += isAbove ? 1 : 0;
                below += isAbove ? 0 : 1;
                fold(p, holder, prime);
            } else if (isPlace(holder) && !isIn(holder, paired)) {
                paired |= 1 << holder;
            } else {
                zeros++;
            }
        }

        /**
         * WU SETS by elimination from the least PLACE on: what is free hangs on lesser PLACES alone, so that
         * the set without any free PLACE is the least.
         */
        void solveWu(Forest f) {
            for (int p = 0; p < PLACES; p++) {
                int odd = f.weightAt(p) & 1;
                rows[p] = f.nearsAt(p) | odd << p | odd << PLACES;
            }
            int rank = 0;
            wuLeast = 0;
            for (int column = 0; column < PLACES; column++) {
                int found = rowWith(column, rank);
                if (isPlace(found) && isPlace(rank)) {
                    int row = rows[found];
                    rows[found] = rows[rank];
                    rows[rank] = row;
                    clearColumn(column, rank);
                    rank++;
                }
            }
            wuFree = Math.max(0, f.size() - rank);
            readLeast(rank);
        }

        private int rowWith(int column, int from) {
            for (int i = 0; i < PLACES; i++) {
                if (i >= from && isIn(column, rows[i])) {
                    return i;
                }
            }
            return -1;
        }

        private void clearColumn(int column, int but) {
            for (int i = 0; i < PLACES; i++) {
                if (i != but && isPlace(but) && isIn(column, rows[i])) {
                    rows[i] ^= rows[but];
                }
            }
        }

        private void readLeast(int rank) {
            for (int i = 0; i < rank && i < PLACES; i++) {
                if ((rows[i] >> PLACES & 1) != 0) {
                    wuLeast |= 1 << Math.max(0, leastOf(rows[i]));
                }
            }
        }
    }

    /** A row of bytes, long enough for any LEAST TEXT. */
    private static final class Text {
        private static final int MOST = 5 * PLACES;
        private final byte[] bytes = new byte[MOST];
        private int length;

        Text() {
        }

        void add(int b) {
            if (length >= 0 && length < MOST) {
                bytes[length] = (byte) b;
                length++;
            }
        }

        void addWeight(int w) {
            int size = w < 0 ? -w : w;
            if (w < 0) {
                add('-');
            }
            if (size >= 10) {
                add('0' + size / 10);
            }
            add('0' + size % 10);
        }

        void addAll(Text other) {
            int many = Math.max(0, Math.min(other.length, MOST - length));
            if (length >= 0) {
                System.arraycopy(other.bytes, 0, bytes, length, many);
                length += many;
            }
        }

        int byteAt(int i) {
            return i >= 0 && i < MOST ? bytes[i] : 0;
        }

        /** Whether it comes ahead of another one in a dictionary; no TEXT is the beginning of another TEXT. */
        boolean isAhead(Text other) {
            int both = Math.min(length, other.length);
            for (int i = 0; i < both && i < MOST; i++) {
                if (bytes[i] != other.bytes[i]) {
                    return bytes[i] < other.bytes[i];
                }
            }
            return length < other.length;
        }

        boolean isSame(Text other) {
            return !isAhead(other) && !other.isAhead(this);
        }
    }

    /** Spells LEAST TEXTS. */
    private static final class Speller {
        private final Walk walk = new Walk();
        /** By PLACES: the least TEXT of what hangs on a VERTEX, by the root at hand. */
        private final Text[] hanging = new Text[PLACES];
        /** By their least PLACES: LEAST TEXTS of TREES. */
        private final Text[] trees = new Text[PLACES];

        Speller() {
            for (int p = 0; p < PLACES; p++) {
                hanging[p] = new Text();
                trees[p] = new Text();
            }
        }

        void spell(Forest f, Text whole) {
            int firsts = 0;
            for (int root = 0; root < PLACES; root++) {
                walk.from(f, root);
                int first = leastOf(walk.seen);
                Text best = isPlace(first) ? trees[first] : null;
                if (best != null) {
                    firsts |= 1 << first;
                    for (int i = PLACES - 1; i >= 0; i--) {
                        spellVertex(f, walk.placeAt(i));
                    }
                    Text text = hanging[root];
                    if (text != null && (root == first || text.isAhead(best))) {
                        best.length = 0;
                        best.addAll(text);
                    }
                }
            }
            whole.length = 0;
            addInOrder(whole, trees, firsts);
        }

        private void spellVertex(Forest f, int p) {
            Text text = isPlace(p) ? hanging[p] : null;
            if (text == null) {
                return;
            }
            int holder = walk.holderOf(p);
            int below = isPlace(holder) ? f.nearsAt(p) & ~(1 << holder) : f.nearsAt(p);
            text.length = 0;
            text.add('(');
            text.addWeight(f.weightAt(p));
            addInOrder(text, hanging, below);
            text.add(')');
        }

        private static void addInOrder(Text whole, Text[] texts, int set) {
            int left = set;
            for (int i = 0; i < PLACES && left != 0; i++) {
                Text first = null;
                int place = 0;
                for (int p = 0; p < PLACES && p < texts.length; p++) {
                    Text text = isIn(p, left) ? texts[p] : null;
                    if (text != null && (first == null || text.isAhead(first))) {
                        first = text;
                        place = p;
                    }
                }
                if (first != null) {
                    whole.addAll(first);
                }
                left &= ~(1 << place);
            }
        }
    }

    /** Bytes that wait to be read as a TEXT of a FOREST. */
    private static final class Tape {
        private final int[] bytes = new int[TAPE_BYTES];
        private final int[] holders = new int[PLACES];
        private int length;

        Tape() {
        }

        void add(int b) {
            if (length >= 0 && length < TAPE_BYTES) {
                bytes[length] = b;
                length++;
            }
        }

        /** Reads a FOREST: the FAULT, -1 if there is none. */
        int read(Forest f) {
            f.clear();
            int open = -1;
            boolean bare = false;
            int i = skipBlanks(0);
            for (int tokens = 0; tokens < TAPE_BYTES && i < length; tokens++) {
                int b = byteAt(i);
                if (bare) {
                    int size = weightSize(i);
                    if (size == 0) {
                        return i;
                    }
                    f.setWeight(open, weightAt(i, size));
                    bare = false;
                    i += size;
                } else if (b == '(' && f.size() < PLACES) {
                    open = hang(f, open);
                    bare = true;
                    i++;
                } else if (b == ')' && isPlace(open)) {
                    open = holders[open];
                    i++;
                } else {
                    return i;
                }
                i = skipBlanks(i);
            }
            return open >= 0 || f.size() == 0 ? length : -1;
        }

        private int hang(Forest f, int holder) {
            int fresh = f.grow(0);
            f.join(fresh, holder);
            if (isPlace(fresh)) {
                holders[fresh] = holder;
            }
            return fresh;
        }

        private int byteAt(int i) {
            return i >= 0 && i < length && i < TAPE_BYTES ? bytes[i] : 0;
        }

        private boolean isDigit(int i) {
            return byteAt(i) >= '0' && byteAt(i) <= '9';
        }

        private int skipBlanks(int from) {
            int i = from;
            while (i < length && byteAt(i) == ' ') {
                i++;
            }
            return i;
        }

        /** How many bytes the WEIGHT at i has; 0 if there is none as told. */
        private int weightSize(int i) {
            int start = byteAt(i) == '-' ? i + 1 : i;
            int digits = 0;
            while (digits < 3 && isDigit(start + digits)) {
                digits++;
            }
            int size = start - i + digits;
            return digits == 0 || digits > 2 || !isWeight(weightAt(i, size)) ? 0 : size;
        }

        private int weightAt(int from, int size) {
            int w = 0;
            for (int i = from; i < from + size; i++) {
                w = isDigit(i) ? w * 10 + byteAt(i) - '0' : w;
            }
            return byteAt(from) == '-' ? -w : w;
        }
    }

    /** WORKERS, and what those of each KIND do. */
    private static final class Crew {
        private static final int MOST = 6;
        private static final int MOST_JOBS = 9999;
        /** By KIND: the KIND that it is under; -1 if there is none. */
        private static final int[] UNDER = {-1, PLAIN, PLAIN, BOTH, ABSORBER, PLAIN};

        private final int[] kinds = new int[MOST];
        private final int[] starts = new int[MOST];
        private final int[] jobs = new int[MOST];
        private int size;

        Crew() {
        }

        void follow(Crew other) {
            System.arraycopy(other.kinds, 0, kinds, 0, MOST);
            System.arraycopy(other.starts, 0, starts, 0, MOST);
            System.arraycopy(other.jobs, 0, jobs, 0, MOST);
            size = other.size;
        }

        boolean has(int i) {
            return i >= 0 && i < size && i < MOST;
        }

        /** One more WORKER: its number, -1 if there is no room. */
        int hire(int kind, int m) {
            if (size < 0 || size >= MOST) {
                return -1;
            }
            kinds[size] = kind;
            starts[size] = m;
            jobs[size] = 0;
            size++;
            return size - 1;
        }

        void retrain(int i, int kind) {
            if (has(i)) {
                kinds[i] = kind;
            }
        }

        void credit(int i, int more) {
            if (has(i)) {
                jobs[i] = Math.min(MOST_JOBS, jobs[i] + more);
            }
        }

        int kindOf(int i) {
            return has(i) ? kinds[i] : 0;
        }

        int startOf(int i) {
            return has(i) ? starts[i] : 0;
        }

        int jobsOf(int i) {
            return has(i) ? jobs[i] : 0;
        }

        int allJobs() {
            int all = 0;
            for (int i = 0; i < MOST; i++) {
                all += jobsOf(i);
            }
            return all;
        }

        static boolean isUnder(int kind, int other) {
            int on = kind;
            for (int i = 0; i < WORKER_KINDS && isWorkerKind(on); i++) {
                if (on == other) {
                    return true;
                }
                on = UNDER[on];
            }
            return false;
        }

        static int cost(int kind, int m) {
            int plain = m + 1;
            switch (kind) {
                case BOTH:
                    return 2 * plain;
                case LATE:
                    return 2 * plain + 5;
                case SPLITTER:
                    return 3 * plain;
                case SHY:
                    return plain - 4;
                default:
                    return plain;
            }
        }

        /** A step becomes what a WORKER does NEXT: whether there is such a MOVE. */
        static boolean plan(Step step, Forest f, int kind, int m) {
            switch (kind) {
                case BOTH:
                    return step.seek(f, DOWN, -1, m, false, 2) || step.seek(f, DOWN, 1, m, false, 2);
                case ABSORBER:
                    return step.seek(f, ABSORB, 0, m, false, 2) || step.seek(f, DOWN, -1, m, false, 2);
                case LATE:
                    return step.seek(f, DOWN, -1, m, true, 2) || step.seek(f, DOWN, 1, m, true, 2);
                case SPLITTER:
                    return step.seek(f, SPLIT, 0, m, false, 1) || step.seek(f, ABSORB, 0, m, false, 2)
                            || step.seek(f, DOWN, -1, m, false, 2);
                case SHY:
                    return step.seek(f, DOWN, -1, m, false, 1);
                default:
                    return step.seek(f, DOWN, -1, m, false, 2);
            }
        }
    }

    /** A row of numbers of so many bits. */
    private static final class Sheet {
        private final int bits;
        private final int[] numbers;

        Sheet(int bits, int n) {
            this.bits = bits;
            this.numbers = new int[Math.max(0, Math.min(n, SHEET_NUMBERS))];
        }

        boolean has(int i) {
            return i >= 0 && i < numbers.length;
        }

        /** Whether n numbers stand there from number i on. */
        boolean holds(int i, int n) {
            return i >= 0 && n >= 0 && i <= numbers.length - n;
        }

        int read(int i) {
            return has(i) ? numbers[i] : 0;
        }

        void write(int i, int v) {
            if (has(i)) {
                numbers[i] = bits == 8 ? (byte) v : bits == 16 ? (short) v : v;
            }
        }
    }

    /** What MOVES can do, in thought. */
    private static final class Search {
        private final Forest[] levels = new Forest[MOST_FEWEST];
        private final Step step = new Step();
        private final Speller speller = new Speller();
        private final Text spelled = new Text();
        private final Text goal = new Text();
        private int goalSize;
        private int goalPrint;
        private int left;
        private int moves;
        private int first;

        Search() {
            for (int i = 0; i < levels.length; i++) {
                levels[i] = new Forest();
            }
        }

        private Forest levelAt(int depth) {
            return depth >= 0 && depth < levels.length ? levels[depth] : null;
        }

        void begin(Forest f) {
            Forest start = levelAt(0);
            if (start != null) {
                start.follow(f);
            }
        }

        /** LEAST LEFT by n: how many are left, by how many moves, the first of them. */
        void dig(Forest f, int n) {
            begin(f);
            left = f.size();
            moves = 0;
            first = -1;
            deepen(this, 0, n, -1);
        }

        /** PLACES go up, so that of rows of MOVES that do the same the one with the least first PLACE comes first. */
        private static void deepen(Search on, int depth, int n, int head) {
            Forest here = on.levelAt(depth);
            // a MOVE takes two VERTICES away at most: what can't leave fewer, nor as many sooner, is not looked at
            if (here == null || depth >= n || here.size() - 2 * (n - depth) >= on.left) {
                return;
            }
            Forest deeper = on.levelAt(depth + 1);
            for (int p = 0; p < PLACES; p++) {
                if (here.has(p) && on.step.shrink(here, p)) {
                    int begun = depth == 0 ? p : head;
                    on.note(here.size() - (on.step.kind == DOWN ? 1 : 2), depth + 1, begun);
                    if (deeper != null && depth + 1 < n) {
                        deeper.follow(here);
                        on.step.act(deeper);
                        deepen(on, depth + 1, n, begun);
                    }
                }
            }
        }

        private void note(int size, int depth, int begun) {
            if (size < left || size == left && depth < moves) {
                left = size;
                moves = depth;
                first = begun;
            }
        }

        void aim(Forest f) {
            goalSize = f.size();
            goalPrint = f.print();
            speller.spell(f, goal);
        }

        boolean isGoal(Forest f) {
            if (f.size() != goalSize || f.print() != goalPrint) {
                return false;
            }
            speller.spell(f, spelled);
            return spelled.isSame(goal);
        }

        /** Whether just n MOVES, of which depth are DONE, lead to what is aimed at. */
        private static boolean climb(Search on, int depth, int n) {
            Forest here = on.levelAt(depth);
            if (here == null) {
                return false;
            }
            int spare = here.size() - on.goalSize;
            if (spare < 0 || spare > 2 * (n - depth)) {
                return false;
            }
            if (depth >= n) {
                return on.isGoal(here);
            }
            Forest deeper = on.levelAt(depth + 1);
            if (deeper == null) {
                return false;
            }
            for (int p = 0; p < PLACES; p++) {
                if (here.has(p) && on.step.shrink(here, p)) {
                    deeper.follow(here);
                    on.step.act(deeper);
                    if (climb(on, depth + 1, n)) {
                        return true;
                    }
                }
            }
            deeper.follow(here);
            deeper.mirror();
            return climb(on, depth + 1, n);
        }
    }
}
