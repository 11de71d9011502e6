import java.lang.reflect.InvocationTargetException;
import java.lang.reflect.Method;
import java.util.ArrayList;
import java.util.HashMap;
import java.util.List;
import java.util.Map;
import java.util.Random;
import java.util.TreeMap;

/** Random runs of calls on fresh objects, each answer held against PlainModel; the same runs each time. */
public final class ModelTest {
    private static final int RUNS = 500;
    private static final int CALLS = 512;

    /**
     * Each method with the sorts of its numbers: p PLACE, w WEIGHT, k KIND of a MOVE, e 1 or -1 mostly, s set,
     * i small index, h SHELF or SHEET, o WORKER, j KIND of a WORKER, n small number, l CHAIN's numbers, b bits,
     * y PLACE's m, r prime, x SHEET's number, c row number.
     */
    private static final String[] FACE = {
        "vertex w", "weigh p w", "tie p p", "cut p p", "take p", "at p n", "table p p", "move k p p e s", "undo", "redo",
        "trail c n", "factor", "minor s", "det", "link p p i", "inertia i", "kernel r", "wu i", "mu", "fraction p p i",
        "room p i", "oneRoom p p", "chain l l n", "plant l l", "feed", "forest", "least c", "keep h", "fetch h",
        "drop h", "alike h", "worker j y", "workerIs o i", "become o j", "as o j", "next o i", "work o n", "rest o i",
        "best y", "fewest i i", "reach h i", "sheet h b n", "put h c x", "number h c", "copy h c h c n", "weighAll h",
        "book h", "plays h i", "image", "restore", "count n", "told n",
    };
    private static final int[] ODD = {Integer.MIN_VALUE, Integer.MAX_VALUE, -1, -2, 12, 13, 31, 32, 99, 100, 1 << 12,
        -31, 31, -1100000000, 1000, 4095};

    private static final Map<String, Method[]> METHODS = new HashMap<>();
    private static final Map<String, int[]> SEEN = new TreeMap<>();

    private final Random random;
    private final RoomTrees real = new RoomTrees();
    private final PlainModel model = new PlainModel();
    private final List<String> story = new ArrayList<>();
    private int calls;
    private int wrong;

    private ModelTest(long seed) {
        random = new Random(seed);
    }

    public static void main(String[] args) throws Exception {
        for (Method m : RoomTrees.class.getDeclaredMethods()) {
            for (Method n : PlainModel.class.getDeclaredMethods()) {
                if (m.getName().equals(n.getName()) && java.util.Arrays.equals(m.getParameterTypes(),
                        n.getParameterTypes())) {
                    METHODS.put(m.getName(), new Method[] {m, n});
                }
            }
        }
        int runs = args.length > 0 ? Integer.parseInt(args[0]) : RUNS;
        int base = args.length > 1 ? Integer.parseInt(args[1]) : 0;
        int wrong = 0;
        for (int run = 0; run < runs && wrong == 0; run++) {
            wrong += new ModelTest(base + run).play(run);
        }
        for (String row : FACE) {
            String name = row.split(" ")[0];
            int[] seen = SEEN.getOrDefault(name, new int[2]);
            if (args.length > 2) {
                System.out.println(name + ": " + seen[0] + " answers, " + seen[1] + " errors");
            }
            if (seen[0] == 0) {
                wrong++;
                System.out.println(name + " never answered");
            }
        }
        System.out.println(wrong == 0 ? "all answers are as the model's" : "answers differ");
        if (wrong != 0) {
            System.exit(1);
        }
    }

    private int play(int run) throws Exception {
        while (calls < CALLS && wrong == 0) {
            switch (random.nextInt(60)) {
                case 0: readWoods(); break;
                case 1: readFaulty(); break;
                case 2: moves(); break;
                case 3: chains(); break;
                case 4: script(); break;
                case 5: crew(); break;
                case 6: rows(); break;
                default: one(FACE[random.nextInt(FACE.length)]);
            }
            // without this most runs would come to an empty FOREST and stay there
            if (model.places() == 0 && random.nextInt(4) != 0) {
                call("forest");
                read(woods(12));
            }
        }
        if (wrong != 0) {
            System.out.println("run " + run + ":");
            for (String row : story) {
                System.out.println("  " + row);
            }
        }
        return wrong;
    }

    private int odd() {
        return ODD[random.nextInt(ODD.length)];
    }

    private int weight() {
        int turn = random.nextInt(12);
        if (turn == 0) {
            return random.nextInt(63) - 31;
        }
        return turn == 1 ? (random.nextBoolean() ? 30 : -30) : random.nextInt(5) - 2;
    }

    private int argument(char sort) {
        if (random.nextInt(60) == 0) {
            return odd();
        }
        switch (sort) {
            case 'p': return random.nextInt(12) == 0 ? random.nextInt(14) - 1 : pick(model.places());
            case 'w': return weight();
            case 'k': return random.nextInt(9) - (random.nextInt(9) == 0 ? 1 : 0);
            case 'e': return random.nextInt(6) == 0 ? weight() : random.nextBoolean() ? 1 : -1;
            case 's': return set();
            case 'i': return random.nextInt(4) - (random.nextInt(9) == 0 ? 1 : 0);
            case 'h': return random.nextInt(10) == 0 ? random.nextInt(7) - 1 : random.nextInt(3);
            case 'o': return random.nextInt(10) == 0 ? random.nextInt(9) - 1 : random.nextInt(3);
            case 'j': return random.nextInt(7) - (random.nextInt(9) == 0 ? 1 : 0);
            case 'n': return random.nextInt(14) - 1;
            case 'l': return 1 + random.nextInt(random.nextInt(4) == 0 ? 1002 : 40);
            case 'b': return new int[] {0, 8, 16, 32, 8, 16, 32, 32, 64}[random.nextInt(9)];
            case 'y': return random.nextInt(3) == 0 ? random.nextInt(12) - 1 : 0;
            case 'r': return new int[] {2, 3, 5, 7, 11, 13, 4, 1, 17, 0}[random.nextInt(10)];
            case 'x': return number();
            default: return random.nextInt(26) - 1;
        }
    }

    private int set() {
        int turn = random.nextInt(5);
        if (turn == 0) {
            return 0;
        }
        int place = random.nextInt(12);
        int near = real(place, 2);
        int tree = real(place, 3);
        if (turn == 1) {
            return near & random.nextInt(4096);
        }
        return turn == 2 ? tree & random.nextInt(4096) : turn == 3 ? near : random.nextInt(4096);
    }

    private int number() {
        int turn = random.nextInt(6);
        if (turn == 0) {
            return random.nextInt();
        }
        if (turn == 1) {
            return 600 + random.nextInt(3) - 1;
        }
        return turn < 4 ? new int[] {0, 400, 500}[random.nextInt(3)] + random.nextInt(13) : weight();
    }

    private int call(String name, Object... args) throws Exception {
        Method[] both = METHODS.get(name);
        int due = (Integer) both[1].invoke(model, args);
        StringBuilder row = new StringBuilder(name + "(");
        for (int i = 0; i < args.length; i++) {
            row.append(i == 0 ? "" : ", ").append(args[i]);
        }
        row.append(")");
        calls++;
        int got;
        try {
            got = (Integer) both[0].invoke(real, args);
        } catch (InvocationTargetException e) {
            wrong++;
            story.add(row + " threw " + e.getCause());
            return due;
        }
        boolean error = due < PlainModel.LOW && !name.equals("number");
        SEEN.computeIfAbsent(name, key -> new int[2])[error ? 1 : 0]++;
        story.add(row + " answered " + got + (got == due ? "" : ", due is " + due));
        wrong += got == due ? 0 : 1;
        return due;
    }

    /** What is asked only to steer is asked of both as well. */
    private int real(int p, int what) {
        try {
            return call("at", p, what) < 0 ? 0 : call("at", p, what);
        } catch (Exception e) {
            throw new IllegalStateException(e);
        }
    }

    private void one(String row) throws Exception {
        String[] words = row.split(" ");
        if (words[0].equals("feed")) {
            call("feed", random.nextLong(), argument('n'));
            call("forest");
            return;
        }
        boolean loses = words[0].equals("restore") || words[0].equals("fetch") || words[0].equals("take");
        if (loses && random.nextInt(4) != 0) {
            return;
        }
        Object[] args = new Object[words.length - 1];
        for (int i = 0; i < args.length; i++) {
            args[i] = argument(words[i + 1].charAt(0));
        }
        call(words[0], args);
    }

    private String woods(int most) {
        int n = 1 + random.nextInt(most);
        int style = random.nextInt(5);
        List<List<Integer>> below = new ArrayList<>();
        List<Integer> roots = new ArrayList<>();
        for (int i = 0; i < n; i++) {
            below.add(new ArrayList<>());
            int holder = i == 0 || random.nextInt(style == 4 ? 3 : 12) == 0 ? -1
                    : style == 0 ? i - 1 : style == 1 ? 0 : random.nextInt(i);
            (holder < 0 ? roots : below.get(holder)).add(i);
        }
        int[] weights = new int[n];
        int range = new int[] {1, 1, 2, 2, 3, 30}[random.nextInt(6)];
        for (int i = 0; i < n; i++) {
            weights[i] = random.nextInt(2 * range + 1) - range;
        }
        StringBuilder text = new StringBuilder();
        for (int root : roots) {
            write(text, root, below, weights);
        }
        return text.toString();
    }

    private void write(StringBuilder text, int p, List<List<Integer>> below, int[] weights) {
        blank(text);
        text.append('(');
        blank(text);
        text.append(weights[p]);
        for (int q : below.get(p)) {
            write(text, q, below, weights);
        }
        blank(text);
        text.append(')');
    }

    private void blank(StringBuilder text) {
        if (random.nextInt(12) == 0) {
            text.append(' ');
        }
    }

    private int read(String text) throws Exception {
        int i = 0;
        while (i < text.length()) {
            int n = Math.min(text.length() - i, 1 + random.nextInt(8));
            long word = random.nextLong() << 8 * n - 1 << 1;
            for (int k = n - 1; k >= 0; k--) {
                word = (word & ~(255L << 8 * k)) | (long) text.charAt(i + k) << 8 * k;
            }
            call("feed", word, n);
            i += n;
        }
        return call("forest");
    }

    private void readWoods() throws Exception {
        call("forest");
        read(woods(12));
        call("least", -1);
        for (int i = 0; i < 4; i++) {
            call("least", random.nextInt(40));
        }
        look();
    }

    private void readFaulty() throws Exception {
        StringBuilder text = new StringBuilder(woods(random.nextInt(4) == 0 ? 15 : 5));
        int changes = 1 + random.nextInt(2);
        for (int i = 0; i < changes; i++) {
            int at = random.nextInt(text.length() + 1);
            int turn = random.nextInt(5);
            String sign = "()-0123 9x".charAt(random.nextInt(10)) + "";
            if (turn == 0 && at < text.length()) {
                text.deleteCharAt(at);
            } else if (turn == 1 && at < text.length()) {
                text.setCharAt(at, sign.charAt(0));
            } else if (turn == 2) {
                text.setLength(at);
            } else {
                text.insert(at, sign);
            }
        }
        read(text.toString());
        call("count", 0);
        call("count", 7);
    }

    private void look() throws Exception {
        for (int what = 0; what < 10; what++) {
            call("count", what);
        }
        call("det");
        call("mu");
        for (int p = 0; p < 12; p++) {
            if (random.nextInt(4) == 0) {
                call("at", p, random.nextInt(6));
                call("link", p, random.nextInt(12), random.nextInt(2));
                call("fraction", p, random.nextInt(12), random.nextInt(2));
                call("room", p, random.nextInt(2));
                call("oneRoom", p, random.nextInt(12));
            }
        }
        call("wu", 0);
        call("wu", 1);
        call("kernel", 2);
        call("kernel", 3);
        for (int what = 0; what < 3; what++) {
            call("inertia", what);
            call("fewest", 1 + random.nextInt(4), what);
        }
    }

    private int pick(int set) {
        List<Integer> places = new ArrayList<>();
        for (int p = 0; p < 12; p++) {
            if ((set >> p & 1) != 0) {
                places.add(p);
            }
        }
        return places.isEmpty() ? 0 : places.get(random.nextInt(places.size()));
    }

    /** Many moves that mostly go through, some of them taken back and done again, and whether the goal is reached. */
    private void moves() throws Exception {
        if (random.nextBoolean()) {
            read(woods(8));
        }
        call("keep", 0);
        int many = random.nextInt(3) == 0 ? 45 : 8;
        for (int i = 0; i < many; i++) {
            int p = random.nextInt(12);
            int near = real(p, 2);
            int kind = random.nextInt(8);
            int apt = call("at", p, 4);
            if (apt >= 0 && random.nextBoolean()) {
                kind = apt;
            }
            int v = kind == 7 ? weight() : random.nextBoolean() ? 1 : -1;
            call("move", kind, p, pick(near), v, near & random.nextInt(4096));
            if (random.nextInt(6) == 0) {
                call("undo");
            }
            if (random.nextInt(6) == 0) {
                call("redo");
            }
            if (random.nextInt(8) == 0) {
                call("work", random.nextInt(6), 1 + random.nextInt(4));
            }
            if (random.nextInt(8) == 0) {
                call("reach", 0, random.nextInt(4));
            }
        }
        call("factor");
        call("det");
        for (int i = 0; i < 5; i++) {
            call("trail", random.nextInt(10), i);
        }
        call("alike", 0);
        call("count", 4);
        call("count", 5);
    }

    private void chains() throws Exception {
        int n = 2 + random.nextInt(30);
        int m = 1 + random.nextInt(n - 1);
        int first = call("plant", n, m);
        int other = 1;
        for (int k = 1; k < n; k++) {
            other = k * m % n == 1 ? k : other;
        }
        int second = call("plant", n, random.nextBoolean() ? other : 1 + random.nextInt(n - 1));
        if (first >= 0 && second >= 0) {
            call("room", first, 0);
            call("room", second, 1);
            call("oneRoom", first, second);
            call("fraction", first, second, 0);
        }
        call("chain", n, m, -1);
        call("chain", n, m, 0);
    }

    private void crew() throws Exception {
        for (int i = 0; i < 4; i++) {
            call("worker", random.nextInt(6), random.nextInt(3) == 0 ? random.nextInt(10) : 0);
        }
        for (int i = 0; i < 6; i++) {
            if (random.nextBoolean()) {
                read(woods(12));
                call("best", 0);
            }
            int worker = random.nextInt(4);
            call("become", worker, random.nextInt(6));
            for (int what = 0; what < 3; what++) {
                call("rest", worker, what);
                call("next", worker, what);
                call("as", worker, random.nextInt(6));
            }
            call("work", worker, 1 + random.nextInt(12));
            call("workerIs", worker, random.nextInt(4));
        }
    }

    private void rows() throws Exception {
        int bits = 8 << random.nextInt(3);
        call("sheet", 0, bits, 10 + random.nextInt(14));
        call("sheet", 2, random.nextInt(5) == 0 ? 8 : bits, 10 + random.nextInt(14));
        for (int i = 0; i < 8; i++) {
            call("put", 2 * random.nextInt(2), random.nextInt(14), random.nextBoolean() ? weight() : random.nextInt());
        }
        for (int i = 0; i < 5; i++) {
            call("copy", 2 * random.nextInt(2), random.nextInt(9), 2 * random.nextInt(2), random.nextInt(9),
                    random.nextInt(9));
        }
        for (int i = 0; i < 14; i++) {
            call("number", 2 * random.nextInt(2), i);
        }
        call("book", 0);
        call("number", 0, random.nextInt(12));
        call("weighAll", 2);
        call("count", 3);
    }

    private void script() throws Exception {
        call("sheet", 1, random.nextBoolean() ? 16 : 32, 12);
        for (int i = 0; i < 6; i++) {
            call("put", 1, i, number());
        }
        call("plays", 1, 0);
        call("plays", 1, 1);
        call("image");
        for (int j = 0; j < 6; j++) {
            call("rest", j, random.nextInt(3));
            call("next", j, random.nextInt(2));
        }
        call("best", 0);
        call("weighAll", 1);
        call("book", 2);
        call("restore");
    }
}
