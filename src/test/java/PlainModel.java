import java.math.BigInteger;
import java.util.ArrayDeque;
import java.util.ArrayList;
import java.util.Arrays;
import java.util.Collections;
import java.util.Deque;
import java.util.HashMap;
import java.util.HashSet;
import java.util.List;
import java.util.Map;
import java.util.Set;
import java.util.TreeMap;
import java.util.TreeSet;

/**
 * What ../shared/DOC.md says, written a second time in the slowest and plainest way: whole matrices, all subsets,
 * all rows of moves. ModelTest holds RoomTrees against it.
 */
final class PlainModel {
    static final int LOW = -1100000000;

    /** An ERROR on its way to the answer. */
    private static final class Refused extends RuntimeException {
        private static final long serialVersionUID = 1L;
        final int k;

        Refused(int k) {
            super(null, null, false, false);
            this.k = k;
        }
    }

    private static final int BEYOND = 1;
    private static final int NONE = 2;
    private static final int STATE = 3;
    private static final int FULL = 4;
    private static final int OVER = 5;
    private static final int KIND = 6;
    private static final int MISSING = 7;

    static final class Woods {
        final TreeMap<Integer, Integer> weight = new TreeMap<>();
        final TreeMap<Integer, TreeSet<Integer>> near = new TreeMap<>();

        Woods copy() {
            Woods w = new Woods();
            w.weight.putAll(weight);
            for (Map.Entry<Integer, TreeSet<Integer>> e : near.entrySet()) {
                w.near.put(e.getKey(), new TreeSet<>(e.getValue()));
            }
            return w;
        }

        int add(int w) {
            int p = 0;
            while (weight.containsKey(p)) {
                p++;
            }
            weight.put(p, w);
            near.put(p, new TreeSet<>());
            return p;
        }

        void edge(int p, int q) {
            near.get(p).add(q);
            near.get(q).add(p);
        }

        void noEdge(int p, int q) {
            near.get(p).remove(q);
            near.get(q).remove(p);
        }

        void goes(int p) {
            for (int q : near.get(p)) {
                near.get(q).remove(p);
            }
            near.remove(p);
            weight.remove(p);
        }

        void more(int p, int by) {
            weight.put(p, weight.get(p) + by);
        }

        TreeSet<Integer> treeOf(int p) {
            TreeSet<Integer> seen = new TreeSet<>();
            Deque<Integer> left = new ArrayDeque<>();
            left.add(p);
            while (!left.isEmpty()) {
                int q = left.poll();
                if (seen.add(q)) {
                    left.addAll(near.get(q));
                }
            }
            return seen;
        }

        int trees() {
            Set<TreeSet<Integer>> all = new HashSet<>();
            for (int p : weight.keySet()) {
                all.add(treeOf(p));
            }
            return all.size();
        }

        /** The way from p to q, or null. */
        List<Integer> path(int p, int q, int from) {
            if (p == q) {
                return new ArrayList<>(List.of(p));
            }
            for (int r : near.get(p)) {
                if (r != from) {
                    List<Integer> rest = path(r, q, p);
                    if (rest != null) {
                        rest.add(0, p);
                        return rest;
                    }
                }
            }
            return null;
        }

        long entry(int p, int q) {
            return p == q ? weight.get(p) : near.get(p).contains(q) ? 1 : 0;
        }

        BigInteger[][] matrix(List<Integer> rows, List<Integer> columns) {
            BigInteger[][] m = new BigInteger[rows.size()][columns.size()];
            for (int i = 0; i < m.length; i++) {
                for (int j = 0; j < m.length; j++) {
                    m[i][j] = BigInteger.valueOf(entry(rows.get(i), columns.get(j)));
                }
            }
            return m;
        }

        BigInteger minor(Set<Integer> set) {
            List<Integer> rows = new ArrayList<>(set);
            return determinant(matrix(rows, rows));
        }

        String textOf(int p, int from) {
            List<String> below = new ArrayList<>();
            for (int q : near.get(p)) {
                if (q != from) {
                    below.add(textOf(q, p));
                }
            }
            Collections.sort(below);
            return "(" + weight.get(p) + String.join("", below) + ")";
        }

        String least() {
            Map<TreeSet<Integer>, String> best = new HashMap<>();
            for (int p : weight.keySet()) {
                String text = textOf(p, -1);
                best.merge(treeOf(p), text, (a, b) -> a.compareTo(b) <= 0 ? a : b);
            }
            List<String> all = new ArrayList<>(best.values());
            Collections.sort(all);
            return String.join("", all);
        }
    }

    /** Bareiss. */
    static BigInteger determinant(BigInteger[][] a) {
        int n = a.length;
        BigInteger sign = BigInteger.ONE;
        BigInteger last = BigInteger.ONE;
        for (int k = 0; k < n; k++) {
            int pivot = k;
            while (pivot < n && a[pivot][k].signum() == 0) {
                pivot++;
            }
            if (pivot == n) {
                return BigInteger.ZERO;
            }
            if (pivot != k) {
                BigInteger[] row = a[pivot];
                a[pivot] = a[k];
                a[k] = row;
                sign = sign.negate();
            }
            for (int i = k + 1; i < n; i++) {
                for (int j = k + 1; j < n; j++) {
                    a[i][j] = a[i][j].multiply(a[k][k]).subtract(a[i][k].multiply(a[k][j])).divide(last);
                }
            }
            last = a[k][k];
        }
        return last.multiply(sign);
    }

    static final class Done {
        int kind;
        int p;
        int q;
        int v;
        int s;
        int sign;
        Woods ahead;
        Woods behind;
    }

    static final class Man {
        int kind;
        int m;
        int jobs;

        Man(int kind, int m, int jobs) {
            this.kind = kind;
            this.m = m;
            this.jobs = jobs;
        }
    }

    private Woods woods = new Woods();
    private final List<Done> done = new ArrayList<>();
    private final List<Done> back = new ArrayList<>();
    private final List<Integer> tape = new ArrayList<>();
    private final Woods[] shelves = new Woods[4];
    private final long[][] sheets = new long[4][];
    private final int[] bits = new int[4];
    private List<Man> men = new ArrayList<>();
    private Woods imageWoods;
    private List<Man> imageMen;
    private final int[] told = new int[8];

    private interface Act {
        long answer();
    }

    private int run(Act act) {
        try {
            return (int) act.answer();
        } catch (Refused r) {
            told[r.k]++;
            return LOW - r.k;
        }
    }

    private static void ask(boolean good, int k) {
        if (!good) {
            throw new Refused(k);
        }
    }

    private static boolean in(int x, int low, int high) {
        return low <= x && x <= high;
    }

    private void there(int p) {
        ask(woods.weight.containsKey(p), BEYOND);
    }

    private void byHand() {
        done.clear();
        back.clear();
    }

    private static int bitsOf(Set<Integer> set) {
        int x = 0;
        for (int p : set) {
            x += 1 << p;
        }
        return x;
    }

    private static Set<Integer> setOf(int x) {
        TreeSet<Integer> set = new TreeSet<>();
        for (int p = 0; p < 32; p++) {
            if ((x >>> p & 1) == 1) {
                set.add(p);
            }
        }
        return set;
    }

    private static long tellable(BigInteger x) {
        ask(x.compareTo(BigInteger.valueOf(-1073741824L)) >= 0 && x.compareTo(BigInteger.valueOf(1073741823L)) <= 0,
                OVER);
        return x.longValue();
    }

    /** No act: where VERTICES are, to steer by. */
    int places() {
        return bitsOf(woods.weight.keySet());
    }

    int vertex(int w) {
        return run(() -> {
            ask(in(w, -30, 30), BEYOND);
            ask(woods.weight.size() < 12, FULL);
            byHand();
            return woods.add(w);
        });
    }

    int weigh(int p, int w) {
        return run(() -> {
            there(p);
            ask(in(w, -30, 30), BEYOND);
            byHand();
            return woods.weight.put(p, w);
        });
    }

    int tie(int p, int q) {
        return run(() -> {
            there(p);
            there(q);
            ask(!woods.treeOf(p).contains(q), STATE);
            byHand();
            woods.edge(p, q);
            return woods.trees();
        });
    }

    int cut(int p, int q) {
        return run(() -> {
            there(p);
            there(q);
            ask(woods.near.get(p).contains(q), NONE);
            byHand();
            woods.noEdge(p, q);
            return woods.trees();
        });
    }

    int take(int p) {
        return run(() -> {
            there(p);
            byHand();
            int was = woods.weight.get(p);
            woods.goes(p);
            return was;
        });
    }

    int at(int p, int what) {
        return run(() -> {
            there(p);
            ask(in(what, 0, 5), BEYOND);
            if (what == 0) {
                return woods.weight.get(p);
            }
            if (what == 1) {
                return woods.near.get(p).size();
            }
            if (what == 2) {
                return bitsOf(woods.near.get(p));
            }
            if (what == 3) {
                return bitsOf(woods.treeOf(p));
            }
            if (what == 4) {
                for (int kind : new int[] {0, 4, 5}) {
                    if (refusal(woods, kind, p, 0, 0, 0, 0) == 0) {
                        return kind;
                    }
                }
                return -1;
            }
            int most = 0;
            for (int q : woods.treeOf(p)) {
                most = Math.max(most, woods.path(p, q, -1).size() - 1);
            }
            return most;
        });
    }

    int table(int p, int q) {
        return run(() -> {
            there(p);
            there(q);
            return woods.entry(p, q);
        });
    }

    private static boolean hasP(int kind) {
        return kind != 3 && kind != 6;
    }

    private static boolean hasV(int kind) {
        return in(kind, 1, 3) || kind == 7;
    }

    /** In the document's order: 0 if the MOVE is not REFUSED. */
    private static int refusal(Woods w, int kind, int p, int q, int v, int s, int doneNow) {
        if (!in(kind, 0, 7)) {
            return BEYOND;
        }
        if (hasP(kind) && !w.weight.containsKey(p)) {
            return BEYOND;
        }
        if (kind == 1 && !w.weight.containsKey(q)) {
            return BEYOND;
        }
        if (in(kind, 1, 3) && v != 1 && v != -1) {
            return BEYOND;
        }
        if (kind == 7 && (!in(v, -30, 30) || !w.near.get(p).containsAll(setOf(s)))) {
            return BEYOND;
        }
        if (kind == 0 && (Math.abs(w.weight.get(p)) != 1 || w.near.get(p).size() > 2)) {
            return STATE;
        }
        if (kind == 1 && !w.near.get(p).contains(q)) {
            return STATE;
        }
        if (kind == 4 && (w.weight.get(p) != 0 || w.near.get(p).size() != 2)) {
            return STATE;
        }
        if (kind == 5 && (w.weight.get(p) != 0 || w.near.get(p).size() != 1)) {
            return STATE;
        }
        int needs = in(kind, 1, 3) ? 1 : kind == 7 ? 2 : 0;
        if (12 - w.weight.size() < needs || doneNow >= 40) {
            return FULL;
        }
        Woods then = w.copy();
        act(then, kind, p, q, v, s);
        for (int x : then.weight.values()) {
            if (!in(x, -30, 30)) {
                return OVER;
            }
        }
        return 0;
    }

    private static int signOf(Woods w, int kind, int p, int v) {
        if (kind == 0) {
            return w.weight.get(p);
        }
        if (in(kind, 1, 3)) {
            return v;
        }
        return kind == 6 && w.weight.size() % 2 == 0 ? 1 : -1;
    }

    private static void act(Woods w, int kind, int p, int q, int v, int s) {
        if (kind == 0) {
            int e = w.weight.get(p);
            List<Integer> near = new ArrayList<>(w.near.get(p));
            w.goes(p);
            for (int r : near) {
                w.more(r, -e);
            }
            if (near.size() == 2) {
                w.edge(near.get(0), near.get(1));
            }
        } else if (kind == 1) {
            w.more(p, v);
            w.more(q, v);
            w.noEdge(p, q);
            int x = w.add(v);
            w.edge(x, p);
            w.edge(x, q);
        } else if (kind == 2) {
            w.more(p, v);
            w.edge(w.add(v), p);
        } else if (kind == 3) {
            w.add(v);
        } else if (kind == 4) {
            int one = w.near.get(p).first();
            int other = w.near.get(p).last();
            w.more(one, w.weight.get(other));
            for (int r : new ArrayList<>(w.near.get(other))) {
                if (r != p) {
                    w.edge(one, r);
                }
            }
            w.goes(p);
            w.goes(other);
        } else if (kind == 5) {
            int other = w.near.get(p).first();
            w.goes(p);
            w.goes(other);
        } else if (kind == 6) {
            w.weight.replaceAll((r, x) -> -x);
        } else {
            w.more(p, -v);
            int x = w.add(0);
            int y = w.add(v);
            for (int r : setOf(s)) {
                w.noEdge(p, r);
                w.edge(y, r);
            }
            w.edge(p, x);
            w.edge(x, y);
        }
    }

    private void doMove(int kind, int p, int q, int v, int s) {
        Done d = new Done();
        d.kind = kind;
        d.p = hasP(kind) ? p : 0;
        d.q = kind == 1 ? q : 0;
        d.v = hasV(kind) ? v : 0;
        d.s = kind == 7 ? s : 0;
        d.sign = signOf(woods, kind, p, v);
        d.ahead = woods.copy();
        act(woods, kind, p, q, v, s);
        d.behind = woods.copy();
        done.add(d);
        back.clear();
    }

    int move(int kind, int p, int q, int v, int s) {
        return run(() -> {
            int k = refusal(woods, kind, p, q, v, s, done.size());
            ask(k == 0, k);
            doMove(kind, p, q, v, s);
            return woods.weight.size();
        });
    }

    int undo() {
        return run(() -> {
            ask(!done.isEmpty(), NONE);
            Done d = done.remove(done.size() - 1);
            back.add(d);
            woods = d.ahead.copy();
            return done.size();
        });
    }

    int redo() {
        return run(() -> {
            ask(!back.isEmpty(), NONE);
            Done d = back.remove(back.size() - 1);
            done.add(d);
            woods = d.behind.copy();
            return done.size();
        });
    }

    int trail(int i, int what) {
        return run(() -> {
            ask(in(what, 0, 4), BEYOND);
            ask(in(i, 0, done.size() - 1), NONE);
            Done d = done.get(i);
            return new int[] {d.kind, d.p, d.q, d.v, d.s}[what];
        });
    }

    int factor() {
        int product = 1;
        for (Done d : done) {
            product *= d.sign;
        }
        return product;
    }

    int minor(int set) {
        return run(() -> {
            ask(woods.weight.keySet().containsAll(setOf(set)), BEYOND);
            return tellable(woods.minor(setOf(set)));
        });
    }

    private BigInteger determinant() {
        return woods.minor(woods.weight.keySet());
    }

    int det() {
        return run(() -> tellable(determinant()));
    }

    int link(int p, int q, int part) {
        return run(() -> {
            there(p);
            there(q);
            ask(in(part, 0, 1), BEYOND);
            BigInteger det = determinant();
            ask(det.signum() != 0, STATE);
            List<Integer> rows = new ArrayList<>(woods.weight.keySet());
            List<Integer> columns = new ArrayList<>(woods.weight.keySet());
            int sign = (rows.indexOf(p) + columns.indexOf(q)) % 2 == 0 ? 1 : -1;
            rows.remove(Integer.valueOf(p));
            columns.remove(Integer.valueOf(q));
            BigInteger above = determinant(woods.matrix(rows, columns)).multiply(BigInteger.valueOf(sign));
            BigInteger common = above.gcd(det);
            if (det.signum() < 0) {
                common = common.negate();
            }
            return tellable((part == 0 ? above : det).divide(common));
        });
    }

    /** Coefficients of the polynomial whose roots are the eigenvalues, by Faddeev and LeVerrier; the highest first. */
    private BigInteger[] polynomial() {
        List<Integer> rows = new ArrayList<>(woods.weight.keySet());
        int n = rows.size();
        BigInteger[][] a = woods.matrix(rows, rows);
        BigInteger[][] m = new BigInteger[n][n];
        for (BigInteger[] row : m) {
            Arrays.fill(row, BigInteger.ZERO);
        }
        BigInteger[] c = new BigInteger[n + 1];
        c[0] = BigInteger.ONE;
        for (int k = 1; k <= n; k++) {
            BigInteger[][] next = new BigInteger[n][n];
            for (int i = 0; i < n; i++) {
                for (int j = 0; j < n; j++) {
                    BigInteger sum = i == j ? c[k - 1] : BigInteger.ZERO;
                    for (int l = 0; l < n; l++) {
                        sum = sum.add(a[i][l].multiply(m[l][j]));
                    }
                    next[i][j] = sum;
                }
            }
            m = next;
            BigInteger trace = BigInteger.ZERO;
            for (int i = 0; i < n; i++) {
                for (int l = 0; l < n; l++) {
                    trace = trace.add(a[i][l].multiply(m[l][i]));
                }
            }
            c[k] = trace.negate().divide(BigInteger.valueOf(k));
        }
        return c;
    }

    /** Above, below, 0: all roots are real, so that the changes of sign are just as many as roots above 0. */
    private int[] signs() {
        BigInteger[] c = polynomial();
        int zeros = 0;
        while (zeros < c.length - 1 && c[c.length - 1 - zeros].signum() == 0) {
            zeros++;
        }
        int above = 0;
        int last = 1;
        for (BigInteger x : c) {
            if (x.signum() != 0) {
                above += x.signum() == last ? 0 : 1;
                last = x.signum();
            }
        }
        return new int[] {above, c.length - 1 - zeros - above, zeros};
    }

    int inertia(int what) {
        return run(() -> {
            ask(in(what, 0, 2), BEYOND);
            return signs()[what];
        });
    }

    int kernel(int prime) {
        return run(() -> {
            ask(List.of(2, 3, 5, 7, 11, 13).contains(prime), BEYOND);
            List<Integer> at = new ArrayList<>(woods.weight.keySet());
            int n = at.size();
            long[][] a = new long[n][n];
            for (int i = 0; i < n; i++) {
                for (int j = 0; j < n; j++) {
                    a[i][j] = Math.floorMod(woods.entry(at.get(i), at.get(j)), (long) prime);
                }
            }
            int rank = 0;
            for (int column = 0; column < n; column++) {
                for (int row = rank; row < n; row++) {
                    if (a[row][column] != 0) {
                        long[] swap = a[row];
                        a[row] = a[rank];
                        a[rank] = swap;
                        for (int other = rank + 1; other < n; other++) {
                            while (a[other][column] != 0) {
                                for (int j = 0; j < n; j++) {
                                    a[other][j] = (a[other][j] + a[rank][j]) % prime;
                                }
                            }
                        }
                        rank++;
                        break;
                    }
                }
            }
            return n - rank;
        });
    }

    private List<Integer> wuSets() {
        List<Integer> all = new ArrayList<>();
        int whole = bitsOf(woods.weight.keySet());
        for (int set = 0; set < 4096; set++) {
            if ((set & ~whole) == 0 && isWu(setOf(set))) {
                all.add(set);
            }
        }
        return all;
    }

    private boolean isWu(Set<Integer> set) {
        for (int p : woods.weight.keySet()) {
            long sum = 0;
            for (int q : set) {
                sum += woods.entry(p, q);
            }
            if (Math.floorMod(sum, 2L) != Math.floorMod(woods.weight.get(p), 2)) {
                return false;
            }
        }
        return true;
    }

    int wu(int what) {
        return run(() -> {
            ask(in(what, 0, 1), BEYOND);
            List<Integer> all = wuSets();
            return what == 0 ? all.size() : all.get(0);
        });
    }

    int mu() {
        return run(() -> {
            ask(determinant().testBit(0), STATE);
            int[] signs = signs();
            Set<Integer> set = setOf(wuSets().get(0));
            long sum = 0;
            for (int p : set) {
                for (int q : set) {
                    sum += woods.entry(p, q);
                }
            }
            return signs[0] - signs[1] - sum;
        });
    }

    int fraction(int p, int q, int part) {
        return run(() -> {
            there(p);
            there(q);
            ask(in(part, 0, 1), BEYOND);
            List<Integer> path = woods.path(p, q, -1);
            ask(path != null, NONE);
            BigInteger above = woods.minor(new TreeSet<>(path));
            BigInteger below = woods.minor(new TreeSet<>(path.subList(1, path.size())));
            if (below.signum() < 0) {
                above = above.negate();
                below = below.negate();
            }
            if (below.signum() == 0) {
                above = BigInteger.ONE;
            }
            return tellable(part == 0 ? above : below);
        });
    }

    private void line(TreeSet<Integer> tree) {
        for (int p : tree) {
            ask(woods.near.get(p).size() < 3, STATE);
        }
    }

    private BigInteger[] roomOf(TreeSet<Integer> tree) {
        BigInteger minor = woods.minor(tree);
        BigInteger n = minor.abs();
        TreeSet<Integer> without = new TreeSet<>(tree);
        for (int p : tree) {
            if (woods.near.get(p).size() < 2) {
                without.remove(p);
                break;
            }
        }
        BigInteger b = woods.minor(without);
        BigInteger m = minor.signum() > 0 ? b.negate() : b;
        return new BigInteger[] {n, n.signum() == 0 ? BigInteger.ONE : m.mod(n)};
    }

    int room(int p, int what) {
        return run(() -> {
            there(p);
            ask(in(what, 0, 1), BEYOND);
            line(woods.treeOf(p));
            BigInteger[] room = roomOf(woods.treeOf(p));
            tellable(room[0]);
            return room[what].longValue();
        });
    }

    int oneRoom(int p, int q) {
        return run(() -> {
            there(p);
            there(q);
            line(woods.treeOf(p));
            line(woods.treeOf(q));
            BigInteger[] one = roomOf(woods.treeOf(p));
            BigInteger[] two = roomOf(woods.treeOf(q));
            tellable(one[0]);
            tellable(two[0]);
            if (!one[0].equals(two[0])) {
                return 0;
            }
            if (one[0].bitLength() <= 1 || one[1].equals(two[1])) {
                return 1;
            }
            return one[1].multiply(two[1]).mod(one[0]).equals(BigInteger.ONE) ? 1 : 0;
        });
    }

    private static List<Integer> chainOf(int n, int m) {
        ask(in(n, 2, 999) && in(m, 1, n - 1), BEYOND);
        ask(BigInteger.valueOf(n).gcd(BigInteger.valueOf(m)).equals(BigInteger.ONE), STATE);
        List<Integer> all = new ArrayList<>();
        int a = n;
        int b = m;
        while (b != 0) {
            int up = (int) Math.ceil((double) a / b);
            all.add(up);
            int c = up * b - a;
            a = b;
            b = c;
        }
        return all;
    }

    int chain(int n, int m, int i) {
        return run(() -> {
            ask(i >= -1, BEYOND);
            List<Integer> all = chainOf(n, m);
            ask(i < all.size(), NONE);
            return i == -1 ? all.size() : all.get(i);
        });
    }

    int plant(int n, int m) {
        return run(() -> {
            List<Integer> all = chainOf(n, m);
            ask(woods.weight.size() + all.size() <= 12, FULL);
            ask(Collections.max(all) <= 30, OVER);
            byHand();
            int first = -1;
            int last = -1;
            for (int a : all) {
                int p = woods.add(-a);
                if (last >= 0) {
                    woods.edge(last, p);
                } else {
                    first = p;
                }
                last = p;
            }
            return first;
        });
    }

    int feed(long word, int n) {
        return run(() -> {
            ask(in(n, 1, 8), BEYOND);
            ask(tape.size() + n <= 120, FULL);
            long left = word;
            for (int i = 0; i < n; i++) {
                tape.add((int) (left & 0xff));
                left >>>= 8;
            }
            return tape.size();
        });
    }

    /** A FAULT on its way out. */
    private static final class Fault extends RuntimeException {
        private static final long serialVersionUID = 1L;
        final int place;

        Fault(int place) {
            super(null, null, false, false);
            this.place = place;
        }
    }

    /** By descent: T { T }. */
    private static final class Reading {
        final String text;
        final Woods woods = new Woods();
        int i;

        Reading(String text) {
            this.text = text;
        }

        void blanks() {
            while (i < text.length() && text.charAt(i) == ' ') {
                i++;
            }
        }

        char peek() {
            blanks();
            if (i >= text.length()) {
                throw new Fault(text.length());
            }
            return text.charAt(i);
        }

        void all() {
            vertex(-1);
            blanks();
            while (i < text.length()) {
                vertex(-1);
                blanks();
            }
        }

        void vertex(int holder) {
            if (peek() != '(' || woods.weight.size() == 12) {
                throw new Fault(i);
            }
            i++;
            peek();
            java.util.regex.Matcher m = java.util.regex.Pattern.compile("-?[0-9]+").matcher(text);
            m.region(i, text.length());
            if (!m.lookingAt() || m.group().replace("-", "").length() > 2 || Math.abs(Integer.parseInt(m.group())) > 30) {
                throw new Fault(i);
            }
            int p = woods.add(Integer.parseInt(m.group()));
            if (holder >= 0) {
                woods.edge(holder, p);
            }
            i = m.end();
            while (peek() == '(') {
                vertex(p);
            }
            if (peek() != ')') {
                throw new Fault(i);
            }
            i++;
        }
    }

    int forest() {
        return run(() -> {
            StringBuilder text = new StringBuilder();
            for (int b : tape) {
                text.append((char) b);
            }
            tape.clear();
            Reading reading = new Reading(text.toString());
            try {
                reading.all();
            } catch (Fault f) {
                return -10 - f.place;
            }
            byHand();
            woods = reading.woods;
            return woods.weight.size();
        });
    }

    int least(int i) {
        return run(() -> {
            ask(i >= -1, BEYOND);
            String text = woods.least();
            ask(i < text.length(), NONE);
            return i == -1 ? text.length() : text.charAt(i);
        });
    }

    int keep(int shelf) {
        return run(() -> {
            ask(in(shelf, 0, 3), BEYOND);
            shelves[shelf] = woods.copy();
            return woods.weight.size();
        });
    }

    private Woods shelf(int shelf) {
        ask(shelves[shelf] != null, MISSING);
        return shelves[shelf];
    }

    int fetch(int shelf) {
        return run(() -> {
            ask(in(shelf, 0, 3), BEYOND);
            woods = shelf(shelf).copy();
            byHand();
            return woods.weight.size();
        });
    }

    int drop(int shelf) {
        return run(() -> {
            ask(in(shelf, 0, 3), BEYOND);
            int held = shelves[shelf] == null ? 0 : 1;
            shelves[shelf] = null;
            return held;
        });
    }

    int alike(int shelf) {
        return run(() -> {
            ask(in(shelf, 0, 3), BEYOND);
            return shelf(shelf).least().equals(woods.least()) ? 1 : 0;
        });
    }

    int worker(int kind, int m) {
        return run(() -> {
            ask(in(kind, 0, 5) && in(m, 0, 9), BEYOND);
            ask(men.size() < 6, FULL);
            men.add(new Man(kind, m, 0));
            return men.size() - 1;
        });
    }

    private Man man(int worker) {
        ask(in(worker, 0, men.size() - 1), BEYOND);
        return men.get(worker);
    }

    private static int cost(int kind, int m) {
        switch (kind) {
            case 0: return m + 1;
            case 1: return 2 * cost(0, m);
            case 2: return cost(0, m);
            case 3: return cost(1, m) + 5;
            case 4: return 3 * cost(2, m);
            default: return cost(0, m) - 4;
        }
    }

    int workerIs(int worker, int what) {
        return run(() -> {
            Man man = man(worker);
            ask(in(what, 0, 3), BEYOND);
            return new int[] {man.kind, man.m, man.jobs, cost(man.kind, man.m)}[what];
        });
    }

    int become(int worker, int kind) {
        return run(() -> {
            Man man = man(worker);
            ask(in(kind, 0, 5), BEYOND);
            int was = man.kind;
            man.kind = kind;
            return was;
        });
    }

    int as(int worker, int kind) {
        return run(() -> {
            Man man = man(worker);
            ask(in(kind, 0, 5), BEYOND);
            List<List<Integer>> those = List.of(List.of(0, 1, 2, 3, 4, 5), List.of(1, 3), List.of(2, 4), List.of(3),
                    List.of(4), List.of(5));
            ask(those.get(kind).contains(man.kind), KIND);
            return man.m;
        });
    }

    /** The MOVE and the PLACE, or null. */
    private static int[] nextOf(Woods w, int kind, int m) {
        List<Integer> places = new ArrayList<>(w.weight.tailMap(m, true).keySet());
        if (kind == 3) {
            Collections.reverse(places);
        }
        int[][] wishes;
        switch (kind) {
            case 1: case 3: wishes = new int[][] {{0, -1}, {0, 1}}; break;
            case 2: wishes = new int[][] {{4, 0}, {0, -1}}; break;
            case 4: wishes = new int[][] {{5, 0}, {4, 0}, {0, -1}}; break;
            default: wishes = new int[][] {{0, -1}};
        }
        for (int[] wish : wishes) {
            for (int p : places) {
                if (w.weight.get(p) == wish[1] && refusal(w, wish[0], p, 0, 0, 0, 0) == 0
                        && (kind != 5 || w.near.get(p).size() < 2)) {
                    return new int[] {wish[0], p};
                }
            }
        }
        return null;
    }

    int next(int worker, int what) {
        return run(() -> {
            Man man = man(worker);
            ask(in(what, 0, 1), BEYOND);
            int[] next = nextOf(woods, man.kind, man.m);
            ask(next != null, NONE);
            return next[what];
        });
    }

    int work(int worker, int n) {
        return run(() -> {
            Man man = man(worker);
            ask(in(n, 1, 12), BEYOND);
            ask(done.size() + n <= 40, FULL);
            int did = 0;
            for (int i = 0; i < n; i++) {
                int[] next = nextOf(woods, man.kind, man.m);
                if (next != null) {
                    doMove(next[0], next[1], 0, 0, 0);
                    did++;
                }
            }
            man.jobs = Math.min(9999, man.jobs + did);
            return did;
        });
    }

    /** How many MOVES, and what is left in w. */
    private static int toTheEnd(Woods w, int kind, int m) {
        int moves = 0;
        for (int[] next = nextOf(w, kind, m); next != null; next = nextOf(w, kind, m)) {
            act(w, next[0], next[1], 0, 0, 0);
            moves++;
        }
        return moves;
    }

    private static int sum(Woods w) {
        int sum = 0;
        for (int x : w.weight.values()) {
            sum += x;
        }
        return sum;
    }

    int rest(int worker, int what) {
        return run(() -> {
            Man man = man(worker);
            ask(in(what, 0, 2), BEYOND);
            Woods w = woods.copy();
            int moves = toTheEnd(w, man.kind, man.m);
            return new int[] {moves, w.weight.size(), sum(w)}[what];
        });
    }

    int best(int m) {
        return run(() -> {
            ask(in(m, 0, 9), BEYOND);
            int best = 0;
            int least = 99;
            for (int kind = 5; kind >= 0; kind--) {
                Woods w = woods.copy();
                toTheEnd(w, kind, m);
                if (w.weight.size() <= least) {
                    least = w.weight.size();
                    best = kind;
                }
            }
            return best;
        });
    }

    private static List<int[]> shrinks(Woods w) {
        List<int[]> all = new ArrayList<>();
        for (int p : w.weight.keySet()) {
            for (int kind : new int[] {0, 4, 5}) {
                if (refusal(w, kind, p, 0, 0, 0, 0) == 0) {
                    all.add(new int[] {kind, p});
                }
            }
        }
        return all;
    }

    /** By layers: all FORESTS that just so many MOVES lead to, each with the least first PLACE. */
    int fewest(int n, int what) {
        return run(() -> {
            ask(in(n, 0, 4) && in(what, 0, 2), BEYOND);
            int[] best = {woods.weight.size(), 0, -1};
            Map<String, Woods> layer = new HashMap<>();
            Map<String, Integer> firsts = new HashMap<>();
            layer.put("", woods.copy());
            firsts.put("", -1);
            for (int moves = 1; moves <= n; moves++) {
                Map<String, Woods> then = new HashMap<>();
                Map<String, Integer> thenFirsts = new HashMap<>();
                for (Map.Entry<String, Woods> e : layer.entrySet()) {
                    for (int[] m : shrinks(e.getValue())) {
                        Woods w = e.getValue().copy();
                        act(w, m[0], m[1], 0, 0, 0);
                        String key = w.weight + "" + w.near;
                        int first = moves == 1 ? m[1] : firsts.get(e.getKey());
                        then.put(key, w);
                        thenFirsts.merge(key, first, Math::min);
                    }
                }
                for (Map.Entry<String, Woods> e : then.entrySet()) {
                    int size = e.getValue().weight.size();
                    int first = thenFirsts.get(e.getKey());
                    if (size < best[0] || size == best[0] && moves == best[1] && first < best[2]) {
                        best = new int[] {size, moves, first};
                    }
                }
                layer = then;
                firsts = thenFirsts;
            }
            return best[what];
        });
    }

    int reach(int shelf, int n) {
        return run(() -> {
            ask(in(shelf, 0, 3) && in(n, 0, 3), BEYOND);
            String goal = shelf(shelf).least();
            Map<String, Woods> layer = new HashMap<>();
            layer.put("", woods.copy());
            for (int moves = 0; moves <= n; moves++) {
                Map<String, Woods> then = new HashMap<>();
                for (Woods w : layer.values()) {
                    if (w.least().equals(goal)) {
                        return moves;
                    }
                    List<int[]> all = shrinks(w);
                    all.add(new int[] {6, 0});
                    for (int[] m : all) {
                        Woods next = w.copy();
                        act(next, m[0], m[1], 0, 0, 0);
                        then.put(next.weight + "" + next.near, next);
                    }
                }
                layer = then;
            }
            throw new Refused(NONE);
        });
    }

    int sheet(int sheet, int size, int n) {
        return run(() -> {
            ask(in(sheet, 0, 3) && List.of(0, 8, 16, 32).contains(size), BEYOND);
            if (size == 0) {
                sheets[sheet] = null;
                return 1;
            }
            ask(n >= 0, STATE);
            ask(n <= 24, BEYOND);
            sheets[sheet] = new long[n];
            bits[sheet] = size;
            return 1;
        });
    }

    private long[] row(int sheet) {
        ask(in(sheet, 0, 3), BEYOND);
        ask(sheets[sheet] != null, MISSING);
        return sheets[sheet];
    }

    private void write(int sheet, int i, int v) {
        long range = 1L << bits[sheet];
        long low = Math.floorMod((long) v, range);
        sheets[sheet][i] = low >= range / 2 ? low - range : low;
    }

    int put(int sheet, int i, int v) {
        return run(() -> {
            ask(in(i, 0, row(sheet).length - 1), BEYOND);
            write(sheet, i, v);
            return 1;
        });
    }

    int number(int sheet, int i) {
        return run(() -> {
            ask(in(i, 0, row(sheet).length - 1), BEYOND);
            return row(sheet)[i];
        });
    }

    int copy(int sheet, int i, int other, int j, int n) {
        return run(() -> {
            ask(in(sheet, 0, 3) && in(other, 0, 3), BEYOND);
            long[] from = row(sheet);
            long[] to = row(other);
            ask(bits[sheet] == bits[other], KIND);
            ask(n >= 0 && i >= 0 && j >= 0, BEYOND);
            ask((long) i + n <= from.length && (long) j + n <= to.length, BEYOND);
            long[] were = from.clone();
            for (int k = 0; k < n; k++) {
                to[j + k] = were[i + k];
            }
            return n;
        });
    }

    int weighAll(int sheet) {
        return run(() -> {
            long[] row = row(sheet);
            byHand();
            for (int i = 0; i < row.length; i++) {
                if (row[i] < -30 || row[i] > 30 || !woods.weight.containsKey(i)) {
                    return i;
                }
                woods.weight.put(i, (int) row[i]);
            }
            return row.length;
        });
    }

    int book(int sheet) {
        return run(() -> {
            int many = Math.min(12, row(sheet).length);
            for (int i = 0; i < many; i++) {
                write(sheet, i, woods.weight.getOrDefault(i, 99));
            }
            return many;
        });
    }

    int plays(int sheet, int what) {
        return run(() -> {
            ask(in(sheet, 0, 3) && in(what, 0, 1), BEYOND);
            Woods w = woods.copy();
            int many = 0;
            for (long x : row(sheet)) {
                int kind = x == 600 ? 6 : -1;
                for (int k : new int[] {0, 4, 5}) {
                    kind = x >= 100 * k && x <= 100 * k + 11 ? k : kind;
                }
                int p = (int) (x % 100);
                if (kind < 0 || refusal(w, kind, p, 0, 0, 0, 0) != 0) {
                    break;
                }
                act(w, kind, p, 0, 0, 0);
                many++;
            }
            return what == 0 ? many : w.weight.size();
        });
    }

    private static List<Man> copyOf(List<Man> men) {
        List<Man> all = new ArrayList<>();
        for (Man man : men) {
            all.add(new Man(man.kind, man.m, man.jobs));
        }
        return all;
    }

    int image() {
        imageWoods = woods.copy();
        imageMen = copyOf(men);
        return woods.weight.size();
    }

    int restore() {
        return run(() -> {
            ask(imageWoods != null, NONE);
            woods = imageWoods.copy();
            men = copyOf(imageMen);
            byHand();
            return woods.weight.size();
        });
    }

    int count(int what) {
        return run(() -> {
            ask(in(what, 0, 9), BEYOND);
            int edges = 0;
            for (TreeSet<Integer> near : woods.near.values()) {
                edges += near.size();
            }
            int held = 0;
            for (Woods w : shelves) {
                held += w == null ? 0 : 1;
            }
            int jobs = 0;
            for (Man man : men) {
                jobs += man.jobs;
            }
            return new int[] {woods.weight.size(), woods.trees(), edges / 2, sum(woods), done.size(), back.size(),
                men.size(), tape.size(), held, jobs}[what];
        });
    }

    int told(int k) {
        return run(() -> {
            ask(in(k, 1, 7), BEYOND);
            return told[k];
        });
    }
}
