/**
 * The sentences of ../shared/DOC.md that name a bound, a wrong call or an empty or full thing: tables, chains and texts,
 * promises 14 to 28. What is refused is tested whole in RefusalsTest.
 */
public final class TableSentencesTest extends Sentence {
    private static final int LEAST = -1073741824;
    private static final int MOST = 1073741823;
    private static final int[] NO_PLACES = {-1, 12, 13, 31, 32, 33, 64, -32, 4096, MAX, MIN};

    /** LINES whose MINOR is MOST, 0 less MOST, LEAST, 0 less LEAST, LEAST less 1, 0 less LEAST and 1 more. */
    private static final int[] MOST_LINE = {4, 30, -2, 29, 29, -17, 2, 1, 18, 18};
    private static final int[] LESS_MOST_LINE = {6, 18, 7, 3, 14, -19, 7, 16, -3, -6};
    private static final int[] LEAST_LINE = {6, 20, -9, -3, 10, -7, -1, 23, -25, 9};
    private static final int[] LESS_LEAST_LINE = {1, -15, -6, -3, 6, -22, -14, 21, 8, -12};
    private static final int[] BELOW_LINE = {17, -20, 14, -14, -9, 4, -2, 5, 2, -19};
    private static final int[] ABOVE_LINE = {19, -4, 14, 9, -16, 8, -3, -3, -5, -22};

    private static int[] behind(int first, int[] weights) {
        int[] all = new int[weights.length + 1];
        all[0] = first;
        System.arraycopy(weights, 0, all, 1, weights.length);
        return all;
    }

    private static int[] mirrored(int[] weights) {
        int[] all = new int[weights.length];
        for (int i = 0; i < all.length; i++) {
            all[i] = -weights[i];
        }
        return all;
    }

    private static void minors() {
        says(0, "MINOR of a set of VERTICES: the determinant of THE TABLE over these (1, if there are none).", () -> {
            due("minor(0) of no FOREST", x.minor(0), 1);
            due("det() of no FOREST", x.det(), 1);
            read("(5(7)(2))");
            due("minor(0)", x.minor(0), 1);
            due("minor(1)", x.minor(1), 5);
            due("minor(3)", x.minor(3), 34);
            due("minor(5)", x.minor(5), 9);
            due("minor(6)", x.minor(6), 14);
            due("minor(7)", x.minor(7), 70 - 2 - 7);
        });
        says(14, "MINOR of a set. BEYOND: a number that is no set of PLACES with VERTICES. OVER.", () -> {
            due("minor(1) of no FOREST", x.minor(1), BEYOND);
            due("minor(-1) of no FOREST", x.minor(-1), BEYOND);
            read("(3)(3)(3)(3)(3)(3)(3)(3)(3)(3)(3)(3)");
            due("minor(4095)", x.minor(4095), 531441);
            int[] odd = {4096, 8191, -1, MIN, MAX, 1 << 31 | 1, 1 << 16, -4096};
            for (int set : odd) {
                due("minor(" + set + ")", x.minor(set), BEYOND);
            }
            x.take(11);
            x.take(0);
            due("of a VERTEX that went", x.minor(1), BEYOND);
            due("of a VERTEX that went", x.minor(2049), BEYOND);
            due("of all", x.minor(2046), 59049);
        });
        says(0, "THE TABLE of two VERTICES: WEIGHT of one by itself; 1 of NEIGHBOURS; else 0.", () -> {
            read("(30(-30)(0(1)))(-1)");
            x.take(3);
            int[][] table = {{30, 1, 1, BEYOND, 0}, {1, -30, 0, BEYOND, 0}, {1, 0, 0, BEYOND, 0},
                {BEYOND, BEYOND, BEYOND, BEYOND, BEYOND}, {0, 0, 0, BEYOND, -1}};
            for (int p = 0; p < 5; p++) {
                for (int q = 0; q < 5; q++) {
                    due("table(" + p + ", " + q + ")", x.table(p, q), table[p][q]);
                }
            }
        });
        says(15, "DET. OVER.", () -> {
            due("of no FOREST", x.det(), 1);
            read("(0)");
            due("of 0", x.det(), 0);
            read("(30)(30)(30)(30)(30)(30)");
            due("of 30 six times", x.det(), 729000000);
            x.vertex(2);
            due("twice that", x.det(), OVER);
            x.weigh(6, -2);
            due("twice that, below 0", x.det(), OVER);
            x.weigh(6, -1);
            due("that below 0", x.det(), -729000000);
        });
        says(0, "OVER is asked last of all", () -> {
            read("(30(30(30(30(30(30(30)))))))(1)");
            due("minor(511) ahead of OVER", x.minor(511), BEYOND);
            due("minor(255)", x.minor(255), OVER);
            due("link(0, 8, 1) ahead of OVER", x.link(0, 8, 1), BEYOND);
            due("link(0, 0, 1)", x.link(0, 0, 1), OVER);
            due("fraction(0, 7, 0), NONE ahead of OVER", x.fraction(0, 7, 0), NONE);
            due("fraction(0, 6, 2), BEYOND ahead of OVER", x.fraction(0, 6, 2), BEYOND);
            due("fraction(0, 6, 0)", x.fraction(0, 6, 0), OVER);
            due("room(0, 2) ahead of OVER", x.room(0, 2), BEYOND);
            due("room(0, 1)", x.room(0, 1), OVER);
            due("oneRoom(0, 8) ahead of OVER", x.oneRoom(0, 8), BEYOND);
            due("oneRoom(7, 0)", x.oneRoom(7, 0), OVER);
            x.vertex(2);
            x.tie(3, 8);
            due("room(0, 0), STATE ahead of OVER", x.room(0, 0), STATE);
            due("oneRoom(7, 0), STATE ahead of OVER", x.oneRoom(7, 0), STATE);
            due("plant(62, 2), STATE ahead of OVER", x.plant(62, 2), STATE);
            due("plant(61, 31), OVER", x.plant(61, 31), OVER);
            x.vertex(0);
            x.vertex(0);
            due("plant(61, 31), FULL ahead of OVER", x.plant(61, 31), FULL);
        });
        says(0, "a number that is to be told is less than -1073741824 or more than 1073741823", () -> {
            int[][] lines = {MOST_LINE, LESS_MOST_LINE, LEAST_LINE, LESS_LEAST_LINE, BELOW_LINE, ABOVE_LINE};
            int[] due = {MOST, -MOST, LEAST, OVER, OVER, OVER};
            for (int i = 0; i < lines.length; i++) {
                read(line(lines[i]));
                due("det() of line " + i, x.det(), due[i]);
                due("minor() of line " + i, x.minor(1023), due[i]);
                x.vertex(0);
                due("det() with a 0", x.det(), 0);
                due("minor() without the 0", x.minor(1023), due[i]);
            }
            read("(30)(30)(30)(30)(30)(30)(30)(30)(30)(30)(30)(30)");
            due("det() of the most", x.det(), OVER);
            x.weigh(0, -30);
            due("det() of the least", x.det(), OVER);
            x.weigh(5, 0);
            due("det() with a 0", x.det(), 0);
        });
    }

    private static void links() {
        says(16, "LINK of p and q: part 0 above, 1 below the line. BEYOND. STATE: DET is 0. OVER (by that part alone).", () -> {
            due("of no FOREST", x.link(0, 0, 0), BEYOND);
            read("(3(-4))(-6)(0)");
            due("STATE", x.link(0, 1, 0), STATE);
            due("part 2, BEYOND ahead of STATE", x.link(0, 1, 2), BEYOND);
            x.take(3);
            due("above", x.link(0, 0, 0), 4);
            due("below", x.link(0, 0, 1), 13);
            int[] parts = {-1, 2, MAX, MIN};
            for (int part : parts) {
                due("part " + part, x.link(0, 1, part), BEYOND);
            }
            for (int p : NO_PLACES) {
                due("link(0, " + p + ")", x.link(0, p, 0), BEYOND);
                due("link(" + p + ", 0)", x.link(p, 0, 1), BEYOND);
            }
            due("link(3, 3)", x.link(3, 3, 0), BEYOND);
        });
        says(0, "that number of THE TABLE's inverse, in lowest terms, below the line above 0 (0 is 0 by 1).", () -> {
            read("(-6)(2(-4))(0(0))");
            int[][] due = {{0, 0, -1, 6}, {1, 1, 4, 9}, {1, 2, 1, 9}, {2, 2, -2, 9}, {0, 1, 0, 1}, {3, 3, 0, 1},
                {3, 4, 1, 1}, {4, 3, 1, 1}};
            for (int[] row : due) {
                due("above of " + row[0] + " and " + row[1], x.link(row[0], row[1], 0), row[2]);
                due("below of " + row[0] + " and " + row[1], x.link(row[0], row[1], 1), row[3]);
            }
        });
        says(16, "OVER (by that part alone).", () -> {
            linkIs(MOST_LINE, 9, -1, MOST);
            linkIs(LESS_MOST_LINE, 9, 1, MOST);
            linkIs(LEAST_LINE, 9, 1, OVER);
            linkIs(LESS_LEAST_LINE, 9, -1, OVER);
            linkIs(BELOW_LINE, 9, 1, OVER);
            linkIs(behind(0, MOST_LINE), 0, -MOST, 270654553);
            linkIs(behind(0, mirrored(LESS_MOST_LINE)), 0, MOST, 180643670);
            linkIs(behind(0, LEAST_LINE), 0, LEAST, 180452123);
            linkIs(behind(0, LESS_LEAST_LINE), 0, LEAST, 1005886853);
            linkIs(behind(0, mirrored(LEAST_LINE)), 0, OVER, 180452123);
            linkIs(behind(0, BELOW_LINE), 0, OVER, 62976714);
            linkIs(behind(0, mirrored(BELOW_LINE)), 0, OVER, 62976714);
        });
    }

    private static void linkIs(int[] weights, int q, int above, int below) {
        start(promise);
        read(line(weights));
        due("LINK above of 0 and " + q + " of " + line(weights), x.link(0, q, 0), above);
        due("LINK below of 0 and " + q + " of " + line(weights), x.link(0, q, 1), below);
        due("LINK above the other way about", x.link(q, 0, 0), above);
    }

    private static void inertiaKernelWu() {
        says(17, "INERTIA: what 0 above 0, 1 below 0, 2 those that are 0. BEYOND.", () -> {
            for (int what = 0; what < 3; what++) {
                due("of no FOREST", x.inertia(what), 0);
            }
            int[] whats = {-1, 3, MAX, MIN};
            for (int what : whats) {
                due("what " + what, x.inertia(what), BEYOND);
            }
            inertiaIs("(0)", 0, 0, 1);
            inertiaIs("(30)(30)(30)(30)(30)(30)(30)(30)(30)(30)(30)(30)", 12, 0, 0);
            inertiaIs("(-30)(-30)(-30)(-30)(-30)(-30)(-30)(-30)(-30)(-30)(-30)(-30)", 0, 12, 0);
            inertiaIs("(0)(0)(0)(0)(0)(0)(0)(0)(0)(0)(0)(0)", 0, 0, 12);
            inertiaIs("(0(0)(0)(0)(0)(0)(0)(0)(0)(0)(0)(0))", 1, 1, 10);
            inertiaIs("(0(0(0(0(0(0(0(0(0(0(0(0))))))))))))", 6, 6, 0);
            inertiaIs("(0(0(0)))", 1, 1, 1);
            // the WEIGHT of one with two NEIGHBOURS of 0 changes nothing
            inertiaIs("(30(0)(0))", 1, 1, 1);
            inertiaIs("(-30(0)(0))", 1, 1, 1);
            inertiaIs("(1(1))", 1, 0, 1);
            inertiaIs("(-1(-1))", 0, 1, 1);
            inertiaIs("(2(1(0)))(-3)", 2, 2, 0);
            inertiaIs("(1(1)(0)(5))", 3, 1, 0);
            // each of two has one of 0 and is cut off
            inertiaIs("(7(0)(7(0)))", 2, 2, 0);
            inertiaIs("(7(0)(-3(5(0))))(4(0)(0))(9(0))", 4, 5, 1);
        });
        says(18, "KERNEL by a prime (2, 3, 5, 7, 11, 13). BEYOND.", () -> {
            int[] wrong = {-13, -3, -2, -1, 0, 1, 4, 6, 8, 9, 10, 12, 14, 15, 17, 19, 23, MAX, MIN};
            for (int prime : wrong) {
                due("kernel(" + prime + ")", x.kernel(prime), BEYOND);
            }
            int[] primes = {2, 3, 5, 7, 11, 13};
            for (int prime : primes) {
                due("of no FOREST, by " + prime, x.kernel(prime), 0);
            }
            read("(0)(0)(0)(0)(0)(0)(0)(0)(0)(0)(0)(0)");
            for (int prime : primes) {
                due("of twelve 0, by " + prime, x.kernel(prime), 12);
            }
            read("(30)(-30)(14)(-22)(26)(1)(-1)");
            int[] due = {5, 2, 2, 1, 1, 1};
            for (int i = 0; i < primes.length; i++) {
                due("of seven, by " + primes[i], x.kernel(primes[i]), due[i]);
            }
            // 3 by 9 less 1 is 26
            read("(3(9))");
            due("by 13", x.kernel(13), 1);
            due("by 2", x.kernel(2), 1);
            due("by 3", x.kernel(3), 0);
            read("(-13(1)(1)(-11))");
            due("by 11", x.kernel(11), 0);
            due("of two NEIGHBOURS that are 0", x.kernel(13), 0);
            x.weigh(1, -13);
            x.weigh(2, 26);
            due("of two NEIGHBOURS that are 0", x.kernel(13), 1);
        });
        says(0, "KERNEL by a prime: how many dimensions the rows x of numbers by that prime have for which THE TABLE by x is 0 "
                + "by that prime.", () -> {
            String[] texts = {"(0(0)(0))", "(2(2(2)))", "(6(5)(5))", "(-1(-1))(13)", "(4(3)(-30))", "(22(26))(0)", "(1(2(1)))"};
            int[] primes = {2, 3, 5, 7, 11, 13};
            for (String text : texts) {
                start(18);
                read(text);
                for (int prime : primes) {
                    int rows = 1;
                    for (int i = 0; i < x.kernel(prime); i++) {
                        rows *= prime;
                    }
                    due("rows of " + text + " by " + prime, rows, kernelRows(prime));
                }
            }
        });
        says(0, "WU SETS: sets of VERTICES such that of each VERTEX the numbers of THE TABLE with all of the set are together odd "
                + "just if its WEIGHT is odd (there is one at least).", () -> {
            String[] texts = {"(0(0(0)(0)))", "(1(1(1)))", "(1(2(3)(4)))(5)", "(-1(-2)(-3(2)))", "(0(1)(1(1)))(2)", "(3(3)(3)(3))"};
            for (String text : texts) {
                start(19);
                read(text);
                int[] sets = wuSets();
                due("how many of " + text, x.wu(0), sets.length);
                due("the least of " + text, x.wu(1), sets[0]);
            }
        });
        says(0, "MU, if DET is odd: eigenvalues above 0 less those below 0, less all numbers of THE TABLE of two of the WU SET "
                + "(each by itself, and each two both ways about) together.", () -> {
            String[] texts = {"(1(2(4)))", "(-1(2(-3)(0)))", "(2(-1)(5(2)))", "(2(-2(2(-2))))", "(-3(0(4)))(1)", "(-5(-3)(2))(3)"};
            for (String text : texts) {
                start(20);
                read(text);
                due("DET of " + text, x.det() & 1, 1);
                due("WU SETS of " + text, x.wu(0), 1);
                due("MU of " + text, x.mu(), muByHand());
            }
            // all four are above 0, and the WU SET is the 2, which is an EDGE away from each odd one
            start(20);
            read("(2(3)(5)(7))");
            due("DET", x.det(), 210 - 35 - 21 - 15);
            due("wu(1)", x.wu(1), 1);
            due("MU", x.mu(), 4 - 2);
        });
        says(0, "(there is one at least)", () -> {
            due("wu(0) of no FOREST", x.wu(0), 1);
            due("wu(1) of no FOREST", x.wu(1), 0);
            read("(1(1)(1)(1)(1)(1)(1)(1)(1)(1)(1)(1))");
            due("of twelve that are odd", x.wu(0), 2);
            due("the one in the middle", x.wu(1), 1);
            x.take(11);
            due("of eleven that are odd", x.wu(0), 1);
            read("(1(1(1(1(1(1(1(1(1(1(1))))))))))))(1)");
            due("at least one", x.wu(0) >= 1 ? 1 : 0, 1);
            read("(0)(0)(0)(0)(0)(0)(0)(0)(0)(0)(0)(0)");
            due("of twelve that are 0", x.wu(0), 4096);
            due("the least", x.wu(1), 0);
            read("(1)(-1)(1)(-1)(1)(-1)(1)(-1)(1)(-1)(1)(-29)");
            due("of twelve alone that are odd", x.wu(0), 1);
            due("all of them", x.wu(1), 4095);
        });
        says(19, "WU SETS: what 0 how many, 1 the least of them (as a number). BEYOND.", () -> {
            int[] whats = {-1, 2, MAX, MIN};
            for (int what : whats) {
                due("what " + what, x.wu(what), BEYOND);
            }
            read("(1(1))");
            due("of either one", x.wu(0), 2);
            due("the least", x.wu(1), 1);
            read("(4)(-3(-5))(2)");
            due("of either, and two that are even", x.wu(0), 8);
            due("the least", x.wu(1), 2);
            x.take(0);
            x.vertex(-7);
            due("with PLACE 0", x.wu(1), 3);
        });
        says(20, "MU. STATE: DET is even.", () -> {
            due("of no FOREST", x.mu(), 0);
            int[] even = {0, 2, -2, 30, -30};
            for (int w : even) {
                read("(" + w + ")");
                due("of " + w, x.mu(), STATE);
            }
            int[] odd = {1, 3, 29};
            for (int w : odd) {
                read("(" + w + ")");
                due("of " + w, x.mu(), 1 - w);
                read("(" + -w + ")");
                due("of " + -w, x.mu(), w - 1);
            }
            read("(2(2))");
            due("of DET 3, without a WU SET's numbers", x.mu(), 2);
            read("(-2(-2))");
            due("of DET 3", x.mu(), -2);
            read("(0(0))");
            due("of DET -1", x.mu(), 0);
            read("(0(1)(0(1)(0)))");
            due("DET", x.det(), 1);
            due("both ways about", x.mu(), muByHand());
            read("(1(2(1)))(3)");
            due("DET", x.det(), 0);
            due("of DET 0", x.mu(), STATE);
            read("(29)(29)(29)(29)(29)(29)(29)(29)(29)(29)(29)(29)");
            due("of a DET that is OVER", x.mu(), 12 - 12 * 29);
            x.weigh(0, 30);
            due("of a DET that is OVER and even", x.mu(), STATE);
        });
    }

    private static int[] wuSets() {
        int[] all = new int[4096];
        int many = 0;
        int n = x.count(0);
        int[][] table = new int[n][n];
        for (int p = 0; p < n; p++) {
            for (int q = 0; q < n; q++) {
                table[p][q] = x.table(p, q);
            }
        }
        for (int set = 0; set < 1 << n; set++) {
            boolean good = true;
            for (int p = 0; p < n; p++) {
                int sum = table[p][p];
                for (int q = 0; q < n; q++) {
                    sum += (set >> q & 1) == 0 ? 0 : table[p][q];
                }
                good &= sum % 2 == 0;
            }
            if (good) {
                all[many] = set;
                many++;
            }
        }
        return java.util.Arrays.copyOf(all, many);
    }

    /** How many rows THE TABLE makes 0 of, tried one by one. */
    private static int kernelRows(int prime) {
        int n = x.count(0);
        int[][] table = new int[n][n];
        int all = 1;
        for (int p = 0; p < n; p++) {
            all *= prime;
            for (int q = 0; q < n; q++) {
                table[p][q] = x.table(p, q);
            }
        }
        int good = 0;
        for (int row = 0; row < all; row++) {
            boolean zero = true;
            for (int p = 0; p < n; p++) {
                int left = row;
                int sum = 0;
                for (int q = 0; q < n; q++) {
                    sum += table[p][q] * (left % prime);
                    left /= prime;
                }
                zero &= sum % prime == 0;
            }
            good += zero ? 1 : 0;
        }
        return good;
    }

    private static int muByHand() {
        int set = x.wu(1);
        int sum = 0;
        for (int p = 0; p < x.count(0); p++) {
            for (int q = 0; q < x.count(0); q++) {
                sum += (set >> p & set >> q & 1) == 0 ? 0 : x.table(p, q);
            }
        }
        return x.inertia(0) - x.inertia(1) - sum;
    }

    private static void inertiaIs(String text, int above, int below, int zeros) {
        read(text);
        due("above 0 of " + text, x.inertia(0), above);
        due("below 0 of " + text, x.inertia(1), below);
        due("0 of " + text, x.inertia(2), zeros);
    }

    private static void fractions() {
        says(0, "FRACTION of two VERTICES of one TREE: above the line MINOR of THE PATH, below it MINOR of THE PATH without "
                + "the first one; if below is less than 0, both are 0 less; if it is 0, it is 1 by 0.", () -> {
            fractionIs(new int[] {-7}, -7, 1);
            fractionIs(new int[] {0}, 0, 1);
            fractionIs(new int[] {5, 2}, 9, 2);
            fractionIs(new int[] {5, -2}, 11, 2);
            fractionIs(new int[] {-5, -2}, -9, 2);
            fractionIs(new int[] {5, 0}, 1, 0);
            fractionIs(new int[] {-5, 0}, 1, 0);
            fractionIs(new int[] {0, 0}, 1, 0);
            fractionIs(new int[] {0, 5}, -1, 5);
            fractionIs(new int[] {0, -5}, 1, 5);
            fractionIs(new int[] {1, 1}, 0, 1);
            fractionIs(new int[] {-1, -1}, 0, 1);
            fractionIs(new int[] {3, 1, 1}, 1, 0);
            // twelve, by which n is n and 1 by n
            fractionIs(new int[] {2, 2, 2, 2, 2, 2, 2, 2, 2, 2, 2, 2}, 13, 12);
            due("from the other end", x.fraction(11, 0, 0), 13);
            due("of eleven", x.fraction(11, 1, 1), 11);
        });
        says(21, "FRACTION of p and q: part 0 above, 1 below the line. BEYOND. NONE: they aren't of one TREE. OVER (by that "
                + "part alone).", () -> {
            due("of no FOREST", x.fraction(0, 0, 0), BEYOND);
            read("(2(3))(4)");
            int[] parts = {-1, 2, MAX, MIN};
            for (int part : parts) {
                due("part " + part, x.fraction(0, 1, part), BEYOND);
                due("part " + part + ", BEYOND ahead of NONE", x.fraction(0, 2, part), BEYOND);
            }
            for (int p : NO_PLACES) {
                due("fraction(0, " + p + ")", x.fraction(0, p, 0), BEYOND);
                due("fraction(" + p + ", 0)", x.fraction(p, 0, 1), BEYOND);
            }
            due("of two TREES, above", x.fraction(0, 2, 0), NONE);
            due("of two TREES, below", x.fraction(2, 1, 1), NONE);
        });
        says(21, "OVER (by that part alone).", () -> {
            fractionIs(MOST_LINE, MOST, 270654553);
            fractionIs(LESS_MOST_LINE, MOST, 180643670);
            fractionIs(mirrored(LESS_MOST_LINE), -MOST, 180643670);
            fractionIs(mirrored(LEAST_LINE), LEAST, 180452123);
            fractionIs(LEAST_LINE, OVER, 180452123);
            fractionIs(LESS_LEAST_LINE, OVER, 1005886853);
            fractionIs(mirrored(BELOW_LINE), OVER, 62976714);
            fractionIs(ABOVE_LINE, OVER, 55791607);
            fractionIs(behind(1, MOST_LINE), 803087270, MOST);
            fractionIs(behind(1, LESS_MOST_LINE), 893098153, MOST);
            fractionIs(behind(1, LESS_LEAST_LINE), 67854971, OVER);
            fractionIs(behind(1, LEAST_LINE), 893289701, OVER);
        });
    }

    private static void fractionIs(int[] weights, int above, int below) {
        start(promise);
        read(line(weights));
        due("FRACTION above of " + line(weights), x.fraction(0, weights.length - 1, 0), above);
        due("FRACTION below of " + line(weights), x.fraction(0, weights.length - 1, 1), below);
    }

    private static void rooms() {
        says(0, "A TREE is a LINE, if none of it has three NEIGHBOURS or more.", () -> {
            read("(3(1)(1)(1))(3(1)(1))(3(1))(3)");
            int[] lines = {STATE, STATE, STATE, STATE, 1, 1, 1, 2, 2, 3};
            for (int p = 0; p < 10; p++) {
                due("room(" + p + ", 0)", x.room(p, 0), lines[p]);
            }
            read("(3)(3(0)(0)(0)(0))");
            for (int p = 1; p < 6; p++) {
                due("with four, room(" + p + ", 1)", x.room(p, 1), STATE);
            }
        });
        says(0, "Its ROOM is n, m: n is the size of its MINOR; with a: that end (a VERTEX with one NEIGHBOUR or none) at the "
                + "lesser PLACE, and B: MINOR of it without a: m is B, or 0 less B if MINOR is above 0, by n what is left (0 "
                + ".. n less 1); if n is 0, m is 1.", () -> {
            roomIs("(7)", 7, 6);
            roomIs("(-7)", 7, 1);
            roomIs("(0)", 0, 1);
            roomIs("(1)", 1, 0);
            roomIs("(-1)", 1, 0);
            roomIs("(2)", 2, 1);
            roomIs("(-2)", 2, 1);
            roomIs("(0(0))", 1, 0);
            roomIs("(1(1))", 0, 1);
            roomIs("(0(0(0)))", 0, 1);
            roomIs("(3(2))", 5, 3);
            roomIs("(-3(-2))", 5, 2);
            // MINOR is below 0: m is B
            roomIs("(3(-2))", 7, 5);
            roomIs("(-3(2))", 7, 2);
            // B is above n: 0, 8 has MINOR -1
            roomIs("(0(8))", 1, 0);
            // 1, 1, 8: MINOR is -1 by 8 and less; B 7
            roomIs("(1(8))", 7, 6);
            roomIs("(0(-5(-9)))", 9, 1);
            // the ends are 1 and 2
            roomIs("(4(2)(7))", 56 - 2 - 7, 47 - 27);
            read("(9)(9)(9)(9)(9)(9)(9)(9)(9)(9)(-3(5))");
            due("n at the last PLACES", x.room(10, 0), 16);
            due("m at the last PLACES", x.room(11, 1), 5);
            x.take(10);
            due("n at the last PLACE", x.room(11, 0), 5);
            due("m at the last PLACE", x.room(11, 1), 4);
            read("(4(2)(7))");
            x.take(1);
            x.vertex(5);
            x.tie(1, 2);
            // 0 - 2 - 1
            due("n of 4, 7, 5", x.room(2, 0), 140 - 4 - 5);
            due("m of 4, 7, 5", x.room(2, 1), 131 - 34);
        });
        says(22, "ROOM of the TREE of p: what 0 n, 1 m. BEYOND. STATE: it is no LINE. OVER (by n; also for m).", () -> {
            due("of no FOREST", x.room(0, 0), BEYOND);
            read("(2(1)(1)(1))(5)");
            for (int p : NO_PLACES) {
                due("room(" + p + ", 0)", x.room(p, 0), BEYOND);
            }
            int[] whats = {-1, 2, MAX, MIN};
            for (int what : whats) {
                due("what " + what, x.room(4, what), BEYOND);
                due("what " + what + ", BEYOND ahead of STATE", x.room(0, what), BEYOND);
            }
            roomIs(line(MOST_LINE), MOST, 803087270);
            roomIs(line(LESS_MOST_LINE), MOST, 893098153);
            roomIs(line(LEAST_LINE), OVER, OVER);
            roomIs(line(LESS_LEAST_LINE), OVER, OVER);
            roomIs(line(BELOW_LINE), OVER, OVER);
            roomIs("(30(30(30(30(30(30(30(30(30(30(30(30))))))))))))", OVER, OVER);
            read("(30(30)(30)" + line(30, 30, 30, 30, 30, 30, 30, 30, 30) + ")");
            due("count(0)", x.count(0), 12);
            due("STATE ahead of OVER", x.room(0, 0), STATE);
            read("(30(30(30(30(30(30(30)))))))(2)");
            due("OVER of that TREE alone", x.room(7, 0), 2);
            due("what 2, BEYOND ahead of OVER", x.room(0, 2), BEYOND);
        });
        says(0, "TWO LINES are ONE ROOM, if n is one and the same, and m is, too, or one m times the other leaves 1 by n (n "
                + "0: always; n 1: always).", () -> {
            read("(0)(1(1))(1)(-1)(0(0))(5)(-5)");
            due("n 0", x.oneRoom(0, 1), 1);
            due("n 0 with itself", x.oneRoom(0, 0), 1);
            due("n 1", x.oneRoom(3, 4), 1);
            due("n 1", x.oneRoom(3, 5), 1);
            due("n 0 and 1", x.oneRoom(0, 3), 0);
            due("n 1 and 5", x.oneRoom(3, 7), 0);
            // 4 and 1 by 5
            due("n 5, other m", x.oneRoom(7, 8), 0);
            read("(2)(-2)");
            due("n 2", x.oneRoom(0, 1), 1);
            for (int m = 1; m < 7; m++) {
                for (int k = 1; k < 7; k++) {
                    read("(0)");
                    x.take(0);
                    int one = x.plant(7, m);
                    boolean same = m == k || m * k % 7 == 1;
                    int room = x.plant(7, k);
                    if (room >= 0) {
                        due("7 by " + m + " and by " + k, x.oneRoom(one, room), same ? 1 : 0);
                    }
                }
            }
        });
        says(23, "1 if the TREES of p and q are ONE ROOM, else 0. BEYOND. STATE: one is no LINE. OVER (by n of either).", () -> {
            due("of no FOREST", x.oneRoom(0, 0), BEYOND);
            read("(2(1)(1)(1))(5)");
            for (int p : NO_PLACES) {
                due("oneRoom(4, " + p + ")", x.oneRoom(4, p), BEYOND);
                due("oneRoom(" + p + ", 4)", x.oneRoom(p, 4), BEYOND);
                due("BEYOND ahead of STATE", x.oneRoom(0, p), BEYOND);
            }
            due("the first is none", x.oneRoom(1, 4), STATE);
            due("the second is none", x.oneRoom(4, 1), STATE);
            due("both are none", x.oneRoom(0, 1), STATE);
            read(line(MOST_LINE) + "(5)");
            due("n of MOST", x.oneRoom(0, 9), 1);
            due("n of MOST and 5", x.oneRoom(0, 10), 0);
            read(line(LESS_LEAST_LINE) + "(5)");
            due("n of one more", x.oneRoom(0, 9), OVER);
            due("n of the first", x.oneRoom(0, 10), OVER);
            due("n of the second", x.oneRoom(10, 0), OVER);
            due("of the other alone", x.oneRoom(10, 10), 1);
            read("(30(30(30(30(30(30(30)))))))(2(1)(1)(1))");
            due("STATE ahead of OVER", x.oneRoom(0, 7), STATE);
            due("STATE ahead of OVER", x.oneRoom(7, 0), STATE);
        });
    }

    private static void roomIs(String text, int n, int m) {
        read(text);
        due("n of " + text, x.room(0, 0), n);
        due("m of " + text, x.room(0, 1), m);
    }

    private static void chains() {
        says(0, "CHAIN of n by m (n 2 .. 999, m 1 .. n less 1, without a common divisor): the numbers a (each 2 or more) for "
                + "which n by m is the first less 1 by (the second less 1 by (the third ..)); there is just one such row.",
                () -> {
            int[][] pairs = {{2, 1}, {3, 2}, {7, 3}, {30, 29}, {997, 2}, {999, 500}, {610, 377}, {512, 511}, {999, 1}};
            for (int[] pair : pairs) {
                start(24);
                int many = x.chain(pair[0], pair[1], -1);
                long above = 1;
                long below = 0;
                for (int i = Math.min(many, 400) - 1; i >= 0; i--) {
                    int number = x.chain(pair[0], pair[1], i);
                    due("2 or more", number >= 2 ? 1 : 0, 1);
                    long more = number * above - below;
                    below = above;
                    above = more;
                }
                if (many <= 400) {
                    due("n of CHAIN", (int) above, pair[0]);
                    due("m of CHAIN", (int) below, pair[1]);
                }
                due("behind the last", x.chain(pair[0], pair[1], many), NONE);
            }
        });
        says(24, "CHAIN of n by m: how many numbers (i -1); its i-th (from 0). BEYOND (i below -1, too). STATE: n and m have a "
                + "common divisor. NONE: no such number.", () -> {
            int[][] beyond = {{1, 1}, {1, 0}, {0, 0}, {-2, 1}, {1000, 1}, {1000, 999}, {MAX, 1}, {MIN, 1}, {7, 0}, {7, -1},
                {7, 7}, {7, 8}, {2, 2}, {2, 0}, {999, 999}, {7, MAX}, {7, MIN}, {MAX, MAX}, {MIN, MIN}};
            for (int[] pair : beyond) {
                due("chain(" + pair[0] + ", " + pair[1] + ", -1)", x.chain(pair[0], pair[1], -1), BEYOND);
                due("chain(" + pair[0] + ", " + pair[1] + ", 0)", x.chain(pair[0], pair[1], 0), BEYOND);
            }
            due("i -2", x.chain(7, 3, -2), BEYOND);
            due("i MIN", x.chain(7, 3, MIN), BEYOND);
            due("i -2, BEYOND ahead of STATE", x.chain(6, 3, -2), BEYOND);
            int[][] common = {{4, 2}, {6, 4}, {999, 3}, {999, 37}, {998, 499}, {9, 6}};
            for (int[] pair : common) {
                due("STATE, i -1", x.chain(pair[0], pair[1], -1), STATE);
                due("STATE, i 0", x.chain(pair[0], pair[1], 0), STATE);
                due("STATE ahead of NONE", x.chain(pair[0], pair[1], MAX), STATE);
            }
            due("the least", x.chain(2, 1, -1), 1);
            due("its number", x.chain(2, 1, 0), 2);
            due("i 1", x.chain(2, 1, 1), NONE);
            due("i MAX", x.chain(2, 1, MAX), NONE);
            due("999 by 1", x.chain(999, 1, -1), 1);
            due("its number", x.chain(999, 1, 0), 999);
            due("999 by 998", x.chain(999, 998, -1), 998);
            due("its last", x.chain(999, 998, 997), 2);
            due("none behind it", x.chain(999, 998, 998), NONE);
        });
        says(25, "New VERTICES by CHAIN of n by m, one for each number, WEIGHT 0 less it, each with an EDGE to the one ahead of "
                + "it: PLACE of the first (BY HAND). BEYOND. STATE: n and m have a common divisor. FULL. OVER: a WEIGHT.",
                () -> {
            int[][] beyond = {{1, 1}, {1000, 1}, {1000, 999}, {7, 0}, {7, 7}, {7, -1}, {0, 0}, {MIN, MIN}, {MAX, 1}};
            for (int[] pair : beyond) {
                due("plant(" + pair[0] + ", " + pair[1] + ")", x.plant(pair[0], pair[1]), BEYOND);
            }
            due("STATE", x.plant(6, 4), STATE);
            due("STATE ahead of FULL", x.plant(998, 996), STATE);
            due("STATE ahead of OVER", x.plant(999, 3), STATE);
            due("thirteen of no FOREST", x.plant(14, 13), FULL);
            due("-31", x.plant(31, 1), OVER);
            due("-31 as the second", x.plant(61, 31), OVER);
            // twelve 2 and a 40, and the other way about
            due("FULL ahead of OVER", x.plant(508, 469), FULL);
            due("FULL ahead of OVER", x.plant(508, 13), FULL);
            // eleven 2 and a 40
            due("twelve of no FOREST, OVER", x.plant(469, 430), OVER);
            due("count(0)", x.count(0), 0);
            due("-30", x.plant(30, 1), 0);
            due("at(0, 0)", x.at(0, 0), -30);
            due("-2 and -30", x.plant(59, 30), 1);
            weights(-30, -2, -30);
            due("nine", x.plant(10, 9), 3);
            due("at(11, 0)", x.at(11, 0), -2);
            due("at(11, 2)", x.at(11, 2), 1024);
            due("count(1)", x.count(1), 3);
            due("one more", x.plant(2, 1), FULL);
            due("one more, OVER too", x.plant(31, 1), FULL);
            x.take(4);
            due("two with one PLACE", x.plant(3, 2), FULL);
            due("two with one PLACE, OVER too", x.plant(61, 31), FULL);
            due("one with one PLACE, OVER", x.plant(31, 1), OVER);
            due("one with one PLACE", x.plant(2, 1), 4);
            read("(1)");
            x.take(0);
            due("twelve", x.plant(13, 12), 0);
            due("count(0)", x.count(0), 12);
        });
    }

    private static void texts() {
        says(26, "The n lowest bytes (1 .. 8) of a word, the lowest first, come to THE TAPE: how many there are. BEYOND. FULL.",
                () -> {
            int[] wrong = {0, -1, 9, 10, MAX, MIN};
            for (int n : wrong) {
                due("feed of " + n, x.feed(40, n), BEYOND);
            }
            due("count(7)", x.count(7), 0);
            for (int n = 1; n <= 8; n++) {
                x.forest();
                due("feed of " + n, x.feed(-1L, n), n);
                due("forest()", x.forest(), -10);
            }
            due("of 3", x.feed(0x7fff00ff80293528L, 3), 3);
            due("forest()", x.forest(), 1);
            weights(5);
            due("of 8", x.feed(0x2929302829372d28L, 8), 8);
            due("the highest one counts", x.forest(), -10 - 7);
            due("of 8", x.feed(0x2930282929372d28L, 8), 8);
            due("the lowest first", x.forest(), -10 - 4);
            due("of 8", x.feed(0xff29302829372d28L, 8), 8);
            due("a byte of 255", x.forest(), -10 - 7);
            due("of 7", x.feed(0xff29302829372d28L, 7), 7);
            due("without that byte", x.forest(), 2);
            weights(-7, 0);
            for (int i = 1; i <= 14; i++) {
                due("feed of 8", x.feed(0x2020202020202020L, 8), 8 * i);
            }
            due("feed of 1", x.feed(32, 1), 113);
            due("feed of 8 to 113", x.feed(-1, 8), FULL);
            due("feed of 9 to 113, BEYOND ahead of FULL", x.feed(-1, 9), BEYOND);
            due("feed of 7 to 113", x.feed(0x29322d28202020L, 7), 120);
            due("feed of 1 to 120", x.feed(32, 1), FULL);
            due("feed of 0 to 120", x.feed(32, 0), BEYOND);
            due("count(7)", x.count(7), 120);
            due("forest()", x.forest(), 1);
            weights(-2);
            due("THE TAPE has room again", x.feed(40, 1), 1);
        });
        says(0, "TEXT of a FOREST, from THE TAPE (bytes, at most 120): T { T }. T: ( WEIGHT { T } ).", () -> {
            fault("", 0);
            due("one", read("(0)"), 1);
            due("two", read("(0)(0)"), 2);
            due("within", read("(0(0)(0(0))(0))"), 5);
            fault("()", 1);
            fault("(0)()", 4);
            fault("(0())", 3);
            fault("((0))", 1);
            fault("(0(0)0)", 5);
            fault("(0)0", 3);
            fault("(0 0)", 3);
            fault("0", 0);
            fault(")", 0);
            fault("(0))", 3);
            fault("(0)(0))(0)", 6);
            due("a text of 120 bytes", read("(-30(-30(-30(-30(-30(-30(-30(-30(-30(-30(-30(-30))))))))))))" + " ".repeat(60)), 12);
        });
        says(0, "TOKENS: ( and ) and WEIGHTS (perhaps -, then digits, as many as there are); blanks (32) may stand between "
                + "them.", () -> {
            due("blanks", read("( 1  ( -2 ) )   ( 3 )"), 3);
            weights(1, -2, 3);
            due("without", read("(1(-2))(3)"), 3);
            fault("(- 1)", 1);
            fault("(1 1)", 3);
            fault("(-1 1)", 4);
            fault("(1-1)", 2);
            fault("(--1)", 1);
            fault("(1\t)", 2);
            fault("(1\n)", 2);
            fault("(1" + (char) 160 + ")", 2);
            fault("(1" + (char) 0 + ")", 2);
            fault("(1!)", 2);
            fault("(" + (char) 176 + ")", 1);
        });
        says(0, "a WEIGHT beyond -30 .. 30, of three digits or more, a - without a digit behind it; the ( of a thirteenth "
                + "VERTEX; a byte that begins none); or how many bytes there are, if it ends too early.", () -> {
            due("30 and -30", read("(30(-30))"), 2);
            weights(30, -30);
            due("0 as it may be written", read("(00(-0)(-00)(09)(-09))"), 5);
            weights(0, 0, 0, 9, -9);
            String[] weights = {"31", "-31", "99", "-99", "000", "001", "030", "-030", "300", "9999999999", "-4294967295",
                "4294967296", "-", "-x", "--", "+1", "x", "(", ")"};
            for (String w : weights) {
                start(27);
                fault("(" + w + ")", 1);
                fault("(1( " + w + "))", 4);
            }
            start(27);
            fault("(5x)", 2);
            fault("(5/)", 2);
            fault("(5:)", 2);
            fault("(/)", 1);
            fault("(:)", 1);
            fault("(1)".repeat(13), 36);
            fault("(1".repeat(13), 24);
            fault("(1)".repeat(12) + " (", 37);
            due("twelve", read("(1)".repeat(12)), 12);
            String text = "(1(-2)(30))";
            int[] ends = {0, 1, 2, 3, -3, 5, 6, 7, 8, 9, 10};
            for (int i = 0; i < text.length(); i++) {
                // behind the - alone it is the - that is not as told
                fault(text.substring(0, i), ends[i] < 0 ? -ends[i] : i);
            }
            start(27);
            fault("(1   ", 5);
            fault("   ", 3);
            fault("(1)(2  ", 7);
            fault(" ".repeat(120), 120);
            fault("(".repeat(120), 1);
        });
        says(0, "Each T is a VERTEX (PLACES 0, 1, .. as they come), with EDGES to those T within it, but not in these.", () -> {
            due("a FOREST", read("(1(2(3)(4(5)))(6))(7(8))"), 8);
            weights(1, 2, 3, 4, 5, 6, 7, 8, 99);
            int[] nears = {2 + 32, 1 + 4 + 8, 2, 2 + 16, 8, 1, 128, 64};
            for (int p = 0; p < 8; p++) {
                due("at(" + p + ", 2)", x.at(p, 2), nears[p]);
            }
        });
        says(0, "FAULT: the place (from 0) of the first byte of the first TOKEN that can't stand there, or is not as told", () -> {
            // the first one of two
            fault("(1)1)", 3);
            fault("(99)x", 1);
            fault("x(99)", 0);
            fault("(1(-31)(-32))", 3);
            fault("(1)  -5", 5);
            fault("(1)  -", 5);
            fault("(1   222)", 5);
            fault("(   222)", 4);
            fault("(1) (2)  )", 9);
        });
        says(27, "THE TAPE, which is empty then, is a TEXT: that FOREST comes in place of the one that is (BY HAND): how many "
                + "VERTICES. -10 less the FAULT (no ERROR; THE FOREST stays; THE TAPE is empty, too).", () -> {
            read("(1)(2)(3)");
            due("in place", read("(7)"), 1);
            due("count(0)", x.count(0), 1);
            due("count(7)", x.count(7), 0);
            due("an empty one", x.forest(), -10);
            fault("(8)(9)(", 7);
            weights(7, 99);
            due("count(0)", x.count(0), 1);
            for (int k = 1; k <= 7; k++) {
                due("told(" + k + ")", x.told(k), k == 1 ? 1 : 0);
            }
            feedAll("(1");
            x.forest();
            feedAll(")");
            due("what was ahead is forgotten", x.forest(), -10);
            due("the greatest FAULT", read(" ".repeat(120)), -130);
        });
        says(28, "Byte i of LEAST TEXT of THE FOREST; how many there are (i -1). BEYOND: i below -1. NONE.", () -> {
            due("of no FOREST", x.least(-1), 0);
            due("byte 0 of none", x.least(0), NONE);
            due("i -2", x.least(-2), BEYOND);
            due("i MIN", x.least(MIN), BEYOND);
            due("i MAX", x.least(MAX), NONE);
            read("(-30)");
            due("how many", x.least(-1), 5);
            int[] bytes = {40, 45, 51, 48, 41, NONE, NONE};
            for (int i = 0; i < bytes.length; i++) {
                due("least(" + i + ")", x.least(i), bytes[i]);
            }
            read("(-30)".repeat(12));
            due("the longest", x.least(-1), 60);
            due("its last", x.least(59), 41);
            due("behind it", x.least(60), NONE);
        });
        says(0, "LEAST TEXT: a TEXT of a TREE is a VERTEX of it with what hangs on it: (, WEIGHT (- if it is below 0, then its "
                + "digits, no 0 in front), a TEXT in the same way of each that hangs on it by an EDGE (any order), ).", () -> {
            String[][] due = {{"(0)", "(0)"}, {"(-0)", "(0)"}, {"(07)", "(7)"}, {"(10)", "(10)"}, {"(-9)", "(-9)"},
                {"(-10)", "(-10)"}, {"(9(10))", "(10(9))"}, {"(1(10))", "(1(10))"}, {"(2(-3))", "(-3(2))"},
                {"(1)(10)(-1)(1(1))", "(-1)(1(1))(1)(10)"}, {"(5(4)(3)(20))", "(20(5(3)(4)))"},
                {"(3(1)(1(2)))", "(1(2)(3(1)))"}, {"(1(1)(1))", "(1(1(1)))"}, {"(2(1)(1))(1(2))", "(1(2(1)))(1(2))"}};
            for (String[] row : due) {
                read(row[0]);
                isText("LEAST TEXT of " + row[0], least(), row[1]);
            }
            x = new RoomTrees();
            x.vertex(0);
            for (int w = -30; w <= 30; w++) {
                x.weigh(0, w);
                isText("LEAST TEXT of " + w, least(), "(" + w + ")");
            }
        });
        says(0, "Of all these, by any first VERTEX and any orders, the first as in a dictionary of bytes (( 40, ) 41, - 45, "
                + "digits 48 to 57) is the LEAST TEXT of the TREE.", () -> {
            // of a LINE of twelve: by each end, and by each one between them its two sides
            int[][] lines = {{5, 4, 3, 2, 9, 8, 7, 6, 5, 4, 3, 20}, {20, 4, 3, 2, 9, 8, 7, 6, 5, 4, 3, 5},
                {5, 4, 3, 2, 9, 8, 7, 6, 5, 4, -3, 20}, {5, 4, -3, 2, 9, 8, 7, 6, 5, 4, -3, 20},
                {5, 5, 5, 5, 5, 5, 5, 5, 5, 5, 5, 5}, {-1, 5, 5, 5, 5, 5, 5, 5, 5, 5, 5, 5},
                {5, 5, 5, 5, 5, 5, 5, 5, 5, 5, 5, -1}, {5, 5, 5, 5, 5, 1, 5, 5, 5, 5, 5, 5}};
            for (int[] weights : lines) {
                start(28);
                read(line(weights));
                isText("LEAST TEXT of " + line(weights), least(), leastByHand(weights));
            }
            start(28);
            read("(9(1)(10)(2)(-1)(-10)(-2)(3)(30)(0)(4)(5))");
            isText("LEAST TEXT of a star", least(), "(-1(9(-10)(-2)(0)(1)(10)(2)(3)(30)(4)(5)))");
        });
        says(0, "LEAST TEXT of THE FOREST: those of its TREES in such an order that all is the first, too.", () -> {
            read("(30)(3)(-3)(0)(-30)(10)(1)(2)(20)(29)(9)(-9)");
            isText("LEAST TEXT of twelve", least(), "(-3)(-30)(-9)(0)(1)(10)(2)(20)(29)(3)(30)(9)");
            start(28);
            read("(1)(1(1))(1(1)(1))(1(1(1(1))))(1(10))");
            isText("LEAST TEXT of five", least(), "(1(1(1(1))))(1(1(1)))(1(1))(1(10))(1)");
        });
    }

    private static String side(int[] weights, int from, int step) {
        StringBuilder text = new StringBuilder();
        int many = 0;
        for (int i = from; i >= 0 && i < weights.length; i += step) {
            text.append('(').append(weights[i]);
            many++;
        }
        return text + ")".repeat(many);
    }

    private static String leastByHand(int[] weights) {
        String best = null;
        for (int i = 0; i < weights.length; i++) {
            String left = side(weights, i - 1, -1);
            String right = side(weights, i + 1, 1);
            String one = "(" + weights[i] + left + right + ")";
            String other = "(" + weights[i] + right + left + ")";
            String lesser = one.compareTo(other) < 0 ? one : other;
            best = best == null || lesser.compareTo(best) < 0 ? lesser : best;
        }
        return best;
    }

    public static void main(String[] args) {
        minors();
        links();
        inertiaKernelWu();
        fractions();
        rooms();
        chains();
        texts();
        close();
    }
}
