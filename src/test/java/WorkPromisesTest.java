/** Promises 29 to 53 of ../shared/DOC.md: ordinary calls, the edges that the document names, and wrong ones. */
public final class WorkPromisesTest extends Due {
    private static void keep() {
        start(29);
        due("keep(-1)", x.keep(-1), BEYOND);
        due("keep(4)", x.keep(4), BEYOND);
        due("keep(0)", x.keep(0), 0);
        due("count(8)", x.count(8), 1);
        read("(1(2))(3)");
        x.take(0);
        twoMovesAndOneBack();
        due("keep(3)", x.keep(3), 2);
        trailIs(1, 1);
        due("count(8)", x.count(8), 2);
        x.weigh(1, 9);
        x.vertex(8);
        due("fetch(3)", x.fetch(3), 2);
        weights(99, -2, -3);
        due("keep(0)", x.keep(0), 2);
        due("count(8)", x.count(8), 2);
        x.take(1);
        due("fetch(0)", x.fetch(0), 2);
    }

    private static void fetch() {
        start(30);
        due("fetch(-1)", x.fetch(-1), BEYOND);
        due("fetch(4)", x.fetch(4), BEYOND);
        due("fetch(0)", x.fetch(0), MISSING);
        x.keep(1);
        read("(1(2))");
        x.keep(2);
        read("(3)");
        twoMovesAndOneBack();
        due("fetch(3)", x.fetch(3), MISSING);
        due("fetch(9)", x.fetch(9), BEYOND);
        trailIs(1, 1);
        due("fetch(2)", x.fetch(2), 2);
        trailIs(0, 0);
        weights(1, 2, 99);
        edge(0, 1);
        x.weigh(0, 5);
        x.take(1);
        due("fetch(2)", x.fetch(2), 2);
        weights(1, 2, 99);
        edge(0, 1);
        due("fetch(1)", x.fetch(1), 0);
        due("count(0)", x.count(0), 0);
    }

    private static void drop() {
        start(31);
        due("drop(-1)", x.drop(-1), BEYOND);
        due("drop(4)", x.drop(4), BEYOND);
        due("drop(0)", x.drop(0), 0);
        x.keep(0);
        x.keep(3);
        due("drop(0)", x.drop(0), 1);
        due("count(8)", x.count(8), 1);
        due("drop(0)", x.drop(0), 0);
        due("fetch(0)", x.fetch(0), MISSING);
        due("fetch(3)", x.fetch(3), 0);
        due("drop(3)", x.drop(3), 1);
    }

    private static void alikeIs(String one, String other, int due) {
        read(one);
        x.keep(0);
        read(other);
        due("alike of " + one + " and " + other, x.alike(0), due);
        x.keep(0);
        read(one);
        due("alike of " + other + " and " + one, x.alike(0), due);
    }

    private static void alike() {
        start(32);
        due("alike(-1)", x.alike(-1), BEYOND);
        due("alike(4)", x.alike(4), BEYOND);
        due("alike(3)", x.alike(3), MISSING);
        x.keep(3);
        due("alike(3)", x.alike(3), 1);
        alikeIs("(1(2(3)))", "(3(2(1)))", 1);
        alikeIs("(1(2(3)))", "(2(3)(1))", 1);
        alikeIs("(1(2(3)))", "(1(3(2)))", 0);
        alikeIs("(1(2))(3)", "(3)(2(1))", 1);
        alikeIs("(1(2))(3)", "(1)(2(3))", 0);
        alikeIs("(1)(1)", "(1(1))", 0);
        alikeIs("(1)", "(-1)", 0);
        alikeIs("(1)", "(1)(1)", 0);
        // the same WEIGHTS, NEIGHBOURS and NEIGHBOURS' WEIGHTS of each, and yet not one FOREST
        alikeIs("(0(0(0(0(0(0))))))(0(0(0(0))))", "(0(0(0(0(0)))))(0(0(0(0(0)))))", 0);
        alikeIs("(0(0)(0(0(0)(0(0)))))", "(0(0)(0(0(0(0))(0))))", 1);
        alikeIs("(0(0(0)(0))(0(0(0))))", "(0(0)(0(0(0)(0(0)))))", 0);
    }

    private static void worker() {
        start(33);
        due("worker(6, 0)", x.worker(6, 0), BEYOND);
        due("worker(-1, 0)", x.worker(-1, 0), BEYOND);
        due("worker(0, 10)", x.worker(0, 10), BEYOND);
        due("worker(0, -1)", x.worker(0, -1), BEYOND);
        for (int i = 0; i < 6; i++) {
            due("worker", x.worker(i, 9 - i), i);
            due("count(6)", x.count(6), i + 1);
        }
        due("worker(0, 0)", x.worker(0, 0), FULL);
        due("worker(6, 0)", x.worker(6, 0), BEYOND);
        due("worker(0, 10)", x.worker(0, 10), BEYOND);
        for (int i = 0; i < 6; i++) {
            due("workerIs kind", x.workerIs(i, 0), i);
            due("workerIs m", x.workerIs(i, 1), 9 - i);
        }
    }

    private static void workerIs() {
        start(34);
        due("workerIs(0, 0)", x.workerIs(0, 0), BEYOND);
        int[] costs = {5, 10, 5, 15, 15, 1};
        for (int kind = 0; kind < 6; kind++) {
            x.worker(kind, 4);
            due("KIND", x.workerIs(kind, 0), kind);
            due("m", x.workerIs(kind, 1), 4);
            due("JOBS", x.workerIs(kind, 2), 0);
            due("COST", x.workerIs(kind, 3), costs[kind]);
        }
        due("workerIs(0, 4)", x.workerIs(0, 4), BEYOND);
        due("workerIs(0, -1)", x.workerIs(0, -1), BEYOND);
        due("workerIs(6, 0)", x.workerIs(6, 0), BEYOND);
        due("workerIs(-1, 0)", x.workerIs(-1, 0), BEYOND);
        int[] low = {1, 2, 1, 7, 3, -3};
        start(34);
        for (int kind = 0; kind < 6; kind++) {
            x.worker(kind, 0);
            due("COST of m 0", x.workerIs(kind, 3), low[kind]);
        }
        read("(-1)(-1)(-1)");
        x.work(5, 2);
        x.work(5, 9);
        due("JOBS", x.workerIs(5, 2), 3);
        due("JOBS of another", x.workerIs(4, 2), 0);
    }

    private static void become() {
        start(35);
        due("become(0, 0)", x.become(0, 0), BEYOND);
        x.worker(3, 7);
        due("become(0, 6)", x.become(0, 6), BEYOND);
        due("become(0, -1)", x.become(0, -1), BEYOND);
        due("become(1, 0)", x.become(1, 0), BEYOND);
        due("become(0, 4)", x.become(0, 4), 3);
        due("become(0, 4)", x.become(0, 4), 4);
        due("KIND", x.workerIs(0, 0), 4);
        due("m", x.workerIs(0, 1), 7);
        due("COST", x.workerIs(0, 3), 24);
        read("(1)(1)(1)(1)(1)(1)(1)(0(3))");
        due("next", x.next(0, 0), 5);
        x.work(0, 1);
        x.become(0, 0);
        due("JOBS stay", x.workerIs(0, 2), 1);
        due("next", x.next(0, 0), NONE);
    }

    private static void as() {
        start(36);
        due("as(0, 0)", x.as(0, 0), BEYOND);
        int[] rows = {1, 3, 5, 11, 21, 33};
        for (int kind = 0; kind < 6; kind++) {
            x.worker(kind, kind + 2);
        }
        for (int kind = 0; kind < 6; kind++) {
            for (int other = 0; other < 6; other++) {
                boolean good = (rows[kind] >> other & 1) != 0;
                due("as(" + kind + ", " + other + ")", x.as(kind, other), good ? kind + 2 : KIND);
            }
        }
        due("as(6, 0)", x.as(6, 0), BEYOND);
        due("as(-1, 0)", x.as(-1, 0), BEYOND);
        due("as(0, 6)", x.as(0, 6), BEYOND);
        due("as(0, -1)", x.as(0, -1), BEYOND);
        x.become(0, 4);
        due("as(0, 2)", x.as(0, 2), 2);
    }

    private static void nexts(int... due) {
        for (int kind = 0; kind < 6; kind++) {
            x.become(0, kind);
            due("next of KIND " + kind, x.next(0, 0), due[2 * kind]);
            due("next PLACE of KIND " + kind, x.next(0, 1), due[2 * kind + 1]);
        }
    }

    private static void next() {
        start(37);
        due("next(0, 0)", x.next(0, 0), BEYOND);
        x.worker(0, 0);
        due("next(0, 2)", x.next(0, 2), BEYOND);
        due("next(0, -1)", x.next(0, -1), BEYOND);
        due("next(1, 0)", x.next(1, 0), BEYOND);
        nexts(NONE, NONE, NONE, NONE, NONE, NONE, NONE, NONE, NONE, NONE, NONE, NONE);
        // 0 has three NEIGHBOURS, 1 two, 2 one; 3 and 4 are 1; ABSORB at 6, SPLIT at 9, and 10 is -1
        read("(-1(-1(-1))(1)(1))(2(0(2)))(4(0))(-1)");
        nexts(0, 1, 0, 1, 4, 6, 0, 10, 5, 9, 0, 2);
        x.take(1);
        nexts(0, 0, 0, 0, 4, 6, 0, 10, 5, 9, 0, 2);
        read("(1)(3)(1)");
        nexts(NONE, NONE, 0, 0, NONE, NONE, 0, 2, NONE, NONE, NONE, NONE);
        read("(-1(30))(-1(7)(7))(0(30)(1))(1(-30))(1)");
        nexts(0, 2, 0, 2, 0, 2, 0, 2, 0, 2, NONE, NONE);
        start(37);
        x.worker(0, 3);
        read("(-1)(0(1))(-1)(0(1)(1))(-1)");
        nexts(0, 3, 0, 3, 4, 4, 0, 7, 4, 4, 0, 3);
        x.weigh(3, 1);
        x.weigh(7, 1);
        // under m nothing is looked at, at m it is
        nexts(NONE, NONE, 0, 3, 4, 4, 0, 7, 4, 4, NONE, NONE);
        x.move(6, 0, 0, 0, 0);
        for (int i = 0; i < 39; i++) {
            x.move(6, 0, 0, 0, 0);
        }
        due("next with 40 DONE", x.next(0, 0), NONE);
        x.become(0, 1);
        due("next with 40 DONE", x.next(0, 1), 3);
        due("at with 40 DONE", x.at(3, 4), 0);
        due("rest with 40 DONE", x.rest(0, 0), 4);
    }

    private static void work() {
        start(38);
        due("work(0, 1)", x.work(0, 1), BEYOND);
        x.worker(1, 0);
        due("work(0, 0)", x.work(0, 0), BEYOND);
        due("work(0, 13)", x.work(0, 13), BEYOND);
        due("work(-1, 1)", x.work(-1, 1), BEYOND);
        due("work(0, 12)", x.work(0, 12), 0);
        trailIs(0, 0);
        read("(1)(-1)(1)(-1)(1)(-1)(1)(-1)(1)(-1)(1)(-1)");
        due("work(0, 5)", x.work(0, 5), 5);
        weights(1, 99, 1, 99, 1, 99, 1, 99, 1, 99, 1, -1);
        trailIs(5, 0);
        due("trail(4, 1)", x.trail(4, 1), 9);
        due("trail(4, 0)", x.trail(4, 0), 0);
        due("factor()", x.factor(), -1);
        x.undo();
        due("work(0, 2)", x.work(0, 2), 2);
        trailIs(6, 0);
        due("work(0, 12)", x.work(0, 12), 6);
        due("JOBS", x.workerIs(0, 2), 13);
        due("count(0)", x.count(0), 0);
        due("count(9)", x.count(9), 13);
        start(38);
        x.worker(0, 0);
        read("(-1)");
        for (int i = 0; i < 36; i++) {
            x.move(6, 0, 0, 0, 0);
        }
        due("work(0, 5) behind 36", x.work(0, 5), FULL);
        due("work(0, 13) behind 36", x.work(0, 13), BEYOND);
        due("work(0, 4) behind 36", x.work(0, 4), 1);
        trailIs(37, 0);
        x.undo();
        due("work(0, 4) behind one TAKEN BACK", x.work(0, 4), 1);
    }

    private static void rest() {
        start(39);
        due("rest(0, 0)", x.rest(0, 0), BEYOND);
        x.worker(0, 0);
        due("rest(0, 3)", x.rest(0, 3), BEYOND);
        due("rest(0, -1)", x.rest(0, -1), BEYOND);
        due("rest(1, 0)", x.rest(1, 0), BEYOND);
        read("(-2(-1(-2(-2(-7)))))(0(5))");
        x.move(6, 0, 0, 0, 0);
        x.move(6, 0, 0, 0, 0);
        x.undo();
        x.redo();
        int[][] due = {{2, 5, -4}, {2, 5, -4}, {2, 5, -4}, {4, 3, -2}, {4, 1, -7}, {0, 7, -9}};
        for (int kind = 0; kind < 6; kind++) {
            x.become(0, kind);
            for (int what = 0; what < 3; what++) {
                due("rest(0, " + what + ") of KIND " + kind, x.rest(0, what), due[kind][what]);
            }
        }
        weights(-2, -1, -2, -2, -7, 0, 5);
        trailIs(2, 0);
        due("JOBS", x.workerIs(0, 2), 0);
        read("(1)(1)(1)(1)(1)(1)(1)(1)(1)(1)(1)(1)");
        x.become(0, 3);
        due("rest of twelve", x.rest(0, 0), 12);
        due("rest of twelve", x.rest(0, 1), 0);
    }

    private static void best() {
        start(40);
        due("best(10)", x.best(10), BEYOND);
        due("best(-1)", x.best(-1), BEYOND);
        for (int m = 0; m < 10; m++) {
            due("best(" + m + ")", x.best(m), 0);
        }
        read("(1)(1)");
        due("best(0)", x.best(0), 1);
        due("best(1)", x.best(1), 1);
        due("best(2)", x.best(2), 0);
        read("(5(0(5)))");
        due("best(0) by ABSORB", x.best(0), 2);
        due("best(2) by ABSORB", x.best(2), 0);
        read("(5(0))");
        due("best(0) by SPLIT", x.best(0), 4);
        read("(2(1(2)))");
        due("best(0)", x.best(0), 1);
        trailIs(0, 0);
        weights(2, 1, 2);
        // from the greatest PLACE on the middle of three 1s stays 1 - 1 is 0; the least takes its NEIGHBOUR along
        read("(1(1))(1)");
        due("best(0) of both", x.best(0), 1);
    }

    private static void fewest() {
        start(41);
        due("fewest(-1, 0)", x.fewest(-1, 0), BEYOND);
        due("fewest(5, 0)", x.fewest(5, 0), BEYOND);
        due("fewest(0, 3)", x.fewest(0, 3), BEYOND);
        due("fewest(0, -1)", x.fewest(0, -1), BEYOND);
        for (int n = 0; n < 5; n++) {
            due("fewest(n, 0)", x.fewest(n, 0), 0);
            due("fewest(n, 1)", x.fewest(n, 1), 0);
            due("fewest(n, 2)", x.fewest(n, 2), -1);
        }
        read("(7)(7)");
        due("fewest(4, 0)", x.fewest(4, 0), 2);
        due("fewest(4, 1)", x.fewest(4, 1), 0);
        due("fewest(4, 2)", x.fewest(4, 2), -1);
        // DOWN at 2 makes a 0 of 1, at which SPLIT takes two along
        read("(9(1(1(5))))(0(9))");
        int[][] due = {{6, 0, -1}, {4, 1, 4}, {3, 2, 1}, {1, 3, 1}};
        for (int n = 0; n < due.length; n++) {
            for (int what = 0; what < 3; what++) {
                due("fewest(" + n + ", " + what + ")", x.fewest(n, what), due[n][what]);
            }
        }
        read("(0(1))(0(1))(0(1))(0(1))(0(1))");
        int[] left = {10, 8, 6, 4, 2};
        for (int n = 0; n < 5; n++) {
            due("fewest(" + n + ", 0) of SPLITS", x.fewest(n, 0), left[n]);
            due("fewest(" + n + ", 1) of SPLITS", x.fewest(n, 1), n);
            due("fewest(" + n + ", 2) of SPLITS", x.fewest(n, 2), n == 0 ? -1 : 0);
        }
        read("(1)(1)(1)(1)(1)(1)(1)(1)(1)(1)(1)(1)");
        due("fewest(4, 0)", x.fewest(4, 0), 8);
        due("fewest(4, 1)", x.fewest(4, 1), 4);
        due("fewest(4, 2)", x.fewest(4, 2), 0);
        trailIs(0, 0);
        fewestIs("(9(1(1(5))))(0(9))");
        fewestIs("(1(0(1(0(1(0(1)))))))(-1(2))");
        fewestIs("(2(1(2(3))))(-1)(0(4(0(5))))");
        fewestIs("(1(1)(1)(2(1)(3(1))))");
        fewestIs("(29(0(2)))(0(1)(-1))(30(-1))");
        // just one MOVE can be the first
        read("(5)(7(-1(6)))");
        due("fewest(4, 0)", x.fewest(4, 0), 3);
        due("fewest(4, 1)", x.fewest(4, 1), 1);
        due("fewest(4, 2)", x.fewest(4, 2), 2);
    }

    /** What is due by all rows of MOVES, each row tried on an object of its own. */
    private static void fewestIs(String text) {
        start(41);
        read(text);
        for (int n = 0; n < 5; n++) {
            int[] best = {x.count(0), 0, -1};
            all(text, new int[n], 0, best);
            for (int what = 0; what < 3; what++) {
                due("fewest(" + n + ", " + what + ") of " + text, x.fewest(n, what), best[what]);
            }
        }
    }

    private static void all(String text, int[] places, int depth, int[] best) {
        RoomTrees one = new RoomTrees();
        for (int i = 0; i < text.length(); i++) {
            one.feed(text.charAt(i), 1);
        }
        one.forest();
        for (int i = 0; i < depth; i++) {
            one.move(one.at(places[i], 4), places[i], 0, 0, 0);
        }
        int size = one.count(0);
        int first = depth == 0 ? -1 : places[0];
        if (size < best[0] || size == best[0] && (depth < best[1] || depth == best[1] && first < best[2])) {
            best[0] = size;
            best[1] = depth;
            best[2] = first;
        }
        for (int p = 0; p < 12 && depth < places.length; p++) {
            if (one.at(p, 4) >= 0) {
                places[depth] = p;
                all(text, places, depth + 1, best);
            }
        }
    }

    private static void reach() {
        start(42);
        due("reach(-1, 0)", x.reach(-1, 0), BEYOND);
        due("reach(4, 0)", x.reach(4, 0), BEYOND);
        due("reach(0, -1)", x.reach(0, -1), BEYOND);
        due("reach(0, 4)", x.reach(0, 4), BEYOND);
        due("reach(0, 0)", x.reach(0, 0), MISSING);
        x.keep(0);
        due("reach(0, 0)", x.reach(0, 0), 0);
        read("(5(-2))");
        x.keep(1);
        due("reach(0, 3)", x.reach(0, 3), NONE);
        read("(2(-5))");
        x.move(6, 0, 0, 0, 0);
        x.undo();
        due("reach(1, 0)", x.reach(1, 0), NONE);
        due("reach(1, 1)", x.reach(1, 1), 1);
        due("reach(1, 3)", x.reach(1, 3), 1);
        trailIs(0, 1);
        read("(-2(5))");
        due("reach(1, 3) of what it is", x.reach(1, 3), 0);
        // DOWN, ABSORB, MIRROR
        read("(2(0(-6(1))))");
        read("(-1(0(-2(1))))");
        read("(2(0(0(3(-4(-1))))))");
        due("reach(1, 3)", x.reach(1, 3), NONE);
        read("(1(3(0(-1(6)))))(4(0))");
        x.keep(1);
        x.move(5, 6, 0, 0, 0);
        x.move(4, 2, 0, 0, 0);
        x.keep(2);
        x.move(6, 0, 0, 0, 0);
        x.keep(3);
        x.fetch(1);
        due("reach(2, 1)", x.reach(2, 1), NONE);
        due("reach(2, 2)", x.reach(2, 2), 2);
        due("reach(3, 2)", x.reach(3, 2), NONE);
        due("reach(3, 3)", x.reach(3, 3), 3);
        due("reach(1, 3)", x.reach(1, 3), 0);
        x.fetch(3);
        due("reach(2, 3)", x.reach(2, 3), 1);
        due("reach(1, 3) of more VERTICES", x.reach(1, 3), NONE);
    }

    private static void sheet() {
        start(43);
        due("sheet(-1, 8, 1)", x.sheet(-1, 8, 1), BEYOND);
        due("sheet(4, 8, 1)", x.sheet(4, 8, 1), BEYOND);
        due("sheet(0, 9, 1)", x.sheet(0, 9, 1), BEYOND);
        due("sheet(0, 64, -1)", x.sheet(0, 64, -1), BEYOND);
        due("sheet(0, -8, 1)", x.sheet(0, -8, 1), BEYOND);
        due("sheet(4, 8, -1)", x.sheet(4, 8, -1), BEYOND);
        due("sheet(0, 8, -1)", x.sheet(0, 8, -1), STATE);
        due("sheet(0, 8, MIN)", x.sheet(0, 8, MIN), STATE);
        due("sheet(0, 8, 25)", x.sheet(0, 8, 25), BEYOND);
        due("sheet(0, 32, MAX)", x.sheet(0, 32, MAX), BEYOND);
        due("number(0, 0)", x.number(0, 0), MISSING);
        due("sheet(0, 0, -5)", x.sheet(0, 0, -5), 1);
        due("sheet(0, 0, MAX)", x.sheet(0, 0, MAX), 1);
        due("number(0, 0)", x.number(0, 0), MISSING);
        due("sheet(0, 8, 24)", x.sheet(0, 8, 24), 1);
        for (int i = 0; i < 24; i++) {
            due("number(0, " + i + ")", x.number(0, i), 0);
        }
        due("number(0, 24)", x.number(0, 24), BEYOND);
        x.put(0, 3, 7);
        due("sheet(0, 16, -1)", x.sheet(0, 16, -1), STATE);
        due("sheet(0, 16, 25)", x.sheet(0, 16, 25), BEYOND);
        due("number(0, 3) stays", x.number(0, 3), 7);
        due("sheet(0, 16, 4)", x.sheet(0, 16, 4), 1);
        due("number(0, 3)", x.number(0, 3), 0);
        due("number(0, 4)", x.number(0, 4), BEYOND);
        due("sheet(0, 32, 0)", x.sheet(0, 32, 0), 1);
        due("number(0, 0)", x.number(0, 0), BEYOND);
        due("book(0)", x.book(0), 0);
        due("sheet(0, 0, 0)", x.sheet(0, 0, 0), 1);
        due("number(0, 0)", x.number(0, 0), MISSING);
    }

    private static void put() {
        start(44);
        due("put(-1, 0, 0)", x.put(-1, 0, 0), BEYOND);
        due("put(4, 0, 0)", x.put(4, 0, 0), BEYOND);
        due("put(0, -1, 0)", x.put(0, -1, 0), MISSING);
        for (int s = 0; s < 3; s++) {
            x.sheet(s, 8 << s, 2);
        }
        due("put(0, 2, 0)", x.put(0, 2, 0), BEYOND);
        due("put(0, -1, 0)", x.put(0, -1, 0), BEYOND);
        int[] numbers = {127, 128, 255, 256, -129, 32767, 32768, 65535, -32769, MAX, MIN, -1, -1100000001};
        for (int v : numbers) {
            for (int s = 0; s < 3; s++) {
                due("put(" + s + ", 1, " + v + ")", x.put(s, 1, v), 1);
                due("number(" + s + ", 1)", x.number(s, 1), s == 0 ? (byte) v : s == 1 ? (short) v : v);
                due("number(" + s + ", 0)", x.number(s, 0), 0);
            }
        }
    }

    private static void number() {
        start(45);
        due("number(-1, 0)", x.number(-1, 0), BEYOND);
        due("number(4, 0)", x.number(4, 0), BEYOND);
        due("number(3, -1)", x.number(3, -1), MISSING);
        x.sheet(3, 32, 5);
        due("number(3, -1)", x.number(3, -1), BEYOND);
        due("number(3, 5)", x.number(3, 5), BEYOND);
        x.put(3, 4, -1100000002);
        due("number as low as ERRORS", x.number(3, 4), NONE);
        due("told(2)", x.told(2), 0);
        due("told(1)", x.told(1), 4);
        due("told(7)", x.told(7), 1);
    }

    private static void numbers(int sheet, int... due) {
        for (int i = 0; i < due.length; i++) {
            due("number(" + sheet + ", " + i + ")", x.number(sheet, i), due[i]);
        }
    }

    private static void copy() {
        start(46);
        x.sheet(0, 16, 5);
        x.sheet(1, 16, 3);
        x.sheet(2, 8, 5);
        for (int i = 0; i < 5; i++) {
            x.put(0, i, i + 1);
        }
        due("copy of no SHEET", x.copy(-1, 0, 0, 0, 0), BEYOND);
        due("copy to no SHEET", x.copy(0, 0, 4, 0, 0), BEYOND);
        due("copy of MISSING to none", x.copy(3, 0, 4, 0, 0), BEYOND);
        due("copy of MISSING", x.copy(3, 0, 0, 0, -1), MISSING);
        due("copy to MISSING", x.copy(0, 0, 3, 0, -1), MISSING);
        due("copy of unlike bits", x.copy(0, 0, 2, 0, -1), KIND);
        due("n below 0", x.copy(0, 0, 1, 0, -1), BEYOND);
        due("i below 0", x.copy(0, -1, 1, 0, 1), BEYOND);
        due("j below 0", x.copy(0, 0, 1, -1, 1), BEYOND);
        due("more than one has", x.copy(0, 4, 1, 0, 2), BEYOND);
        due("more than the other has", x.copy(0, 0, 1, 1, 3), BEYOND);
        due("far too many", x.copy(0, 1, 1, 1, MAX), BEYOND);
        due("far too far", x.copy(0, MAX, 1, 1, 1), BEYOND);
        due("far too far", x.copy(0, 0, 1, MAX, MAX), BEYOND);
        numbers(0, 1, 2, 3, 4, 5);
        numbers(1, 0, 0, 0);
        due("none", x.copy(0, 5, 1, 3, 0), 0);
        due("two", x.copy(0, 3, 1, 1, 2), 2);
        numbers(1, 0, 4, 5);
        due("to the same, on", x.copy(0, 0, 0, 1, 4), 4);
        numbers(0, 1, 1, 2, 3, 4);
        due("to the same, back", x.copy(0, 1, 0, 0, 4), 4);
        numbers(0, 1, 2, 3, 4, 4);
        due("all to the same", x.copy(0, 0, 0, 0, 5), 5);
        numbers(0, 1, 2, 3, 4, 4);
    }

    private static void weighAll() {
        start(47);
        due("weighAll(-1)", x.weighAll(-1), BEYOND);
        due("weighAll(4)", x.weighAll(4), BEYOND);
        due("weighAll(0)", x.weighAll(0), MISSING);
        x.sheet(0, 8, 4);
        read("(1(2(3)))");
        x.put(0, 0, 30);
        x.put(0, 1, -30);
        x.put(0, 2, 31);
        twoMovesAndOneBack();
        due("weighAll(1)", x.weighAll(1), MISSING);
        trailIs(1, 1);
        due("weighAll(0) up to 31", x.weighAll(0), 2);
        trailIs(0, 0);
        weights(30, -30, -3);
        edge(1, 2);
        x.put(0, 2, -31);
        due("weighAll(0) up to -31", x.weighAll(0), 2);
        x.put(0, 2, 5);
        due("weighAll(0) up to no VERTEX", x.weighAll(0), 3);
        weights(30, -30, 5);
        x.take(0);
        x.move(6, 0, 0, 0, 0);
        due("weighAll(0) without the first", x.weighAll(0), 0);
        trailIs(0, 0);
        weights(99, 30, -5);
        x.vertex(1);
        x.vertex(2);
        due("weighAll(0) of four", x.weighAll(0), 4);
        weights(30, -30, 5, 0);
        read("(1)(1)(1)(1)(1)(1)(1)(1)(1)(1)(1)(1)");
        x.sheet(1, 32, 24);
        due("weighAll(1) of twelve", x.weighAll(1), 12);
        due("count(3)", x.count(3), 0);
        x.put(1, 0, 256);
        due("weighAll(1) of 256", x.weighAll(1), 0);
    }

    private static void book() {
        start(48);
        due("book(-1)", x.book(-1), BEYOND);
        due("book(4)", x.book(4), BEYOND);
        due("book(0)", x.book(0), MISSING);
        x.sheet(0, 8, 24);
        x.sheet(1, 16, 2);
        read("(-30(7))(30)");
        x.take(1);
        twoMovesAndOneBack();
        x.put(0, 12, 5);
        due("book(0)", x.book(0), 12);
        numbers(0, 30, 99, -30, 99, 99, 99, 99, 99, 99, 99, 99, 99, 5);
        due("book(1)", x.book(1), 2);
        numbers(1, 30, 99);
        trailIs(1, 1);
    }

    private static void played(int done, int left) {
        due("plays(0, 0)", x.plays(0, 0), done);
        due("plays(0, 1)", x.plays(0, 1), left);
    }

    private static void plays() {
        start(49);
        due("plays(-1, 0)", x.plays(-1, 0), BEYOND);
        due("plays(4, 0)", x.plays(4, 0), BEYOND);
        due("plays(0, 2)", x.plays(0, 2), BEYOND);
        due("plays(0, -1)", x.plays(0, -1), BEYOND);
        due("plays(0, 0)", x.plays(0, 0), MISSING);
        x.sheet(0, 32, 6);
        played(0, 0);
        read("(1(3(0(-1(6)))))(4(0))(-1)");
        int[] moves = {506, 600, 7, 402, 0};
        for (int i = 0; i < moves.length; i++) {
            x.put(0, i, moves[i]);
        }
        played(5, 2);
        x.put(0, 5, 600);
        played(6, 2);
        x.put(0, 5, 601);
        played(5, 2);
        x.put(0, 3, 403);
        played(3, 5);
        int[] none = {-1, 12, 99, 100, 207, 300, 399, 412, 499, 512, 599, 601, 700, 1000, MAX, MIN, -600, 106};
        for (int number : none) {
            x.put(0, 2, number);
            played(2, 6);
        }
        x.put(0, 0, 600);
        x.put(0, 1, 600);
        x.put(0, 2, 7);
        x.put(0, 3, 506);
        x.put(0, 4, 0);
        x.put(0, 5, 0);
        played(5, 4);
        weights(1, 3, 0, -1, 6, 4, 0, -1);
        trailIs(0, 0);
        x.sheet(0, 16, 24);
        for (int i = 0; i < 24; i++) {
            x.put(0, i, 600);
        }
        for (int i = 0; i < 39; i++) {
            x.move(6, 0, 0, 0, 0);
        }
        played(24, 8);
        trailIs(39, 0);
    }

    private static void image() {
        start(50);
        due("image()", x.image(), 0);
        due("restore()", x.restore(), 0);
        read("(1(2))(3)");
        x.worker(4, 7);
        twoMovesAndOneBack();
        due("image()", x.image(), 3);
        trailIs(1, 1);
        x.take(0);
        x.become(0, 0);
        x.worker(1, 1);
        due("restore()", x.restore(), 3);
        weights(-1, -2, -3);
        edge(0, 1);
        due("count(6)", x.count(6), 1);
        due("KIND", x.workerIs(0, 0), 4);
        x.vertex(8);
        due("image() in place", x.image(), 4);
        x.take(1);
        due("restore()", x.restore(), 4);
    }

    private static void restore() {
        start(51);
        x.worker(0, 0);
        read("(1(2))(-1)");
        x.move(6, 0, 0, 0, 0);
        x.move(6, 0, 0, 0, 0);
        x.undo();
        due("restore()", x.restore(), NONE);
        trailIs(1, 1);
        x.fetch(0);
        x.undo();
        x.work(0, 1);
        x.image();
        x.worker(1, 5);
        x.vertex(-1);
        x.become(0, 5);
        x.work(0, 2);
        x.move(6, 0, 0, 0, 0);
        x.keep(2);
        x.sheet(1, 8, 1);
        x.feed(40, 1);
        due("count(9)", x.count(9), 2);
        due("restore()", x.restore(), 2);
        trailIs(0, 0);
        weights(1, 2, 99);
        due("count(6)", x.count(6), 1);
        due("count(9)", x.count(9), 1);
        due("KIND", x.workerIs(0, 0), 0);
        due("SHELVES stay", x.count(8), 1);
        due("THE TAPE stays", x.count(7), 1);
        due("SHEETS stay", x.number(1, 0), 0);
        x.weigh(0, 9);
        x.become(0, 3);
        due("restore() again", x.restore(), 2);
        weights(1, 2, 99);
        due("KIND", x.workerIs(0, 0), 0);
        due("a new WORKER", x.worker(2, 3), 1);
        due("JOBS of it", x.workerIs(1, 2), 0);
    }

    private static void count() {
        start(52);
        due("count(10)", x.count(10), BEYOND);
        due("count(-1)", x.count(-1), BEYOND);
        due("count(MIN)", x.count(MIN), BEYOND);
        read("(-1(2)(3))(-9)(0(7))");
        x.worker(0, 0);
        x.worker(1, 3);
        x.move(3, 0, 0, 1, 0);
        x.move(6, 0, 0, 0, 0);
        x.work(0, 9);
        x.move(6, 0, 0, 0, 0);
        x.undo();
        x.keep(1);
        x.feed(0, 5);
        // LONE came to 6 and is -1 by MIRROR, DOWN of it; the -1 at 0 was made 1
        int[] due = {6, 3, 3, -2, 3, 1, 2, 5, 1, 1};
        for (int what = 0; what < 10; what++) {
            due("count(" + what + ")", x.count(what), due[what]);
        }
    }

    private static void told() {
        start(53);
        due("told(0)", x.told(0), BEYOND);
        due("told(8)", x.told(8), BEYOND);
        due("told(MIN)", x.told(MIN), BEYOND);
        due("told(1)", x.told(1), 3);
        due("told(1)", x.told(1), 3);
        x.undo();
        x.fetch(0);
        x.fetch(0);
        x.worker(1, 0);
        x.as(0, 0);
        x.as(0, 2);
        read("(0)");
        x.link(0, 0, 0);
        x.move(0, 0, 0, 0, 0);
        x.move(5, 0, 0, 0, 0);
        read("(30)(30)(30)(30)(30)(30)(30)");
        x.det();
        x.minor(127);
        x.minor(63);
        x.plant(7, 6);
        x.plant(31, 1);
        x.forest();
        int[] due = {3, 1, 3, 1, 3, 1, 2};
        for (int k = 1; k <= 7; k++) {
            due("told(" + k + ")", x.told(k), due[k - 1]);
        }
    }

    public static void main(String[] args) {
        keep();
        fetch();
        drop();
        alike();
        worker();
        workerIs();
        become();
        as();
        next();
        work();
        rest();
        best();
        fewest();
        reach();
        sheet();
        put();
        number();
        copy();
        weighAll();
        book();
        plays();
        image();
        restore();
        count();
        told();
        close();
    }
}
