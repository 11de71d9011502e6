/**
 * The sentences of ../shared/DOC.md that name a bound, a wrong call or an empty or full thing: shelves, workers, what moves
 * can do, sheets, images and what is told, promises 29 to 53. What is refused is tested whole in RefusalsTest.
 */
public final class WorkSentencesTest extends Sentence {
    private static final int[] NO_FOURTH = {-1, 4, 5, 100, MAX, MIN};
    private static final int[] NO_WORKERS = {-1, 6, 7, 100, MAX, MIN};
    private static final String TWELVE = "(1)(1)(1)(1)(1)(1)(1)(1)(1)(1)(1)(1)";

    private static void shelves() {
        says(0, "SHELVES 0 .. 3 each hold a FOREST, or nothing (at first).", () -> {
            for (int shelf = 0; shelf < 4; shelf++) {
                due("fetch(" + shelf + ") at first", x.fetch(shelf), MISSING);
                due("alike(" + shelf + ") at first", x.alike(shelf), MISSING);
                due("reach(" + shelf + ", 0) at first", x.reach(shelf, 0), MISSING);
                due("drop(" + shelf + ") at first", x.drop(shelf), 0);
            }
            for (int shelf : NO_FOURTH) {
                due("keep(" + shelf + ")", x.keep(shelf), BEYOND);
                due("fetch(" + shelf + ")", x.fetch(shelf), BEYOND);
                due("drop(" + shelf + ")", x.drop(shelf), BEYOND);
                due("alike(" + shelf + ")", x.alike(shelf), BEYOND);
                due("reach(" + shelf + ", 0)", x.reach(shelf, 0), BEYOND);
            }
            due("count(8)", x.count(8), 0);
            for (int shelf = 3; shelf >= 0; shelf--) {
                due("keep(" + shelf + ")", x.keep(shelf), 3 - shelf);
                due("count(8)", x.count(8), 4 - shelf);
                x.vertex(shelf);
            }
            for (int shelf = 0; shelf < 4; shelf++) {
                due("fetch(" + shelf + ")", x.fetch(shelf), 3 - shelf);
            }
            due("count(8)", x.count(8), 4);
        });
        says(29, "A SHELF holds THE FOREST as it is: how many VERTICES. BEYOND.", () -> {
            due("none", x.keep(0), 0);
            read("(1(2(-3)))(30)");
            x.take(0);
            due("three", x.keep(0), 3);
            x.weigh(1, 9);
            x.cut(1, 2);
            x.vertex(7);
            due("fetch(0)", x.fetch(0), 3);
            weights(99, 2, -3, 30);
            edge(1, 2);
            read(TWELVE);
            due("twelve", x.keep(0), 12);
            due("count(8)", x.count(8), 1);
        });
        says(30, "THE FOREST becomes the one on a SHELF, which stays: how many VERTICES (BY HAND). BEYOND. MISSING: there is "
                + "none.", () -> {
            x.keep(1);
            read("(5(6))");
            x.keep(0);
            for (int i = 0; i < 3; i++) {
                read("(1)(2)(3)(4)");
                due("fetch(0)", x.fetch(0), 2);
                weights(5, 6, 99, 99);
                edge(0, 1);
                x.take(0);
                x.weigh(1, -6);
            }
            due("an empty one", x.fetch(1), 0);
            due("count(0)", x.count(0), 0);
            due("none", x.fetch(2), MISSING);
            x.drop(0);
            due("dropped", x.fetch(0), MISSING);
        });
        says(31, "A SHELF holds nothing: 1 if it held a FOREST, else 0. BEYOND.", () -> {
            due("drop(3)", x.drop(3), 0);
            x.keep(3);
            due("of a FOREST without VERTICES", x.drop(3), 1);
            due("again", x.drop(3), 0);
            due("count(8)", x.count(8), 0);
        });
        says(32, "1 if THE FOREST and the one on a SHELF are ALIKE, else 0. BEYOND. MISSING.", () -> {
            due("MISSING", x.alike(3), MISSING);
            due("BEYOND", x.alike(4), BEYOND);
            x.keep(3);
            due("1", x.alike(3), 1);
            x.vertex(0);
            due("0", x.alike(3), 0);
            x.drop(3);
            due("MISSING", x.alike(3), MISSING);
        });
        says(0, "Two FORESTS are ALIKE, if their LEAST TEXTS are the same.", () -> {
            x.keep(0);
            due("both without VERTICES", x.alike(0), 1);
            x.vertex(0);
            due("one without", x.alike(0), 0);
            x.keep(0);
            x.vertex(0);
            x.take(0);
            due("at other PLACES", x.alike(0), 1);
            x.vertex(0);
            due("of one more", x.alike(0), 0);
            x.take(0);
            x.weigh(1, 1);
            due("another WEIGHT", x.alike(0), 0);
            read("(1(10))");
            x.keep(0);
            read("(11(0))");
            due("the same digits", x.alike(0), 0);
            read("(10(1))");
            due("the other way about", x.alike(0), 1);
            read("(1)(10)");
            due("without the EDGE", x.alike(0), 0);
            read("(0(1(2))(2(1)))(3)");
            x.keep(0);
            read("(3)(1(2(0(1(2)))))");
            due("by another first VERTEX", x.alike(0), 1);
            read("(3)(2(1(0(1(2)))))");
            due("by other EDGES", x.alike(0), 0);
            read("(0(0(0(0(0(0))))))(0(0(0(0))))");
            x.keep(0);
            read("(0(0(0(0(0)))))(0(0(0(0(0)))))");
            due("by unlike TREES", x.alike(0), 0);
        });
    }

    private static void workers() {
        says(0, "WORKERS 0, 1, .. (at most 6) are of KINDS: 0 PLAIN, 1 BOTH under PLAIN, 2 ABSORBER under PLAIN, 3 LATE under "
                + "BOTH, 4 SPLITTER under ABSORBER, 5 SHY under PLAIN; each with a number m (0 .. 9), JOBS (0 .. 9999; 0 at "
                + "first).", () -> {
            int[] kinds = {-1, 6, 7, MAX, MIN};
            for (int kind : kinds) {
                due("worker(" + kind + ", 0)", x.worker(kind, 0), BEYOND);
            }
            int[] ms = {-1, 10, 11, MAX, MIN};
            for (int m : ms) {
                due("worker(0, " + m + ")", x.worker(0, m), BEYOND);
            }
            due("count(6)", x.count(6), 0);
            due("workerIs(0, 0)", x.workerIs(0, 0), BEYOND);
            for (int i = 0; i < 6; i++) {
                due("worker " + i, x.worker(5 - i, i % 2 * 9), i);
                due("count(6)", x.count(6), i + 1);
                due("KIND", x.workerIs(i, 0), 5 - i);
                due("m", x.workerIs(i, 1), i % 2 * 9);
                due("JOBS at first", x.workerIs(i, 2), 0);
                due("the next one is not there", x.workerIs(i + 1, 0), BEYOND);
            }
            due("a seventh", x.worker(0, 0), FULL);
            due("a seventh of no KIND, BEYOND ahead of FULL", x.worker(6, 0), BEYOND);
            due("a seventh of no m, BEYOND ahead of FULL", x.worker(0, 10), BEYOND);
        });
        says(33, "One more WORKER: the number. BEYOND: kind, m. FULL.", () -> {
            due("KIND 6", x.worker(6, 9), BEYOND);
            due("m 10", x.worker(5, 10), BEYOND);
            for (int i = 0; i < 6; i++) {
                due("worker(5, 9)", x.worker(5, 9), i);
            }
            due("FULL", x.worker(5, 9), FULL);
            due("KIND 6", x.worker(6, 9), BEYOND);
            due("m 10", x.worker(5, 10), BEYOND);
            due("count(6)", x.count(6), 6);
        });
        says(34, "Of one: what 0 KIND, 1 m, 2 JOBS, 3 COST. BEYOND.", () -> {
            x.worker(0, 0);
            int[] whats = {-1, 4, MAX, MIN};
            for (int what : whats) {
                due("what " + what, x.workerIs(0, what), BEYOND);
            }
            due("worker 1", x.workerIs(1, 0), BEYOND);
            for (int worker : NO_WORKERS) {
                due("workerIs(" + worker + ", 0)", x.workerIs(worker, 0), BEYOND);
            }
        });
        says(0, "COST of a WORKER: PLAIN: m and 1. BOTH: twice what PLAIN has. ABSORBER: as PLAIN. LATE: as BOTH, and 5. "
                + "SPLITTER: three times what ABSORBER has. SHY: PLAIN's less 4.", () -> {
            for (int m = 0; m < 10; m++) {
                start(34);
                int[] costs = {m + 1, 2 * m + 2, m + 1, 2 * m + 7, 3 * m + 3, m - 3};
                for (int kind = 0; kind < 6; kind++) {
                    x.worker(kind, m);
                    due("COST of KIND " + kind + " by " + m, x.workerIs(kind, 3), costs[kind]);
                }
            }
        });
        says(35, "One becomes one of a KIND: the KIND that it was. BEYOND.", () -> {
            due("become(0, 0) of none", x.become(0, 0), BEYOND);
            x.worker(2, 9);
            int[] kinds = {-1, 6, MAX, MIN};
            for (int kind : kinds) {
                due("become(0, " + kind + ")", x.become(0, kind), BEYOND);
            }
            for (int worker : NO_WORKERS) {
                due("become(" + worker + ", 0)", x.become(worker, 0), BEYOND);
            }
            due("KIND", x.workerIs(0, 0), 2);
            due("the same KIND", x.become(0, 2), 2);
            due("another", x.become(0, 5), 2);
            due("one that is not under it", x.become(0, 3), 5);
            due("m", x.workerIs(0, 1), 9);
            due("COST", x.workerIs(0, 3), 25);
            due("as(0, 1)", x.as(0, 1), 9);
            due("as(0, 5)", x.as(0, 5), KIND);
        });
        says(36, "One as one of a KIND: m. BEYOND. KIND: it isn't of that KIND, nor of one under it.", () -> {
            due("as(0, 0) of none", x.as(0, 0), BEYOND);
            int[][] under = {{0}, {0, 1}, {0, 2}, {0, 1, 3}, {0, 2, 4}, {0, 5}};
            for (int kind = 0; kind < 6; kind++) {
                x.worker(kind, 9 - kind);
                int good = 0;
                for (int other = 0; other < 6; other++) {
                    boolean is = false;
                    for (int above : under[kind]) {
                        is |= above == other;
                    }
                    due("as(" + kind + ", " + other + ")", x.as(kind, other), is ? 9 - kind : KIND);
                    good += is ? 1 : 0;
                }
                due("KINDS", good, under[kind].length);
            }
            int[] kinds = {-1, 6, MAX, MIN};
            for (int kind : kinds) {
                due("as(0, " + kind + ")", x.as(0, kind), BEYOND);
            }
            for (int worker : NO_WORKERS) {
                due("as(" + worker + ", 0)", x.as(worker, 0), BEYOND);
            }
        });
    }

    private static void nextIs(String text, int kind, int m, int move, int place) {
        Life life = some -> {
            read(some, text);
            some.worker(kind, m);
        };
        due("NEXT of KIND " + kind + " from " + m + " on of " + text, life, some -> some.next(0, 0), move);
        due("its PLACE of KIND " + kind + " from " + m + " on of " + text, life, some -> some.next(0, 1), place);
    }

    private static void next() {
        says(37, "What one does NEXT: what 0 the MOVE, 1 the PLACE. BEYOND. NONE.", () -> {
            due("of none", x.next(0, 0), BEYOND);
            x.worker(0, 0);
            due("of no FOREST", x.next(0, 0), NONE);
            due("of no FOREST", x.next(0, 1), NONE);
            int[] whats = {-1, 2, MAX, MIN};
            for (int what : whats) {
                due("what " + what + ", BEYOND ahead of NONE", x.next(0, what), BEYOND);
            }
            for (int worker : NO_WORKERS) {
                due("next(" + worker + ", 0)", x.next(worker, 0), BEYOND);
            }
            read("(5)(-1)");
            due("the MOVE", x.next(0, 0), 0);
            due("the PLACE", x.next(0, 1), 1);
        });
        says(0, "of MOVES that aren't REFUSED, at PLACES m and above", () -> {
            nextIs("(-1)(-1)(-1)(-1)(-1)(-1)(-1)(-1)(-1)(-1)(-1)(-1)", 0, 0, 0, 0);
            nextIs("(-1)(-1)(-1)(-1)(-1)(-1)(-1)(-1)(-1)(-1)(-1)(-1)", 0, 9, 0, 9);
            nextIs("(-1)(-1)(-1)(-1)(-1)(-1)(-1)(-1)(-1)(2)(2)(2)", 0, 9, NONE, NONE);
            nextIs("(-1)(-1)(-1)(-1)(-1)(-1)(-1)(-1)(-1)(2)(2)(2)", 0, 8, 0, 8);
            nextIs("(1)(1)(1)", 3, 2, 0, 2);
            nextIs(TWELVE, 3, 0, 0, 11);
            nextIs("(-1)(-1)(-1)(-1)(-1)(-1)(-1)(-1)(-1)(-1)(-1)(-1)", 3, 9, 0, 11);
            nextIs("(1)(1)(1)", 3, 3, NONE, NONE);
            nextIs("(1)(1)(1)", 1, 9, NONE, NONE);
            // what a MOVE at m or above changes may be below m
            nextIs("(5(0(5)))", 2, 1, 4, 1);
            nextIs("(5(0(5)))", 2, 2, NONE, NONE);
            nextIs("(5(0))", 4, 1, 5, 1);
            nextIs("(5(0))", 4, 2, NONE, NONE);
            // of these the first is OVER each time
            nextIs("(-1(30))(-1)", 0, 0, 0, 2);
            nextIs("(1(-30))(1)", 1, 0, 0, 2);
            nextIs("(0(30)(30))(0(1)(1))", 2, 0, 4, 3);
            nextIs("(-1(30))", 0, 0, NONE, NONE);
            // with three NEIGHBOURS it is none
            nextIs("(-1(2)(2)(2))(-1)", 0, 0, 0, 4);
            nextIs("(0(2)(2)(2))(0(3))", 4, 0, 5, 4);
        });
        says(0, "PLAIN: DOWN at the least PLACE with WEIGHT -1. BOTH: as PLAIN; if there is none, DOWN at the least PLACE with "
                + "WEIGHT 1. ABSORBER: ABSORB at the least PLACE; if there is none, as PLAIN. LATE: as BOTH, but each time at "
                + "the greatest PLACE. SPLITTER: SPLIT at the least PLACE; if there is none, as ABSORBER. SHY: as PLAIN, but "
                + "only of those with one NEIGHBOUR or none.", () -> {
            String all = "(1)(-1)(3(0(3)))(-1)(1)(0(9))";
            int[][] due = {{0, 1}, {0, 1}, {4, 3}, {0, 5}, {5, 7}, {0, 1}};
            String ones = "(1)(2)(1)(1(5)(5)(5))";
            int[][] dueOnes = {{NONE, NONE}, {0, 0}, {NONE, NONE}, {0, 2}, {NONE, NONE}, {NONE, NONE}};
            String two = "(-1(3)(3))(2)(-1(3))(-1(3)(3))";
            int[][] dueTwo = {{0, 0}, {0, 0}, {0, 0}, {0, 6}, {0, 0}, {0, 4}};
            String absorbs = "(2(2)(0(2)))(-1)(3(0(3)))";
            int[][] dueAbsorbs = {{0, 4}, {0, 4}, {4, 2}, {0, 4}, {4, 2}, {0, 4}};
            for (int kind = 0; kind < 6; kind++) {
                nextIs(all, kind, 0, due[kind][0], due[kind][1]);
                nextIs(ones, kind, 0, dueOnes[kind][0], dueOnes[kind][1]);
                nextIs(two, kind, 0, dueTwo[kind][0], dueTwo[kind][1]);
                nextIs(absorbs, kind, 0, dueAbsorbs[kind][0], dueAbsorbs[kind][1]);
            }
            nextIs("(-1(3)(3))", 5, 0, NONE, NONE);
            nextIs("(-1(3))", 5, 0, 0, 0);
            nextIs("(-1)", 5, 0, 0, 0);
            nextIs("(1)", 5, 0, NONE, NONE);
            nextIs("(1(5)(5))", 1, 0, 0, 0);
            nextIs("(1(5)(5))", 3, 0, 0, 0);
            nextIs("(-1(5)(5))", 3, 0, 0, 0);
            String[] twice = {"(-1)(-1)", "(1)(1)", "(0(2)(2))(0(2)(2))", "(1)(1)", "(0(2))(0(2))", "(-1)(-1)"};
            int[] moves = {0, 0, 4, 0, 5, 0};
            for (int kind = 0; kind < 6; kind++) {
                nextIs(twice[kind], kind, 0, moves[kind], kind == 3 ? 1 : 0);
            }
            nextIs("(-1)(-1)", 1, 0, 0, 0);
            nextIs("(-1)(-1)", 2, 0, 0, 0);
            nextIs("(-1)(-1)", 3, 0, 0, 1);
            nextIs("(-1)(-1)", 4, 0, 0, 0);
            nextIs("(0(2)(2))(0(2)(2))", 4, 0, 4, 0);
            // a -1 that is OVER leaves the 1
            nextIs("(-1(30))(1)", 1, 0, 0, 2);
            nextIs("(1)(-1(30))", 3, 0, 0, 0);
        });
    }

    private static void work() {
        says(38, "One does what is NEXT up to n times (1 .. 12), till there is none: how many MOVES it did (JOBS are as many "
                + "more, 9999 at most). BEYOND. FULL: n more DONE would be above 40.", () -> {
            due("of none", x.work(0, 1), BEYOND);
            x.worker(1, 0);
            int[] ns = {0, -1, 13, MAX, MIN};
            for (int n : ns) {
                due("n " + n, x.work(0, n), BEYOND);
            }
            for (int worker : NO_WORKERS) {
                due("work(" + worker + ", 1)", x.work(worker, 1), BEYOND);
            }
            due("of no FOREST", x.work(0, 12), 0);
            due("JOBS", x.workerIs(0, 2), 0);
            read(TWELVE);
            due("n 1", x.work(0, 1), 1);
            due("count(0)", x.count(0), 11);
            due("JOBS", x.workerIs(0, 2), 1);
            due("n 12 of eleven", x.work(0, 12), 11);
            due("JOBS", x.workerIs(0, 2), 12);
            due("count(4)", x.count(4), 12);
            read(TWELVE);
            due("n 12 of twelve", x.work(0, 12), 12);
            due("JOBS", x.workerIs(0, 2), 24);
            for (int i = 0; i < 12; i++) {
                due("KIND of MOVE " + i, x.trail(i, 0), 0);
                due("p of MOVE " + i, x.trail(i, 1), i);
            }
            for (int i = 11; i >= 0; i--) {
                due("undo()", x.undo(), i);
            }
            due("count(0)", x.count(0), 12);
            due("JOBS stay behind undo()", x.workerIs(0, 2), 24);
        });
        says(38, "FULL: n more DONE would be above 40.", () -> {
            read("(-1)(-1)");
            x.worker(0, 0);
            mirrors(x, 28);
            due("12 behind 28", x.work(0, 12), 2);
            due("11 behind 30", x.work(0, 11), FULL);
            due("10 behind 30", x.work(0, 10), 0);
            mirrors(x, 10);
            due("1 behind 40", x.work(0, 1), FULL);
            due("13 behind 40, BEYOND ahead of FULL", x.work(0, 13), BEYOND);
            due("of none, BEYOND ahead of FULL", x.work(1, 1), BEYOND);
            due("undo()", x.undo(), 39);
            due("2 behind 39", x.work(0, 2), FULL);
            due("1 behind 39", x.work(0, 1), 0);
            trailIs(39, 1);
            due("JOBS", x.workerIs(0, 2), 2);
        });
        says(39, "One goes TO THE END in thought: what 0 how many MOVES, 1 how many VERTICES are left, 2 their WEIGHTS "
                + "together. BEYOND.", () -> {
            due("of none", x.rest(0, 0), BEYOND);
            x.worker(1, 0);
            int[] whats = {-1, 3, MAX, MIN};
            for (int what : whats) {
                due("what " + what, x.rest(0, what), BEYOND);
            }
            for (int worker : NO_WORKERS) {
                due("rest(" + worker + ", 0)", x.rest(worker, 0), BEYOND);
            }
            for (int what = 0; what < 3; what++) {
                due("of no FOREST", x.rest(0, what), 0);
            }
            read(TWELVE);
            due("twelve MOVES", x.rest(0, 0), 12);
            due("none left", x.rest(0, 1), 0);
            due("WEIGHTS of none", x.rest(0, 2), 0);
            mirrors(x, 40);
            due("with 40 DONE", x.rest(0, 0), 12);
            read("(30)(30)(30)(30)(30)(30)(30)(30)(30)(30)(30)(30)");
            due("no MOVE", x.rest(0, 0), 0);
            due("all are left", x.rest(0, 1), 12);
            due("WEIGHTS", x.rest(0, 2), 360);
            x.move(6, 0, 0, 0, 0);
            due("WEIGHTS", x.rest(0, 2), -360);
            // each DOWN makes a -1 of the next
            read("(-1(-2(-2(-2(-2(-2(-2(-2(-2(-2(-2(-2))))))))))))");
            due("one behind the other", x.rest(0, 0), 12);
        });
        says(0, "TO THE END: a WORKER does what is NEXT, again and again, till there is none.", () -> {
            String[] texts = {"(-2(-1(-2(-2(-7)))))(0(5))", "(1(1)(1))(0(0(0)))", "(-1(-1)(-1)(2(0(3))))", "(30(-1))(0(30)(1))"};
            for (String text : texts) {
                for (int kind = 0; kind < 6; kind++) {
                    start(39);
                    read(text);
                    x.worker(kind, 0);
                    int moves = x.rest(0, 0);
                    int left = x.rest(0, 1);
                    int weights = x.rest(0, 2);
                    int did = 0;
                    while (x.next(0, 0) >= 0) {
                        did += x.work(0, 1);
                    }
                    due("MOVES of KIND " + kind + " on " + text, moves, did);
                    due("VERTICES of KIND " + kind + " on " + text, left, x.count(0));
                    due("WEIGHTS of KIND " + kind + " on " + text, weights, x.count(3));
                }
            }
        });
        says(40, "The KIND as one of which a WORKER with m (0 .. 9) leaves fewest VERTICES, TO THE END (in thought); of several "
                + "the least. BEYOND.", () -> {
            int[] ms = {-1, 10, MAX, MIN};
            for (int m : ms) {
                due("m " + m, x.best(m), BEYOND);
            }
            due("of no FOREST", x.best(0), 0);
            due("of no FOREST", x.best(9), 0);
            read("(2)(2)");
            due("of none that does a thing", x.best(0), 0);
            read("(-1)");
            due("of all", x.best(0), 0);
            read("(1)");
            due("of BOTH and LATE", x.best(0), 1);
            read("(5(0(5)))");
            due("of ABSORBER and SPLITTER", x.best(0), 2);
            read("(5(0))");
            due("of SPLITTER", x.best(0), 4);
            read("(1)(1)(1)(1)(1)(1)(1)(1)(1)(1)(1)(1)");
            due("from 9 on", x.best(9), 1);
            read("(1)(1)(1)(1)(1)(1)(1)(1)(1)");
            due("from 9 on of nine", x.best(9), 0);
            due("from 8 on of nine", x.best(8), 1);
            // DOWN at 0 makes two 0 of the others; at 2 and then at 1 first it leaves none
            read("(1(1)(1))");
            due("of LATE", x.best(0), 3);
            due("of LATE, tried", x.best(0), bestByHand());
            read("(-1(-1(0)(3)))(2(1(1)))");
            due("of all, tried", x.best(0), bestByHand());
        });
    }

    private static int bestByHand() {
        int best = 0;
        int fewest = 99;
        for (int kind = 0; kind < 6; kind++) {
            if (x.count(6) == 0) {
                x.worker(0, 0);
            }
            x.become(0, kind);
            int done = 0;
            while (x.work(0, 1) == 1) {
                done++;
            }
            if (x.count(0) < fewest) {
                fewest = x.count(0);
                best = kind;
            }
            for (int i = 0; i < done; i++) {
                x.undo();
            }
        }
        return best;
    }

    private static void thoughts() {
        says(0, "What is thought changes nothing.", () -> {
            Call[] thoughts = {some -> some.next(0, 0), some -> some.next(0, 1), some -> some.rest(0, 0),
                some -> some.rest(0, 1), some -> some.rest(1, 2), some -> some.best(0), some -> some.best(3),
                some -> some.fewest(4, 0), some -> some.fewest(4, 2), some -> some.fewest(0, 1),
                some -> some.reach(2, 3), some -> some.plays(3, 0), some -> some.plays(3, 1), some -> some.plays(0, 0)};
            Life life = some -> {
                full(some);
                some.sheet(3, 16, 2);
                some.put(3, 0, 600);
                some.put(3, 1, 6);
            };
            for (int i = 0; i < thoughts.length; i++) {
                leaves("thought " + i, life, thoughts[i], 0);
            }
            leaves("reach(0, 3)", life, some -> some.reach(0, 3), NONE);
            leaves("alike(0)", life, some -> some.alike(0), 0);
            leaves("least(0)", life, some -> some.least(0), 0);
        });
        says(0, "LEAST LEFT by n: the least number of VERTICES that n MOVES or fewer, each DOWN, ABSORB or SPLIT (one that "
                + "isn't REFUSED then), can leave.", () -> {
            read("(1(-30(30(-1))))");
            // DOWN at 0 is OVER at first, behind DOWN at 3 it is so still
            fewestIs(0, 4, 0, -1);
            fewestIs(1, 4, 0, -1);
            fewestIs(4, 4, 0, -1);
            read("(0)(0)(0(5)(5)(5))");
            fewestIs(4, 6, 0, -1);
            x.take(5);
            fewestIs(4, 3, 1, 2);
            read("(0(5))");
            fewestIs(1, 0, 1, 0);
            read("(5(0(5)))");
            fewestIs(1, 1, 1, 1);
            read("(1)");
            fewestIs(1, 0, 1, 0);
            mirrors(x, 40);
            fewestIs(1, 0, 1, 0);
        });
        says(41, "LEAST LEFT by n (0 .. 4): what 0 that number, 1 how many MOVES it takes at least, 2 the PLACE of the first one "
                + "of these MOVES (of several such rows of MOVES the least; -1 if there is none). BEYOND.", () -> {
            int[] ns = {-1, 5, MAX, MIN};
            for (int n : ns) {
                due("n " + n, x.fewest(n, 0), BEYOND);
            }
            int[] whats = {-1, 3, MAX, MIN};
            for (int what : whats) {
                due("what " + what, x.fewest(1, what), BEYOND);
            }
            for (int n = 0; n < 5; n++) {
                fewestIs(n, 0, 0, -1);
            }
            read(TWELVE);
            for (int n = 0; n < 5; n++) {
                fewestIs(n, 12 - n, n, n == 0 ? -1 : 0);
            }
            read("(0(2))(0(2))(0(2))(0(2))(0(2))(0(2))");
            for (int n = 0; n < 5; n++) {
                fewestIs(n, 12 - 2 * n, n, n == 0 ? -1 : 0);
            }
            // one SPLIT does what two DOWN do
            read("(1(0))");
            fewestIs(1, 0, 1, 1);
            fewestIs(2, 0, 1, 1);
            fewestIs(4, 0, 1, 1);
            read("(5)(1)(5)(1)");
            fewestIs(1, 3, 1, 1);
            fewestIs(2, 2, 2, 1);
            fewestIs(4, 2, 2, 1);
            x.take(1);
            fewestIs(4, 2, 1, 3);
            // DOWN at 2 first makes a 1 of 1, then of 0
            read("(2(2(1)))");
            fewestIs(1, 2, 1, 2);
            fewestIs(2, 1, 2, 2);
            fewestIs(3, 0, 3, 2);
            fewestIs(4, 0, 3, 2);
        });
        says(0, "REACH of a SHELF: the fewest MOVES, each DOWN, ABSORB, SPLIT or MIRROR, behind which THE FOREST is ALIKE the "
                + "one on the SHELF.", () -> {
            reachIs("(5)", "(5)", 3, 0);
            reachIs("(5)", "(-5)", 0, NONE);
            reachIs("(5)", "(-5)", 1, 1);
            reachIs("(5)", "(-5)", 3, 1);
            reachIs("(0)", "(0)", 3, 0);
            reachIs("(1)(1)(1)", "(1)(1)", 1, 1);
            reachIs("(1)(1)(1)", "(-1)", 3, 3);
            reachIs("(1)(1)(1)", "(-1)", 2, NONE);
            reachIs("(1)(1)(1)", "", 3, 3);
            reachIs("(1)(1)(1)(1)", "", 3, NONE);
            reachIs("(0(2))(0(2))(0(2))", "", 3, 3);
            reachIs("(0(2))(0(2))(0(2))(0(2))", "", 3, NONE);
            reachIs("(3(0(4)))", "(7)", 1, 1);
            reachIs("(3(0(4)))", "(-7)", 2, 2);
            reachIs("(3(0(4)))", "(-7)", 1, NONE);
            reachIs("(2)", "(2)(1)", 3, NONE);
            reachIs("(2)", "(2(1))", 3, NONE);
            reachIs("(2)(3)", "(3)(2)", 0, 0);
            reachIs("", "", 0, 0);
            reachIs("", "", 3, 0);
            // DOWN would be OVER
            reachIs("(-1(30))", "(31)", 3, NONE);
            reachIs("(1(-30))", "", 3, NONE);
            reachIs("(-1(29))", "(30)", 1, 1);
        });
        says(42, "REACH of a SHELF by n MOVES (0 .. 3) at most. BEYOND. MISSING. NONE: not by so many.", () -> {
            int[] ns = {-1, 4, MAX, MIN};
            for (int n : ns) {
                due("n " + n + ", BEYOND ahead of MISSING", x.reach(0, n), BEYOND);
            }
            due("MISSING", x.reach(3, 3), MISSING);
            x.keep(3);
            due("reach(3, 0)", x.reach(3, 0), 0);
            due("reach(3, 4)", x.reach(3, 4), BEYOND);
            x.vertex(2);
            due("NONE", x.reach(3, 3), NONE);
            x.weigh(0, 1);
            mirrors(x, 40);
            due("with 40 DONE", x.reach(3, 3), 1);
        });
    }

    private static void fewestIs(int n, int left, int moves, int first) {
        due("LEAST LEFT by " + n, x.fewest(n, 0), left);
        due("MOVES of LEAST LEFT by " + n, x.fewest(n, 1), moves);
        due("PLACE of LEAST LEFT by " + n, x.fewest(n, 2), first);
    }

    private static void reachIs(String from, String to, int n, int want) {
        due("REACH from " + from + " to " + to + " by " + n, some -> {
            if (!to.isEmpty()) {
                read(some, to);
            }
            some.keep(0);
            if (from.isEmpty()) {
                some.fetch(0);
            } else {
                read(some, from);
            }
        }, some -> some.reach(0, n), want);
    }

    private static void sheets() {
        says(0, "SHEETS 0 .. 3 are rows of 8, 16 or 32 bits, at most 24 numbers, or MISSING (as at first).", () -> {
            for (int s = 0; s < 4; s++) {
                due("number(" + s + ", 0) at first", x.number(s, 0), MISSING);
                due("put(" + s + ", 0, 0) at first", x.put(s, 0, 0), MISSING);
                due("book(" + s + ") at first", x.book(s), MISSING);
                due("weighAll(" + s + ") at first", x.weighAll(s), MISSING);
                due("plays(" + s + ", 0) at first", x.plays(s, 0), MISSING);
                due("copy(" + s + ") at first", x.copy(s, 0, s, 0, 0), MISSING);
            }
            for (int s : NO_FOURTH) {
                due("sheet(" + s + ", 8, 1)", x.sheet(s, 8, 1), BEYOND);
                due("sheet(" + s + ", 0, 1)", x.sheet(s, 0, 1), BEYOND);
                due("put(" + s + ", 0, 0)", x.put(s, 0, 0), BEYOND);
                due("number(" + s + ", 0)", x.number(s, 0), BEYOND);
                due("book(" + s + ")", x.book(s), BEYOND);
                due("weighAll(" + s + ")", x.weighAll(s), BEYOND);
                due("plays(" + s + ", 0)", x.plays(s, 0), BEYOND);
                due("copy(" + s + ", 0)", x.copy(s, 0, 0, 0, 0), BEYOND);
                due("copy(0, " + s + ")", x.copy(0, 0, s, 0, 0), BEYOND);
            }
            for (int s = 0; s < 4; s++) {
                due("sheet(" + s + ", 16, 24)", x.sheet(s, 16, 24), 1);
                x.put(s, 23, s);
            }
            for (int s = 0; s < 4; s++) {
                due("number(" + s + ", 23)", x.number(s, 23), s);
            }
        });
        says(43, "A SHEET has n numbers, all 0, of so many bits (8, 16, 32; 0: it is MISSING, n doesn't matter): 1. BEYOND: "
                + "sheet, bits. STATE: n is below 0. BEYOND: n.", () -> {
            int[] bits = {-1, 1, 4, 7, 9, 15, 17, 24, 31, 33, 64, -8, MAX, MIN};
            for (int b : bits) {
                due("bits " + b, x.sheet(0, b, 1), BEYOND);
                due("bits " + b + ", BEYOND ahead of STATE", x.sheet(0, b, -1), BEYOND);
            }
            due("sheet 4, BEYOND ahead of STATE", x.sheet(4, 8, -1), BEYOND);
            due("n -1", x.sheet(0, 8, -1), STATE);
            due("n MIN", x.sheet(0, 32, MIN), STATE);
            due("n 25", x.sheet(0, 16, 25), BEYOND);
            due("n MAX", x.sheet(0, 8, MAX), BEYOND);
            due("it is MISSING still", x.number(0, 0), MISSING);
            due("n 24", x.sheet(0, 8, 24), 1);
            due("number(0, 23)", x.number(0, 23), 0);
            due("number(0, 24)", x.number(0, 24), BEYOND);
            due("n 1", x.sheet(0, 32, 1), 1);
            due("number(0, 0)", x.number(0, 0), 0);
            due("number(0, 1)", x.number(0, 1), BEYOND);
            x.put(0, 0, 5);
            due("n 1 again", x.sheet(0, 32, 1), 1);
            due("all 0", x.number(0, 0), 0);
            due("n 0", x.sheet(0, 16, 0), 1);
            due("number(0, 0) of none", x.number(0, 0), BEYOND);
            due("put(0, 0, 0) of none", x.put(0, 0, 0), BEYOND);
            due("weighAll(0) of none", x.weighAll(0), 0);
            due("book(0) of none", x.book(0), 0);
            due("plays(0, 0) of none", x.plays(0, 0), 0);
            int[] odd = {0, -1, 25, MAX, MIN};
            for (int n : odd) {
                x.sheet(0, 8, 3);
                due("bits 0, n " + n, x.sheet(0, 0, n), 1);
                due("MISSING", x.number(0, 0), MISSING);
                due("bits 0 of MISSING", x.sheet(0, 0, n), 1);
            }
        });
        says(44, "Number i of a SHEET becomes v (its lowest bits, with sign): 1. BEYOND: no such SHEET. MISSING. BEYOND: no such "
                + "number.", () -> {
            for (int s = 0; s < 3; s++) {
                x.sheet(s, 8 << s, 3);
            }
            int[] is = {-1, 3, 24, MAX, MIN};
            for (int i : is) {
                due("put(0, " + i + ", 5)", x.put(0, i, 5), BEYOND);
                due("put(3, " + i + ", 5), MISSING ahead of BEYOND", x.put(3, i, 5), MISSING);
                due("put(4, " + i + ", 5)", x.put(4, i, 5), BEYOND);
            }
            int[][] due = {{127, 127, 127, 127}, {128, -128, 128, 128}, {-128, -128, -128, -128}, {-129, 127, -129, -129},
                {255, -1, 255, 255}, {256, 0, 256, 256}, {32767, -1, 32767, 32767}, {32768, 0, -32768, 32768},
                {-32768, 0, -32768, -32768}, {-32769, -1, 32767, -32769}, {65535, -1, -1, 65535}, {65536, 0, 0, 65536},
                {MAX, -1, -1, MAX}, {MIN, 0, 0, MIN}, {0, 0, 0, 0}};
            for (int[] row : due) {
                for (int s = 0; s < 3; s++) {
                    due("put(" + s + ", 1, " + row[0] + ")", x.put(s, 1, row[0]), 1);
                    due("number(" + s + ", 1)", x.number(s, 1), row[1 + s]);
                    due("number(" + s + ", 0)", x.number(s, 0), 0);
                    due("number(" + s + ", 2)", x.number(s, 2), 0);
                }
            }
        });
        says(45, "Number i of a SHEET. BEYOND: no such SHEET. MISSING. BEYOND: no such number. (A number may be as low as ERRORS "
                + "are.)", () -> {
            due("number(3, -1), MISSING ahead of BEYOND", x.number(3, -1), MISSING);
            x.sheet(3, 32, 2);
            int[] is = {-1, 2, 24, MAX, MIN};
            for (int i : is) {
                due("number(3, " + i + ")", x.number(3, i), BEYOND);
            }
            for (int k = 1; k <= 7; k++) {
                int before = x.told(k);
                x.put(3, 1, -1100000000 - k);
                due("a number as low as ERRORS", x.number(3, 1), -1100000000 - k);
                due("told(" + k + ")", x.told(k), before);
            }
        });
        says(46, "n numbers of a SHEET, from number i on, come to another one (or the same), from its number j on, as they all "
                + "were: n. BEYOND: no such SHEET. MISSING: one is. KIND: they are of unlike bits. BEYOND: n, i or j is below "
                + "0, or they don't stand there.", () -> {
            x.sheet(0, 32, 5);
            x.sheet(1, 32, 3);
            x.sheet(2, 16, 5);
            for (int i = 0; i < 5; i++) {
                x.put(0, i, 100000 + i);
            }
            due("of MISSING to no SHEET", x.copy(3, 0, 4, 0, 1), BEYOND);
            due("of no SHEET to MISSING", x.copy(-1, 0, 3, 0, 1), BEYOND);
            due("of MISSING", x.copy(3, 0, 0, 0, -1), MISSING);
            due("to MISSING", x.copy(0, 0, 3, 0, -1), MISSING);
            due("KIND ahead of BEYOND", x.copy(0, -1, 2, 0, 1), KIND);
            due("KIND the other way about", x.copy(2, 0, 0, 0, 1), KIND);
            due("KIND of 0 numbers", x.copy(0, 0, 2, 0, 0), KIND);
            int[][] beyond = {{0, 0, -1}, {-1, 0, 1}, {0, -1, 1}, {0, 0, 4}, {3, 0, 3}, {5, 0, 1}, {0, 3, 1}, {0, 1, 3},
                {-1, 0, 0}, {0, -1, 0}, {6, 0, 0}, {0, 4, 0}, {MAX, 0, 1}, {0, MAX, 1}, {1, 1, MAX}, {MAX, MAX, MAX},
                {MIN, 0, 1}, {0, MIN, 1}, {0, 0, MIN}, {MIN, MIN, MIN}, {1, 1, MIN}};
            for (int[] row : beyond) {
                due("copy(0, " + row[0] + ", 1, " + row[1] + ", " + row[2] + ")", x.copy(0, row[0], 1, row[1], row[2]),
                        BEYOND);
            }
            numbers(1, 0, 0, 0);
            due("none from the end on", x.copy(0, 5, 1, 3, 0), 0);
            due("the last one", x.copy(0, 4, 1, 2, 1), 1);
            numbers(1, 0, 0, 100004);
            due("all that there is room for", x.copy(0, 2, 1, 0, 3), 3);
            numbers(1, 100002, 100003, 100004);
            due("back", x.copy(1, 0, 0, 0, 3), 3);
            numbers(0, 100002, 100003, 100004, 100003, 100004);
            for (int i = 0; i < 5; i++) {
                x.put(0, i, i);
            }
            due("the same, on by one", x.copy(0, 0, 0, 1, 4), 4);
            numbers(0, 0, 0, 1, 2, 3);
            due("the same, back by two", x.copy(0, 2, 0, 0, 3), 3);
            numbers(0, 1, 2, 3, 2, 3);
            due("the same where it is", x.copy(0, 0, 0, 0, 5), 5);
            numbers(0, 1, 2, 3, 2, 3);
            due("more than the same has", x.copy(0, 0, 0, 1, 5), BEYOND);
        });
    }

    private static void numbers(int sheet, int... due) {
        for (int i = 0; i < due.length; i++) {
            due("number(" + sheet + ", " + i + ")", x.number(sheet, i), due[i]);
        }
    }

    private static void sheetsAndForest() {
        says(47, "Numbers of a SHEET become WEIGHTS of VERTICES at PLACES 0, 1, ..: how many, up to the first that is not -30 .. "
                + "30, or for which there is no VERTEX at that PLACE (BY HAND). BEYOND: no such SHEET. MISSING.", () -> {
            x.sheet(0, 16, 24);
            due("of no FOREST", x.weighAll(0), 0);
            read("(1(2))(3)");
            due("all three are 0", x.weighAll(0), 3);
            weights(0, 0, 0, 99);
            edge(0, 1);
            x.put(0, 0, -30);
            x.put(0, 1, 30);
            x.put(0, 2, 31);
            due("up to 31", x.weighAll(0), 2);
            weights(-30, 30, 0);
            x.put(0, 1, -31);
            x.put(0, 2, 7);
            x.put(0, 0, 4);
            due("up to -31", x.weighAll(0), 1);
            weights(4, 30, 0);
            x.put(0, 0, 256);
            due("up to 256", x.weighAll(0), 0);
            weights(4, 30, 0);
            x.put(0, 0, 1);
            x.put(0, 1, 2);
            x.take(1);
            due("up to the PLACE without one", x.weighAll(0), 1);
            weights(1, 99, 0);
            x.take(0);
            due("PLACE 0 is without one", x.weighAll(0), 0);
            read("(30)(30)(30)(30)(30)(30)(30)(30)(30)(30)(30)(30)");
            due("twelve of 24", x.weighAll(0), 12);
            due("count(3)", x.count(3), 1 + 2 + 7);
            x.sheet(0, 32, 1);
            x.put(0, 0, -9);
            due("as many as it has", x.weighAll(0), 1);
            due("count(3)", x.count(3), -9 + 2 + 7);
        });
        says(48, "WEIGHTS at PLACES 0, 1, .. come to a SHEET (99 where there is no VERTEX), as many as it has numbers, 12 at "
                + "most: how many. BEYOND: no such SHEET. MISSING.", () -> {
            x.sheet(0, 8, 24);
            x.put(0, 12, 77);
            due("of no FOREST", x.book(0), 12);
            numbers(0, 99, 99, 99, 99, 99, 99, 99, 99, 99, 99, 99, 99, 77, 0);
            read("(-30)(30)(0)(1)(2)(3)(4)(5)(6)(7)(8)(-9)");
            x.take(2);
            due("twelve", x.book(0), 12);
            numbers(0, -30, 30, 99, 1, 2, 3, 4, 5, 6, 7, 8, -9, 77, 0);
            x.sheet(1, 32, 11);
            due("eleven", x.book(1), 11);
            numbers(1, -30, 30, 99, 1, 2, 3, 4, 5, 6, 7, 8, BEYOND);
            x.sheet(1, 16, 13);
            due("twelve of 13", x.book(1), 12);
            due("the 13th", x.number(1, 12), 0);
            x.sheet(1, 16, 12);
            due("twelve of 12", x.book(1), 12);
            x.sheet(1, 16, 1);
            due("one", x.book(1), 1);
            due("back again, up to 99", x.weighAll(0), 2);
        });
        says(49, "Numbers of a SHEET are MOVES in thought, one behind the other: 100 times the KIND (0, 4, 5), and the PLACE; "
                + "600 is MIRROR: what 0 how many can be done ahead of the first one that is no such number, or is REFUSED; 1 "
                + "how many VERTICES are left behind those. BEYOND: no such SHEET, what. MISSING.", () -> {
            int[] whats = {-1, 2, MAX, MIN};
            for (int what : whats) {
                due("what " + what + ", BEYOND ahead of MISSING", x.plays(0, what), BEYOND);
            }
            x.sheet(0, 32, 24);
            due("of no FOREST", x.plays(0, 0), 0);
            due("none left", x.plays(0, 1), 0);
            read("(1)(5(0(6)))(0(7))(-1)");
            int[] none = {-1, -100, 1, 7, 8, 11, 12, 99, 100, 106, 200, 300, 399, 400, 403 + 1, 412, 499, 500, 502, 512, 599,
                601, 606, 700, 800, 1000, 1000000, MAX, MIN, -600, -400};
            for (int number : none) {
                x.put(0, 0, number);
                due("how many of " + number, x.plays(0, 0), 0);
                due("left behind " + number, x.plays(0, 1), 7);
            }
            int[][] good = {{0, 6}, {6, 6}, {402, 5}, {504, 5}, {600, 7}};
            for (int[] row : good) {
                x.put(0, 0, row[0]);
                x.put(0, 1, -1);
                due("how many of " + row[0], x.plays(0, 0), 1);
                due("left behind " + row[0], x.plays(0, 1), row[1]);
            }
            int[] all = {402, 504, 600, 6, 0, 0};
            int[] left = {5, 3, 3, 2, 1, 1};
            for (int i = 0; i < all.length; i++) {
                x.put(0, i, all[i]);
                x.put(0, i + 1, 601);
                due("how many of " + (i + 1), x.plays(0, 0), i < 5 ? i + 1 : 5);
                due("left behind " + (i + 1), x.plays(0, 1), left[i]);
            }
            for (int i = 0; i < 24; i++) {
                x.put(0, i, 600);
            }
            mirrors(x, 40);
            due("24 with 40 DONE", x.plays(0, 0), 24);
            // OVER
            read("(-1(30))");
            x.put(0, 0, 0);
            due("DOWN that is OVER", x.plays(0, 0), 0);
        });
    }

    private static void imagesAndTold() {
        says(50, "THE FOREST and WORKERS are kept as an IMAGE, in place of one ahead: how many VERTICES.", () -> {
            due("of a new object", x.image(), 0);
            x.worker(0, 0);
            x.vertex(1);
            due("restore() of it", x.restore(), 0);
            due("no WORKERS", x.count(6), 0);
            due("no VERTICES", x.count(0), 0);
            read(TWELVE);
            due("of twelve", x.image(), 12);
            x.worker(3, 4);
            x.take(0);
            due("in place", x.image(), 11);
            x.fetch(0);
            x.take(1);
            due("restore()", x.restore(), 11);
            due("KIND", x.workerIs(0, 0), 3);
        });
        says(51, "THE FOREST and WORKERS are as the IMAGE has them, which stays: how many VERTICES (BY HAND). NONE: there is "
                + "none.", () -> {
            due("none", x.restore(), NONE);
            read("(1)(1)(3(4))");
            x.worker(1, 2);
            x.worker(1, 0);
            x.work(1, 1);
            x.image();
            for (int i = 0; i < 3; i++) {
                x.become(0, 5);
                due("JOBS behind the IMAGE", x.work(1, 5), 1);
                x.become(1, 4);
                x.worker(0, 0);
                x.weigh(2, 9);
                due("count(9)", x.count(9), 2);
                due("restore()", x.restore(), 3);
                weights(99, 1, 3, 4);
                edge(2, 3);
                due("count(6)", x.count(6), 2);
                due("KIND", x.workerIs(0, 0), 1);
                due("m", x.workerIs(0, 1), 2);
                due("KIND", x.workerIs(1, 0), 1);
                due("JOBS", x.workerIs(1, 2), 1);
                due("count(9)", x.count(9), 1);
            }
        });
        says(52, "0 VERTICES, 1 TREES, 2 EDGES, 3 WEIGHTS of all together, 4 MOVES DONE, 5 those TAKEN BACK, 6 WORKERS, 7 bytes "
                + "of THE TAPE, 8 SHELVES that hold a FOREST, 9 JOBS of all together. BEYOND.", () -> {
            int[] whats = {-1, 10, 11, MAX, MIN};
            for (int what : whats) {
                due("what " + what, x.count(what), BEYOND);
            }
            read("(-30)(-30)(-30)(-30)(-30)(-30)(-30)(-30)(-30)(-30)(-30)(-30)");
            due("TREES", x.count(1), 12);
            due("EDGES", x.count(2), 0);
            due("WEIGHTS", x.count(3), -360);
            read("(1(1(1(1(1(1(1(1(1(1(1(1))))))))))))");
            due("TREES", x.count(1), 1);
            due("EDGES", x.count(2), 11);
            x.worker(1, 0);
            x.worker(3, 0);
            due("JOBS by one", x.work(0, 2), 2);
            read(TWELVE);
            due("JOBS by the other", x.work(1, 3), 3);
            due("JOBS of all", x.count(9), 5);
            x.undo();
            due("DONE", x.count(4), 2);
            due("TAKEN BACK", x.count(5), 1);
            due("VERTICES", x.count(0), 10);
            due("JOBS stay behind undo()", x.count(9), 5);
        });
        says(53, "How many acts have answered an ERROR LOW - k (k 1 .. 7); BEYOND: another k (counted, too).", () -> {
            int[] ks = {0, 8, -1, 9, MAX, MIN};
            for (int i = 0; i < ks.length; i++) {
                due("told(" + ks[i] + ")", x.told(ks[i]), BEYOND);
                due("told(1)", x.told(1), i + 1);
            }
            for (int k = 2; k <= 7; k++) {
                due("told(" + k + ")", x.told(k), 0);
            }
            x.undo();
            x.undo();
            due("told(2)", x.told(2), 2);
            due("asking counts nothing", x.told(2), 2);
            x.vertex(0);
            x.tie(0, 0);
            due("told(3)", x.told(3), 1);
            x.move(7, 0, 0, -30, 0);
            x.weigh(0, 30);
            x.move(7, 0, 0, -30, 0);
            due("told(5)", x.told(5), 1);
            x.worker(0, 0);
            x.as(0, 1);
            x.as(0, 2);
            x.as(0, 0);
            due("told(6)", x.told(6), 2);
            x.fetch(0);
            x.number(0, 0);
            x.reach(1, 1);
            due("told(7)", x.told(7), 3);
            read(TWELVE);
            x.vertex(0);
            x.plant(2, 1);
            due("told(4)", x.told(4), 2);
            due("told(1)", x.told(1), ks.length);
        });
    }

    public static void main(String[] args) {
        shelves();
        workers();
        next();
        work();
        thoughts();
        sheets();
        sheetsAndForest();
        imagesAndTold();
        close();
    }
}
