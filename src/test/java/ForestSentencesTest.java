/**
 * The sentences of ../shared/DOC.md that name a bound, a wrong call or an empty or full thing: what stands ahead of the
 * promises of forests and moves, and promises 1 to 13. What is refused is tested whole in RefusalsTest.
 */
public final class ForestSentencesTest extends Sentence {
    private static final int[] NO_PLACES = {-1, 12, 13, 31, 32, 33, 64, -32, 4096, MAX, MIN};
    private static final String TWELVE = "(1)(1)(1)(1)(1)(1)(1)(1)(1)(1)(1)(1)";

    private static void terms() {
        says(0, "ERRORS are answers below -1100000000: LOW is -1100000000; LOW - 1 BEYOND, LOW - 2 NONE, LOW - 3 STATE, "
                + "LOW - 4 FULL, LOW - 5 OVER, LOW - 6 KIND, LOW - 7 MISSING.", () -> {
            due("BEYOND", x.vertex(31), -1100000001);
            due("NONE", x.undo(), -1100000002);
            x.vertex(30);
            due("STATE", x.tie(0, 0), -1100000003);
            due("OVER", x.move(2, 0, 0, 1, 0), -1100000005);
            due("MISSING", x.fetch(0), -1100000007);
            x.worker(0, 0);
            due("KIND", x.as(0, 1), -1100000006);
            read(TWELVE);
            due("FULL", x.vertex(0), -1100000004);
        });
        says(0, "Sets of PLACES are told by bits (PLACE 0 is 1, PLACE 1 is 2, PLACE 2 is 4, ..).", () -> {
            read("(2)(3)(4)(5)(6)(7)(8)(9)(10)(11)(12)(13)");
            for (int p = 0; p < 12; p++) {
                due("at(" + p + ", 3)", x.at(p, 3), 1 << p);
                due("minor(" + (1 << p) + ")", x.minor(1 << p), p + 2);
            }
            x.tie(11, 0);
            x.tie(11, 10);
            due("at(11, 2)", x.at(11, 2), 1 + 1024);
            due("at(0, 2)", x.at(0, 2), 2048);
            due("at(0, 3)", x.at(0, 3), 1 + 1024 + 2048);
        });
        says(0, "An object is used for at most 512 calls after it has been made", () -> {
            for (int i = 1; i < 512; i++) {
                due("call " + i, x.vertex(31), BEYOND);
            }
            due("call 512", x.told(1), 511);
            start(promise);
            for (int i = 1; i <= 256; i++) {
                due("call " + (2 * i - 1), x.move(3, 0, 0, 1, 0), 1);
                due("call " + 2 * i, x.undo(), 0);
            }
            start(promise);
            for (int i = 1; i <= 128; i++) {
                due("call " + (4 * i - 3), x.vertex(1), 0);
                due("call " + (4 * i - 2), x.keep(i & 3), 1);
                due("call " + (4 * i - 1), x.sheet(i & 3, 32, 24), 1);
                due("call " + 4 * i, x.take(0), 1);
            }
        });
        says(1, "No VERTICES, no WORKERS; THE TAPE, THE TRAIL are empty, no image is kept.", () -> {
            int[] counts = {0, 1, 2, 3, 4, 5, 6, 7, 8, 9};
            for (int what : counts) {
                due("count(" + what + ")", x.count(what), 0);
            }
            due("restore()", x.restore(), NONE);
            due("forest()", x.forest(), -10);
        });
    }

    private static void places() {
        says(0, "VERTICES at PLACES 0 .. 11, each PLACE with one or without (without, at first)", () -> {
            for (int p = 0; p < 12; p++) {
                due("at(" + p + ", 0) at first", x.at(p, 0), BEYOND);
            }
            for (int p = 0; p < 12; p++) {
                due("vertex(" + p + ")", x.vertex(p), p);
                due("at(" + p + ", 0)", x.at(p, 0), p);
            }
            due("a thirteenth", x.vertex(0), FULL);
            for (int p : NO_PLACES) {
                due("at(" + p + ", 0)", x.at(p, 0), BEYOND);
            }
        });
        says(0, "each VERTEX has a WEIGHT (-30 .. 30).", () -> {
            x.vertex(0);
            for (int w = -40; w <= 40; w++) {
                boolean good = w >= -30 && w <= 30;
                int was = x.at(0, 0);
                due("weigh(0, " + w + ")", x.weigh(0, w), good ? was : BEYOND);
                due("at(0, 0) behind " + w, x.at(0, 0), good ? w : was);
            }
        });
        says(0, "EDGES, each between two VERTICES, without rings", () -> {
            read("(1(2(3)))");
            due("a ring of three", x.tie(2, 0), STATE);
            due("a second EDGE", x.tie(1, 0), STATE);
            due("an EDGE of one", x.tie(1, 1), STATE);
            read("(1(1(1(1(1(1(1(1(1(1(1(1))))))))))))");
            due("a ring of twelve", x.tie(0, 11), STATE);
            due("a ring of twelve", x.tie(11, 0), STATE);
            due("count(2)", x.count(2), 11);
        });
        says(0, "A TREE: a VERTEX and all that are reached from it by EDGES.", () -> {
            read("(1(1(1(1(1(1(1(1(1(1(1(1))))))))))))");
            due("of twelve", x.at(0, 3), 4095);
            due("of twelve", x.at(11, 3), 4095);
            x.cut(5, 6);
            due("the one half", x.at(3, 3), 63);
            due("the other half", x.at(11, 3), 4032);
            x.take(1);
            due("itself alone", x.at(0, 3), 1);
        });
        says(0, "THE PATH of two VERTICES of one TREE: those on the way from the one to the other, these two among them "
                + "(of one and the same: it alone).", () -> {
            read("(7(2)(3(5)(9)))");
            due("of one and the same", x.fraction(3, 3, 0), 5);
            due("of one and the same, without the first", x.fraction(3, 3, 1), 1);
            due("of NEIGHBOURS", x.fraction(3, 2, 0), 14);
            due("of 3 and 1", x.fraction(3, 1, 0), 5 * (3 * 13 - 2) - 13);
            due("of 3 and 1, without the first", x.fraction(3, 1, 1), 3 * 13 - 2);
        });
        says(0, "A VERTEX that GOES is not there any more, nor are its EDGES.", () -> {
            read("(5(6)(7(8)))");
            due("take(0)", x.take(0), 5);
            due("at(0, 0)", x.at(0, 0), BEYOND);
            due("at(1, 1)", x.at(1, 1), 0);
            due("at(2, 2)", x.at(2, 2), 8);
            due("count(2)", x.count(2), 1);
            due("a new one at its PLACE", x.vertex(9), 0);
            due("at(0, 1)", x.at(0, 1), 0);
            due("count(2)", x.count(2), 1);
            due("table(0, 1)", x.table(0, 1), 0);
        });
        says(0, "A new VERTEX comes at the least PLACE without one.", () -> {
            read("(1(2)(3)(4)(5)(6)(7))");
            x.take(5);
            x.take(3);
            x.take(1);
            due("vertex", x.vertex(9), 1);
            x.move(3, 0, 0, -1, 0);
            due("LONE", x.at(3, 0), -1);
            x.move(2, 0, 0, 1, 0);
            due("BUD", x.at(5, 0), 1);
            due("BUD's EDGE", x.table(5, 0), 1);
            x.move(2, 0, 0, 1, 0);
            due("behind all", x.at(7, 0), 1);
            x.take(2);
            x.move(1, 0, 4, -1, 0);
            due("UP", x.at(2, 0), -1);
            due("UP's EDGES", x.at(2, 2), 1 + 16);
            x.take(6);
            x.take(3);
            x.move(7, 0, 0, 4, 0);
            due("DRAW, the lesser PLACE", x.at(3, 0), 0);
            due("DRAW, the other one", x.at(6, 0), 4);
            x.take(1);
            x.take(7);
            due("plant", x.plant(5, 2), 1);
            due("plant, its second", x.at(7, 0), -2);
            read("(1)(2)(3)");
            x.take(0);
            due("vertex at 0", x.vertex(4), 0);
        });
    }

    private static void down() {
        says(9, "WEIGHT of p, which is 1 or -1, is e", () -> {
            x.vertex(0);
            for (int w = -30; w <= 30; w++) {
                x.weigh(0, w);
                boolean good = w == 1 || w == -1;
                due("DOWN of " + w, x.move(0, 0, 0, 0, 0), good ? 0 : STATE);
                x.undo();
            }
        });
        says(9, "p has two NEIGHBOURS at most: WEIGHT of each NEIGHBOUR is e less, p GOES, and two NEIGHBOURS have an "
                + "EDGE then.", () -> {
            read("(1)");
            due("without NEIGHBOURS", x.move(0, 0, 0, 0, 0), 0);
            read("(1(5))");
            due("with one", x.move(0, 0, 0, 0, 0), 1);
            due("that one", x.at(1, 0), 4);
            due("it has none", x.at(1, 1), 0);
            read("(-1(5)(7))");
            due("with two", x.move(0, 0, 0, 0, 0), 2);
            due("the one", x.at(1, 0), 6);
            due("the other", x.at(2, 0), 8);
            edge(1, 2);
            due("count(2)", x.count(2), 1);
            read("(1(5)(7)(9))");
            due("with three", x.move(0, 0, 0, 0, 0), STATE);
            read("(-1(5)(7)(9)(0)(0)(0)(0)(0)(0)(0)(0))");
            due("with eleven", x.move(0, 0, 0, 0, 0), STATE);
        });
        says(9, "OVER: a WEIGHT would be beyond -30 .. 30.", () -> {
            String[] over = {"(-1(30))", "(1(-30))", "(-1(30)(0))", "(-1(0)(30))", "(1(-30)(0))", "(1(0)(-30))"};
            for (String text : over) {
                read(text);
                due("DOWN of " + text, x.move(0, 0, 0, 0, 0), OVER);
                due("at(0, 4) of " + text, x.at(0, 4), -1);
            }
            String[] good = {"(-1(29)(-30))", "(1(-29)(30))", "(-1(-30)(29))", "(1(30)(-29))"};
            for (String text : good) {
                read(text);
                due("DOWN of " + text, x.move(0, 0, 0, 0, 0), 2);
            }
        });
    }

    private static void upBudLone() {
        says(9, "1 UP at p, q by v: v is 1 or -1; p and q are NEIGHBOURS", () -> {
            read("(5(6(7)))(8)");
            int[] wrong = {0, 2, -2, 3, 30, -30, MAX, MIN};
            for (int v : wrong) {
                due("UP by " + v, x.move(1, 0, 1, v, 0), BEYOND);
            }
            due("two EDGES away", x.move(1, 0, 2, 1, 0), STATE);
            due("of two TREES", x.move(1, 0, 3, 1, 0), STATE);
            due("one and the same", x.move(1, 1, 1, -1, 0), STATE);
            due("by 1", x.move(1, 0, 1, 1, 0), 5);
            due("by -1", x.move(1, 2, 1, -1, 0), 6);
            weights(6, 6, 6, 8, 1, -1);
        });
        says(9, "WEIGHTS of p and q are v more; their EDGE goes; a new VERTEX of WEIGHT v has EDGES to both.", () -> {
            read("(5(6))");
            x.move(1, 1, 0, -1, 0);
            weights(4, 5, -1);
            due("their EDGE", x.table(0, 1), 0);
            edge(2, 0);
            edge(2, 1);
            due("count(2)", x.count(2), 2);
        });
        says(9, "FULL: there aren't as many PLACES without a VERTEX as it needs.", () -> {
            read("(1(1(1(1(1(1(1(1(1(1(1(1))))))))))))");
            due("UP with none", x.move(1, 0, 1, 1, 0), FULL);
            due("BUD with none", x.move(2, 0, 0, 1, 0), FULL);
            due("LONE with none", x.move(3, 0, 0, 1, 0), FULL);
            due("DRAW with none", x.move(7, 0, 0, 1, 0), FULL);
            due("MIRROR needs none", x.move(6, 0, 0, 0, 0), 12);
            due("DOWN needs none", x.move(0, 0, 0, 0, 0), 11);
            due("DRAW with one", x.move(7, 1, 0, 1, 0), FULL);
            due("UP with one", x.move(1, 10, 11, 1, 0), 12);
            x.undo();
            due("BUD with one", x.move(2, 11, 0, 1, 0), 12);
            x.undo();
            due("LONE with one", x.move(3, 0, 0, 1, 0), 12);
            x.undo();
            x.take(1);
            due("DRAW with two", x.move(7, 11, 0, 1, 0), 12);
            read("(0(5)(6))(0(7))(1)(1)(1)(1)(1)(1)(1)");
            due("ABSORB needs none", x.move(4, 0, 0, 0, 0), 10);
            due("SPLIT needs none", x.move(5, 3, 0, 0, 0), 8);
        });
        says(9, "2 BUD at p by v: v is 1 or -1: WEIGHT of p is v more; a new VERTEX of WEIGHT v has an EDGE to p.", () -> {
            read("(5)(0)");
            int[] wrong = {0, 2, -2, 3, 30, -30, MAX, MIN};
            for (int v : wrong) {
                due("BUD by " + v, x.move(2, 0, 0, v, 0), BEYOND);
            }
            due("by 1", x.move(2, 0, 0, 1, 0), 3);
            due("by -1", x.move(2, 1, 0, -1, 0), 4);
            weights(6, -1, 1, -1);
            edge(0, 2);
            edge(1, 3);
            due("count(2)", x.count(2), 2);
        });
        says(9, "3 LONE by v: v is 1 or -1: a new VERTEX of WEIGHT v, without EDGES.", () -> {
            int[] wrong = {0, 2, -2, 3, 30, -30, MAX, MIN};
            for (int v : wrong) {
                due("LONE by " + v, x.move(3, 0, 0, v, 0), BEYOND);
            }
            due("by 1, of no FOREST", x.move(3, 0, 0, 1, 0), 1);
            due("by -1", x.move(3, 0, 0, -1, 0), 2);
            weights(1, -1);
            due("count(2)", x.count(2), 0);
        });
        says(9, "OVER: a WEIGHT would be beyond -30 .. 30.", () -> {
            read("(30(0))(-30(0))(29(-29))");
            due("UP, p above 30", x.move(1, 0, 1, 1, 0), OVER);
            due("UP, q above 30", x.move(1, 1, 0, 1, 0), OVER);
            due("UP, p below -30", x.move(1, 2, 3, -1, 0), OVER);
            due("UP, q below -30", x.move(1, 3, 2, -1, 0), OVER);
            due("BUD above 30", x.move(2, 0, 0, 1, 0), OVER);
            due("BUD below -30", x.move(2, 2, 0, -1, 0), OVER);
            due("UP to 30", x.move(1, 4, 5, 1, 0), 7);
            due("at(4, 0)", x.at(4, 0), 30);
            x.undo();
            due("UP to -30", x.move(1, 4, 5, -1, 0), 7);
            due("at(5, 0)", x.at(5, 0), -30);
            x.undo();
            due("BUD to 30", x.move(2, 4, 0, 1, 0), 7);
            due("BUD to -30", x.move(2, 5, 0, -1, 0), 8);
            due("BUD down from 30", x.move(2, 0, 0, -1, 0), 9);
            due("BUD up from -30", x.move(2, 2, 0, 1, 0), 10);
        });
    }

    private static void absorbSplit() {
        says(9, "4 ABSORB at p: WEIGHT of p is 0, it has just two NEIGHBOURS", () -> {
            read("(0)(0(1))(0(1)(2))(0(1)(2)(3))(0)");
            due("without NEIGHBOURS", x.move(4, 0, 0, 0, 0), STATE);
            due("with one", x.move(4, 1, 0, 0, 0), STATE);
            due("with three", x.move(4, 6, 0, 0, 0), STATE);
            x.weigh(3, 1);
            due("WEIGHT 1", x.move(4, 3, 0, 0, 0), STATE);
            x.weigh(3, -1);
            due("WEIGHT -1", x.move(4, 3, 0, 0, 0), STATE);
            x.weigh(3, 0);
            due("with two", x.move(4, 3, 0, 0, 0), 9);
        });
        says(9, "WEIGHT of that NEIGHBOUR at the lesser PLACE is as much more as the other one's is; it has EDGES to all "
                + "others to which the other one has some; p and the other one GO.", () -> {
            // 1 is of 0 and 2; 2 has 3, 4, 5; 0 has 6
            read("(3(0(4(7)(8)(9)))(6))");
            due("ABSORB", x.move(4, 1, 0, 0, 0), 5);
            weights(7, 99, 99, 7, 8, 9, 6);
            due("at(0, 2)", x.at(0, 2), 8 + 16 + 32 + 64);
            due("at(3, 2)", x.at(3, 2), 1);
            due("count(2)", x.count(2), 4);
            read("(0(-3)(5))");
            due("of an other one without others", x.move(4, 0, 0, 0, 0), 1);
            weights(99, 2, 99);
            due("at(1, 1)", x.at(1, 1), 0);
            read("(1(2)(3)(4)(5)(0(-9(6)(7)(8)(9))))");
            due("of twelve", x.move(4, 5, 0, 0, 0), 9);
            due("at(0, 2)", x.at(0, 2), 2 + 4 + 8 + 16 + 128 + 256 + 512 + 1024);
            due("at(0, 0)", x.at(0, 0), -8);
        });
        says(9, "OVER: a WEIGHT would be beyond -30 .. 30.", () -> {
            int[][] pairs = {{15, 16}, {-15, -16}, {30, 1}, {1, 30}, {-30, -1}, {-1, -30}, {30, 30}};
            for (int[] pair : pairs) {
                read("(0(" + pair[0] + ")(" + pair[1] + "))");
                due("ABSORB of " + pair[0] + " and " + pair[1], x.move(4, 0, 0, 0, 0), OVER);
                due("at(0, 4)", x.at(0, 4), -1);
            }
            int[][] good = {{15, 15}, {-15, -15}, {30, 0}, {0, -30}, {30, -30}};
            for (int[] pair : good) {
                read("(0(" + pair[0] + ")(" + pair[1] + "))");
                due("ABSORB of " + pair[0] + " and " + pair[1], x.move(4, 0, 0, 0, 0), 1);
                due("at(1, 0)", x.at(1, 0), pair[0] + pair[1]);
            }
        });
        says(9, "5 SPLIT at p: WEIGHT of p is 0, it has just one NEIGHBOUR: both GO.", () -> {
            read("(0)(0(30(-30)))(0(1)(2))");
            due("without NEIGHBOURS", x.move(5, 0, 0, 0, 0), STATE);
            due("with two", x.move(5, 4, 0, 0, 0), STATE);
            x.weigh(1, 1);
            due("WEIGHT 1", x.move(5, 1, 0, 0, 0), STATE);
            x.weigh(1, -1);
            due("WEIGHT -1", x.move(5, 1, 0, 0, 0), STATE);
            x.weigh(1, 0);
            due("with one", x.move(5, 1, 0, 0, 0), 5);
            weights(0, 99, 99, -30, 0, 1, 2);
            due("at(3, 1)", x.at(3, 1), 0);
            read("(0(0))");
            due("of two that are 0", x.move(5, 1, 0, 0, 0), 0);
        });
    }

    private static void mirrorDraw() {
        says(9, "6 MIRROR: each WEIGHT is 0 less what it was.", () -> {
            due("without VERTICES", x.move(6, 0, 0, 0, 0), 0);
            read("(30(-30)(0)(1))");
            x.take(2);
            due("MIRROR", x.move(6, 0, 0, 0, 0), 3);
            weights(-30, 30, 99, -1);
            due("at(0, 2)", x.at(0, 2), 2 + 8);
        });
        says(9, "7 DRAW at p by v and s: v is -30 .. 30; all of s are NEIGHBOURS of p (s may be empty)", () -> {
            read("(0(1)(2(3)))");
            int[] wrong = {31, -31, 60, MAX, MIN};
            for (int v : wrong) {
                due("DRAW by " + v, x.move(7, 0, 0, v, 0), BEYOND);
            }
            int[] sets = {1, 8, 2 + 8, 16, 4096, 1 << 30, MIN, -1, 2 + 4 + 8, 2 + (1 << 13)};
            for (int s : sets) {
                due("DRAW of the set " + s, x.move(7, 0, 0, 0, s), BEYOND);
            }
            int[] good = {0, 2, 4, 6};
            for (int s : good) {
                due("DRAW of the set " + s, x.move(7, 0, 0, 0, s), 6);
                due("at(0, 2)", x.at(0, 2), (6 & ~s) | 16);
                due("at(5, 2)", x.at(5, 2), s | 16);
                due("at(4, 2)", x.at(4, 2), 1 + 32);
                x.undo();
            }
            due("by 30", x.move(7, 0, 0, 30, 0), 6);
            weights(-30, 1, 2, 3, 0, 30);
            x.undo();
            due("by -30", x.move(7, 0, 0, -30, 0), 6);
            weights(30, 1, 2, 3, 0, -30);
        });
        says(9, "WEIGHT of p is v less; two new VERTICES: the one at the lesser PLACE has WEIGHT 0 and an EDGE to p, the "
                + "other one has WEIGHT v and an EDGE to that; EDGES of p to those of s go, and the other one has EDGES to "
                + "these.", () -> {
            read("(9)(2(3)(4)(5))");
            x.take(0);
            due("DRAW", x.move(7, 1, 0, -7, 4 + 16), 6);
            weights(0, 9, 3, 4, 5, -7);
            due("at(0, 2)", x.at(0, 2), 2 + 32);
            due("at(1, 2)", x.at(1, 2), 1 + 8);
            due("at(5, 2)", x.at(5, 2), 1 + 4 + 16);
            due("at(2, 2)", x.at(2, 2), 32);
            due("at(3, 2)", x.at(3, 2), 2);
            due("count(2)", x.count(2), 5);
        });
        says(9, "OVER: a WEIGHT would be beyond -30 .. 30.", () -> {
            read("(30(1))(-30)(1)(-1)");
            due("30 by -1", x.move(7, 0, 0, -1, 2), OVER);
            due("-30 by 1", x.move(7, 2, 0, 1, 0), OVER);
            due("1 by -30", x.move(7, 3, 0, -30, 0), OVER);
            due("-1 by 30", x.move(7, 4, 0, 30, 0), OVER);
            due("1 by -29", x.move(7, 3, 0, -29, 0), 7);
            due("-1 by 29", x.move(7, 4, 0, 29, 0), 9);
            due("30 by 30", x.move(7, 0, 0, 30, 0), 11);
        });
    }

    private static void places(int... weights) {
        start(promise);
        for (int p = 0; p < 12; p++) {
            x.vertex(0);
        }
        for (int i = 0; i < weights.length; i += 2) {
            x.weigh(weights[i], weights[i + 1]);
        }
    }

    private static void everyPlace() {
        int[] some = {0, 1, 5, 10, 11};
        says(9, "p has two NEIGHBOURS at most: WEIGHT of each NEIGHBOUR is e less, p GOES, and two NEIGHBOURS have an EDGE "
                + "then.", () -> {
            for (int a : some) {
                for (int p : some) {
                    for (int b : some) {
                        if (a != p && p != b && a != b) {
                            places(a, 7, p, -1, b, -5);
                            x.tie(a, p);
                            x.tie(p, b);
                            due("DOWN at " + p + " between " + a + " and " + b, x.move(0, p, 0, 0, 0), 11);
                            due("at(" + a + ", 0)", x.at(a, 0), 8);
                            due("at(" + b + ", 0)", x.at(b, 0), -4);
                            edge(a, b);
                            due("at(" + p + ", 0)", x.at(p, 0), BEYOND);
                        }
                    }
                }
            }
        });
        says(9, "WEIGHT of that NEIGHBOUR at the lesser PLACE is as much more as the other one's is; it has EDGES to all "
                + "others to which the other one has some; p and the other one GO.", () -> {
            int c = 3;
            for (int a : some) {
                for (int p : some) {
                    for (int b : some) {
                        for (int d : some) {
                            if (a < b && p != a && p != b && d != a && d != b && d != p) {
                                places(a, 7, b, -5, c, 1, d, 2);
                                x.tie(a, p);
                                x.tie(p, b);
                                x.tie(c, b);
                                x.tie(d, b);
                                due("ABSORB at " + p + " of " + a + " and " + b, x.move(4, p, 0, 0, 0), 10);
                                due("at(" + a + ", 0)", x.at(a, 0), 2);
                                due("at(" + a + ", 2)", x.at(a, 2), 1 << c | 1 << d);
                                due("at(" + b + ", 0)", x.at(b, 0), BEYOND);
                                due("at(" + p + ", 0)", x.at(p, 0), BEYOND);
                            }
                        }
                    }
                }
            }
        });
        says(9, "5 SPLIT at p: WEIGHT of p is 0, it has just one NEIGHBOUR: both GO.", () -> {
            for (int a : some) {
                for (int p : some) {
                    if (a != p) {
                        places(a, 7, 3, 1);
                        x.tie(a, p);
                        x.tie(a, 3);
                        due("SPLIT at " + p + " of " + a, x.move(5, p, 0, 0, 0), 10);
                        due("at(" + a + ", 0)", x.at(a, 0), BEYOND);
                        due("at(" + p + ", 0)", x.at(p, 0), BEYOND);
                        due("at(3, 1)", x.at(3, 1), 0);
                    }
                }
            }
        });
        says(9, "EDGES of p to those of s go, and the other one has EDGES to these.", () -> {
            for (int a : some) {
                for (int p : some) {
                    if (a != p) {
                        places(a, 7, p, 5);
                        x.tie(a, p);
                        x.tie(3, p);
                        x.take(4);
                        x.take(7);
                        due("DRAW at " + p + " of " + a, x.move(7, p, 0, -9, 1 << a), 12);
                        due("at(" + p + ", 0)", x.at(p, 0), 14);
                        due("at(" + p + ", 2)", x.at(p, 2), 1 << 3 | 1 << 4);
                        due("at(4, 2)", x.at(4, 2), 1 << p | 1 << 7);
                        due("at(7, 0)", x.at(7, 0), -9);
                        due("at(7, 2)", x.at(7, 2), 1 << 4 | 1 << a);
                        due("at(" + a + ", 2)", x.at(a, 2), 1 << 7);
                        x.undo();
                        due("at(" + a + ", 2) behind undo()", x.at(a, 2), 1 << p);
                    }
                }
            }
            read("(3(1)(1)(1)(1)(1)(1)(1)(1)(1))");
            due("DRAW of nine", x.move(7, 0, 0, 0, 1022), 12);
            due("at(11, 2)", x.at(11, 2), 1022 + 1024);
            due("at(0, 2)", x.at(0, 2), 1024);
        });
        says(9, "their EDGE goes; a new VERTEX of WEIGHT v has EDGES to both.", () -> {
            for (int free = 0; free < 12; free++) {
                for (int a : some) {
                    int q = a == 0 ? 11 : a - 1;
                    if (free != a && free != q) {
                        places(a, 7, q, 5);
                        x.tie(a, q);
                        x.take(free);
                        due("UP at " + a + " and " + q, x.move(1, a, q, 1, 0), 12);
                        due("at(" + free + ", 2)", x.at(free, 2), 1 << a | 1 << q);
                        due("at(" + free + ", 0)", x.at(free, 0), 1);
                        due("table(" + a + ", " + q + ")", x.table(a, q), 0);
                        due("at(" + a + ", 0)", x.at(a, 0), 8);
                        due("at(" + q + ", 0)", x.at(q, 0), 6);
                        x.undo();
                        due("BUD at " + a, x.move(2, a, 0, -1, 0), 12);
                        due("at(" + free + ", 2)", x.at(free, 2), 1 << a);
                        due("at(" + a + ", 0)", x.at(a, 0), 6);
                        x.undo();
                        due("LONE", x.move(3, 0, 0, -1, 0), 12);
                        due("at(" + free + ", 0)", x.at(free, 0), -1);
                    }
                }
            }
        });
    }

    private static void signs() {
        says(13, "THE SIGN of a MOVE: of 0 to 3 e or v; of 4, 5 and 7 it's -1; of 6 -1 if the number of VERTICES is odd, "
                + "else 1.", () -> {
            Life woods = some -> read(some, "(1(-1(0)(5)))(0(3)(4))(0(9))(7)");
            int[][] moves = {{0, 0, 0, 0, 0, 1}, {1, 0, 1, 1, 0, 1}, {1, 0, 1, -1, 0, -1}, {2, 0, 0, 1, 0, 1},
                {2, 0, 0, -1, 0, -1}, {3, 0, 0, 1, 0, 1}, {3, 0, 0, -1, 0, -1}, {4, 4, 0, 0, 0, -1}, {5, 7, 0, 0, 0, -1},
                {6, 0, 0, 0, 0, 1}, {7, 0, 0, 0, 0, -1}, {7, 0, 0, 5, 2, -1}};
            for (int[] m : moves) {
                due("factor() behind KIND " + m[0] + " at " + m[1] + " by " + m[3], woods, some -> {
                    some.move(m[0], m[1], m[2], m[3], m[4]);
                    return some.count(4) == 1 ? some.factor() : 99;
                }, m[5]);
            }
            read("(-1)");
            x.move(0, 0, 0, 0, 0);
            due("DOWN of -1", x.factor(), -1);
            x.move(6, 0, 0, 0, 0);
            due("and MIRROR of none", x.factor(), -1);
            x.vertex(4);
            x.move(6, 0, 0, 0, 0);
            due("MIRROR of one", x.factor(), -1);
            x.vertex(4);
            x.move(6, 0, 0, 0, 0);
            due("MIRROR of two", x.factor(), 1);
        });
        says(13, "All SIGNS of DONE MOVES, multiplied (1, if there are none): DET ahead of them is that by DET now.", () -> {
            due("none", x.factor(), 1);
            x.move(3, 0, 0, -1, 0);
            x.move(3, 0, 0, -1, 0);
            due("two", x.factor(), 1);
            x.undo();
            due("one TAKEN BACK", x.factor(), -1);
            x.undo();
            due("both TAKEN BACK", x.factor(), 1);
            x.redo();
            due("one once more", x.factor(), -1);
            x.redo();
            due("both once more", x.factor(), 1);
            x.move(3, 0, 0, -1, 0);
            due("three", x.factor(), -1);
            due("DET", x.det(), -1);
            x.vertex(2);
            due("BY HAND", x.factor(), 1);
        });
    }

    private static void refusedMoves() {
        says(9, "A MOVE is REFUSED, in this order: BEYOND: there is no such KIND; no VERTEX at p, at q (where the MOVE has "
                + "these); v or s is not as told.", () -> {
            read(TWELVE);
            x.tie(0, 1);
            int[] kinds = {-1, 8, 9, 100, MAX, MIN};
            for (int kind : kinds) {
                due("KIND " + kind, x.move(kind, 0, 1, 1, 0), BEYOND);
            }
            int[] withP = {0, 1, 2, 4, 5, 7};
            for (int kind : withP) {
                for (int p : NO_PLACES) {
                    due("KIND " + kind + " at " + p, x.move(kind, p, 1, 1, 0), BEYOND);
                }
            }
            for (int q : NO_PLACES) {
                due("UP at 0 and " + q, x.move(1, 0, q, 1, 0), BEYOND);
            }
            due("UP by 2, BEYOND ahead of STATE", x.move(1, 0, 2, 2, 0), BEYOND);
            due("UP by 2, BEYOND ahead of FULL", x.move(1, 0, 1, 2, 0), BEYOND);
            due("DRAW by 31, BEYOND ahead of FULL", x.move(7, 0, 0, 31, 0), BEYOND);
            due("DRAW of no NEIGHBOUR, BEYOND ahead of FULL", x.move(7, 0, 0, 0, 4), BEYOND);
        });
        says(9, "STATE: WEIGHTS, NEIGHBOURS are not as told (of UP: p and q aren't NEIGHBOURS).", () -> {
            read("(30)(30)(30)(30)(30)(30)(30)(30)(30)(30)(30)(30)");
            due("UP, STATE ahead of FULL and OVER", x.move(1, 0, 1, 1, 0), STATE);
            read("(2(30))(0(30)(30)(30))(-1(30)(30)(30))");
            due("DOWN of 2, STATE ahead of OVER", x.move(0, 0, 0, 0, 0), STATE);
            due("ABSORB with three, STATE ahead of OVER", x.move(4, 2, 0, 0, 0), STATE);
            due("DOWN with three, STATE ahead of OVER", x.move(0, 6, 0, 0, 0), STATE);
        });
        says(9, "FULL: there aren't as many PLACES without a VERTEX as it needs. OVER: a WEIGHT would be beyond -30 .. 30.",
                () -> {
            read("(30(30))(1)(1)(1)(1)(1)(1)(1)(1)(1)(1)");
            due("UP, FULL ahead of OVER", x.move(1, 0, 1, 1, 0), FULL);
            due("BUD, FULL ahead of OVER", x.move(2, 0, 0, 1, 0), FULL);
            due("DRAW, FULL ahead of OVER", x.move(7, 0, 0, -1, 0), FULL);
            x.take(11);
            due("UP, OVER", x.move(1, 0, 1, 1, 0), OVER);
            due("BUD, OVER", x.move(2, 0, 0, 1, 0), OVER);
            due("DRAW, FULL ahead of OVER", x.move(7, 0, 0, -1, 0), FULL);
            x.take(10);
            due("DRAW, OVER", x.move(7, 0, 0, -1, 0), OVER);
        });
        says(9, "Numbers that a MOVE doesn't have aren't looked at.", () -> {
            int[] odd = {MIN, MAX, -1, 12, 99};
            for (int n : odd) {
                int[][] moves = {{0, 0, n, n, n, 4, 0, 0, 0, 0}, {1, 0, 1, -1, n, 6, 0, 1, -1, 0},
                    {2, 1, n, 1, n, 6, 1, 0, 1, 0}, {3, n, n, -1, n, 6, 0, 0, -1, 0}, {4, 1, n, n, n, 3, 1, 0, 0, 0},
                    {5, 3, n, n, n, 3, 3, 0, 0, 0}, {6, n, n, n, n, 5, 0, 0, 0, 0}, {7, 1, n, -7, 5, 7, 1, 0, -7, 5}};
                for (int[] m : moves) {
                    read("(1(0(3)))(0(4))");
                    due("KIND " + m[0] + " with " + n, x.move(m[0], m[1], m[2], m[3], m[4]), m[5]);
                    due("trail(0, 0)", x.trail(0, 0), m[0]);
                    for (int what = 1; what < 5; what++) {
                        due("trail(0, " + what + ") of KIND " + m[0], x.trail(0, what), m[5 + what]);
                    }
                }
                start(9);
            }
        });
    }

    private static void trails() {
        says(9, "MOVES that are DONE, one behind the other, 40 at most, and behind them MOVES that were TAKEN BACK.", () -> {
            read("(-1)(30)");
            for (int i = 1; i <= 40; i++) {
                due("MOVE " + i, x.move(6, 0, 0, 0, 0), 2);
                due("count(4)", x.count(4), i);
            }
            due("the 41st", x.move(6, 0, 0, 0, 0), FULL);
            due("redo()", x.redo(), NONE);
            trailIs(40, 0);
            for (int i = 39; i >= 0; i--) {
                due("undo()", x.undo(), i);
            }
            trailIs(0, 40);
            due("undo()", x.undo(), NONE);
            for (int i = 1; i <= 40; i++) {
                due("redo()", x.redo(), i);
            }
            due("redo()", x.redo(), NONE);
            due("trail(39, 0)", x.trail(39, 0), 6);
            due("trail(40, 0)", x.trail(40, 0), NONE);
        });
        says(9, "REFUSED as told; FULL also if 40 are DONE.", () -> {
            read("(-1(30))(0(1))(1)");
            mirrors(x, 40);
            due("BEYOND ahead of it", x.move(8, 0, 0, 0, 0), BEYOND);
            due("BEYOND ahead of it", x.move(2, 0, 0, 0, 0), BEYOND);
            due("STATE ahead of it", x.move(0, 1, 0, 0, 0), STATE);
            due("DOWN, FULL ahead of OVER", x.move(0, 0, 0, 0, 0), FULL);
            due("SPLIT", x.move(5, 2, 0, 0, 0), FULL);
            due("LONE", x.move(3, 0, 0, 1, 0), FULL);
            due("MIRROR", x.move(6, 0, 0, 0, 0), FULL);
            x.undo();
            due("with 39 it goes", x.move(3, 0, 0, 1, 0), 6);
            due("with 40 it doesn't", x.move(3, 0, 0, 1, 0), FULL);
            x.vertex(0);
            due("BY HAND THE TRAIL is empty", x.move(3, 0, 0, 1, 0), 8);
        });
        says(9, "A MOVE by move() or work() is one more DONE; those TAKEN BACK are forgotten by it.", () -> {
            read("(5(-1))");
            x.worker(0, 0);
            twoMovesAndOneBack();
            x.move(3, 0, 0, 1, 0);
            trailIs(2, 0);
            due("redo()", x.redo(), NONE);
            x.undo();
            x.undo();
            trailIs(0, 2);
            due("a MOVE that is REFUSED", x.move(4, 0, 0, 0, 0), STATE);
            trailIs(0, 2);
            due("a MOVE that is OVER", x.move(7, 0, 0, -30, 0), OVER);
            trailIs(0, 2);
            due("work() that is BEYOND", x.work(0, 13), BEYOND);
            trailIs(0, 2);
            due("work()", x.work(0, 1), 1);
            trailIs(1, 0);
            due("redo()", x.redo(), NONE);
            x.move(6, 0, 0, 0, 0);
            x.undo();
            due("work() that does none", x.work(0, 5), 0);
            trailIs(1, 1);
            due("redo()", x.redo(), 2);
        });
        says(10, "The latest DONE is TAKEN BACK: THE FOREST is as it was ahead of it: how many are DONE. NONE.", () -> {
            due("undo()", x.undo(), NONE);
            read("(9)(3(0(4(7)(8)))(6))(0(5(2)))(1(1))");
            x.take(0);
            Runnable same = () -> {
                weights(99, 3, 0, 4, 7, 8, 6, 0, 5, 2, 1, 1);
                due("at(1, 2)", x.at(1, 2), 4 + 64);
                due("at(3, 2)", x.at(3, 2), 4 + 16 + 32);
                due("at(8, 2)", x.at(8, 2), 128 + 512);
            };
            int[][] moves = {{0, 10, 0, 0, 0}, {1, 1, 2, -1, 0}, {2, 4, 0, 1, 0}, {3, 0, 0, -1, 0}, {4, 2, 0, 0, 0},
                {5, 7, 0, 0, 0}, {6, 0, 0, 0, 0}};
            for (int[] m : moves) {
                int before = x.count(0);
                due("MOVE " + m[0], x.move(m[0], m[1], m[2], m[3], m[4]) >= 0 ? 1 : 0, 1);
                due("undo() of " + m[0], x.undo(), 0);
                due("count(0)", x.count(0), before);
                same.run();
            }
        });
        says(11, "The latest TAKEN BACK is DONE once more: how many are DONE. NONE.", () -> {
            due("redo()", x.redo(), NONE);
            read("(5(0(-1)))");
            x.move(0, 2, 0, 0, 0);
            x.move(7, 0, 0, 3, 2);
            x.move(6, 0, 0, 0, 0);
            due("redo() of none", x.redo(), NONE);
            x.undo();
            x.undo();
            x.undo();
            weights(5, 0, -1);
            due("redo()", x.redo(), 1);
            weights(5, 1, 99);
            due("redo()", x.redo(), 2);
            weights(2, 1, 0, 3);
            due("at(3, 2)", x.at(3, 2), 2 + 4);
            due("redo()", x.redo(), 3);
            weights(-2, -1, 0, -3);
            due("redo()", x.redo(), NONE);
            due("trail(1, 3)", x.trail(1, 3), 3);
            due("trail(1, 4)", x.trail(1, 4), 2);
        });
        says(12, "Of DONE MOVE i (from 0): what 0 KIND, 1 p, 2 q, 3 v, 4 s (0 of what the MOVE doesn't have). BEYOND: what. "
                + "NONE: no such one.", () -> {
            read("(5(0))(3)");
            due("i 0 of none", x.trail(0, 0), NONE);
            x.move(7, 0, 5, -25, 2);
            x.move(1, 2, 2, 1, 0);
            x.move(2, 2, 5, -1, 9);
            x.undo();
            due("trail(0, 0)", x.trail(0, 0), 7);
            due("trail(0, 2)", x.trail(0, 2), 0);
            due("trail(0, 3)", x.trail(0, 3), -25);
            due("trail(0, 4)", x.trail(0, 4), 2);
            due("i as many as are DONE, one TAKEN BACK", x.trail(1, 0), NONE);
            int[] odd = {-1, 2, 39, 40, 41, MAX, MIN};
            for (int i : odd) {
                due("i " + i, x.trail(i, 4), NONE);
            }
            int[] whats = {-1, 5, 6, MAX, MIN};
            for (int what : whats) {
                due("what " + what, x.trail(0, what), BEYOND);
                due("what " + what + " of no such one", x.trail(-1, what), BEYOND);
            }
        });
    }

    /** A FOREST, a TRAIL with one DONE and one TAKEN BACK, and all that acts BY HAND need. */
    private static void handy(RoomTrees some) {
        read(some, "(2(3))(4)");
        some.sheet(0, 8, 3);
        some.sheet(1, 8, 0);
        some.sheet(2, 8, 2);
        some.put(2, 0, 31);
        some.worker(0, 0);
        some.move(6, 0, 0, 0, 0);
        some.image();
        some.keep(0);
        some.move(3, 0, 0, 1, 0);
        some.undo();
        feedAll(some, "(-2(-3))(-4)");
    }

    private static void byHand() {
        says(0, "What changes THE FOREST otherwise is told as BY HAND: THE TRAIL is empty then (also if that came to "
                + "nothing; not if it was refused, nor by a text with a FAULT).", () -> {
            Call[] hands = {some -> some.vertex(5), some -> some.weigh(0, 7), some -> some.weigh(0, -2),
                some -> some.tie(0, 2), some -> some.cut(1, 0), some -> some.take(2), some -> some.plant(3, 1),
                some -> some.forest(), some -> some.fetch(0), some -> some.restore(), some -> some.weighAll(0),
                some -> some.weighAll(1), some -> some.weighAll(2)};
            for (int i = 0; i < hands.length; i++) {
                Call hand = hands[i];
                due("DONE behind act " + i, ForestSentencesTest::handy, some -> {
                    int answer = hand.on(some);
                    return answer < -30 ? answer : some.count(4);
                }, 0);
                due("TAKEN BACK behind act " + i, ForestSentencesTest::handy, some -> {
                    hand.on(some);
                    return some.count(5);
                }, 0);
                due("undo() behind act " + i, ForestSentencesTest::handy, some -> {
                    hand.on(some);
                    return some.undo();
                }, NONE);
                due("redo() behind act " + i, ForestSentencesTest::handy, some -> {
                    hand.on(some);
                    return some.redo();
                }, NONE);
            }
            Call[] others = {some -> some.vertex(31), some -> some.weigh(0, 31), some -> some.tie(0, 1),
                some -> some.cut(0, 2), some -> some.take(3), some -> some.plant(6, 4), some -> some.plant(11, 10),
                some -> some.plant(31, 1), some -> some.fetch(1), some -> some.weighAll(3), some -> some.weighAll(4),
                some -> some.feed('x', 1) + some.forest(), some -> some.at(0, 0), some -> some.table(0, 1),
                some -> some.det(), some -> some.keep(1), some -> some.drop(0), some -> some.alike(0),
                some -> some.worker(1, 1), some -> some.become(0, 3), some -> some.work(0, 3), some -> some.image(),
                some -> some.book(0), some -> some.sheet(0, 16, 9), some -> some.put(0, 0, 1), some -> some.feed(0, 8),
                some -> some.least(0), some -> some.best(0), some -> some.fewest(2, 0), some -> some.reach(0, 2),
                some -> some.plays(0, 0), some -> some.rest(0, 0), some -> some.next(0, 0)};
            for (int i = 0; i < others.length; i++) {
                Call other = others[i];
                due("DONE and TAKEN BACK behind other " + i, ForestSentencesTest::handy, some -> {
                    other.on(some);
                    return 10 * some.count(4) + some.count(5);
                }, 11);
            }
        });
        says(0, "nor by a text with a FAULT", () -> {
            read("(5)");
            twoMovesAndOneBack();
            due("an empty text", x.forest(), -10);
            fault("(5)(", 4);
            trailIs(1, 1);
            weights(-5);
        });
    }

    private static void handActs() {
        says(2, "One more VERTEX of WEIGHT w, without EDGES: its PLACE (BY HAND). BEYOND. FULL.", () -> {
            int[] wrong = {31, -31, 100, MAX, MIN};
            for (int w : wrong) {
                due("vertex(" + w + ")", x.vertex(w), BEYOND);
            }
            due("count(0)", x.count(0), 0);
            for (int p = 0; p < 12; p++) {
                due("vertex", x.vertex(p % 2 == 0 ? 30 : -30), p);
                due("at(" + p + ", 1)", x.at(p, 1), 0);
            }
            due("FULL", x.vertex(30), FULL);
            due("BEYOND ahead of FULL", x.vertex(31), BEYOND);
            x.take(11);
            due("again", x.vertex(-30), 11);
        });
        says(3, "WEIGHT of p becomes w: what it was (BY HAND). BEYOND.", () -> {
            x.vertex(-30);
            for (int p : NO_PLACES) {
                due("weigh(" + p + ", 0)", x.weigh(p, 0), BEYOND);
            }
            due("weigh(1, 0)", x.weigh(1, 0), BEYOND);
            due("weigh(0, 31)", x.weigh(0, 31), BEYOND);
            due("weigh(0, -31)", x.weigh(0, -31), BEYOND);
            due("weigh(0, 30)", x.weigh(0, 30), -30);
            due("weigh(0, -30)", x.weigh(0, -30), 30);
        });
        says(4, "An EDGE between p and q: how many TREES there are (BY HAND). BEYOND. STATE: they are of one TREE (also one "
                + "and the same).", () -> {
            read(TWELVE);
            for (int p : NO_PLACES) {
                due("tie(0, " + p + ")", x.tie(0, p), BEYOND);
                due("tie(" + p + ", 0)", x.tie(p, 0), BEYOND);
                due("tie(" + p + ", " + p + ")", x.tie(p, p), BEYOND);
            }
            for (int p = 1; p < 12; p++) {
                due("tie(" + p + ", " + (p - 1) + ")", x.tie(p, p - 1), 12 - p);
            }
            due("one and the same", x.tie(7, 7), STATE);
            due("the ends", x.tie(0, 11), STATE);
            due("NEIGHBOURS", x.tie(3, 4), STATE);
        });
        says(5, "The EDGE between p and q goes: how many TREES there are (BY HAND). BEYOND. NONE: they aren't NEIGHBOURS.",
                () -> {
            read("(1(1(1(1(1(1(1(1(1(1(1(1))))))))))))");
            for (int p : NO_PLACES) {
                due("cut(0, " + p + ")", x.cut(0, p), BEYOND);
                due("cut(" + p + ", 0)", x.cut(p, 0), BEYOND);
            }
            due("one and the same", x.cut(2, 2), NONE);
            due("of one TREE", x.cut(0, 2), NONE);
            due("cut(0, 1)", x.cut(0, 1), 2);
            due("again", x.cut(0, 1), NONE);
            due("again", x.cut(1, 0), NONE);
            for (int p = 11; p > 1; p--) {
                due("cut(" + p + ", " + (p - 1) + ")", x.cut(p, p - 1), 14 - p);
            }
        });
        says(6, "The VERTEX at p GOES: its WEIGHT (BY HAND). BEYOND.", () -> {
            read("(30(-30))(0)");
            for (int p : NO_PLACES) {
                due("take(" + p + ")", x.take(p), BEYOND);
            }
            due("take(3)", x.take(3), BEYOND);
            due("take(1)", x.take(1), -30);
            due("again", x.take(1), BEYOND);
            due("take(0)", x.take(0), 30);
            due("take(2)", x.take(2), 0);
            due("count(0)", x.count(0), 0);
        });
        says(7, "what 0 WEIGHT, 1 how many NEIGHBOURS, 2 NEIGHBOURS as a set, 3 its TREE as a set, 4 which of DOWN, ABSORB, "
                + "SPLIT at p is not REFUSED (-1: none is), 5 how many EDGES THE PATH to one of its TREE has at most. "
                + "BEYOND.", () -> {
            read("(5(0(1)(2)(3)(4)(5)(6)(7)(8)(9)(10)))");
            int[] whats = {-1, 6, 7, MAX, MIN};
            for (int what : whats) {
                due("at(0, " + what + ")", x.at(0, what), BEYOND);
            }
            due("at(1, 1)", x.at(1, 1), 11);
            due("at(1, 2)", x.at(1, 2), 4095 - 2);
            due("at(1, 5)", x.at(1, 5), 1);
            due("at(0, 5)", x.at(0, 5), 2);
            due("at(1, 4)", x.at(1, 4), -1);
            read("(1)(0)(0(3))(0(3)(3))(2)(-1)");
            int[] kinds = {0, -1, 5, -1, 4, -1, -1, -1, 0};
            for (int p = 0; p < kinds.length; p++) {
                due("at(" + p + ", 4)", x.at(p, 4), kinds[p]);
            }
            due("at(0, 1)", x.at(0, 1), 0);
            due("at(0, 2)", x.at(0, 2), 0);
            due("at(0, 5)", x.at(0, 5), 0);
            mirrors(x, 40);
            due("at(0, 4) with 40 DONE", x.at(0, 4), 0);
            read("(1(1(1(1(1(1(1(1(1(1(1(1))))))))))))");
            for (int p = 0; p < 12; p++) {
                due("at(" + p + ", 5)", x.at(p, 5), Math.max(p, 11 - p));
            }
        });
        says(8, "THE TABLE of p and q. BEYOND.", () -> {
            read("(30(-30))(0)");
            int[][] table = {{30, 1, 0}, {1, -30, 0}, {0, 0, 0}};
            for (int p = 0; p < 3; p++) {
                for (int q = 0; q < 3; q++) {
                    due("table(" + p + ", " + q + ")", x.table(p, q), table[p][q]);
                }
            }
            for (int p : NO_PLACES) {
                due("table(0, " + p + ")", x.table(0, p), BEYOND);
                due("table(" + p + ", 0)", x.table(p, 0), BEYOND);
                due("table(" + p + ", " + p + ")", x.table(p, p), BEYOND);
            }
            due("table(3, 3)", x.table(3, 3), BEYOND);
        });
    }

    public static void main(String[] args) {
        terms();
        places();
        down();
        upBudLone();
        absorbSplit();
        mirrorDraw();
        everyPlace();
        signs();
        refusedMoves();
        trails();
        byHand();
        handActs();
        close();
    }
}
