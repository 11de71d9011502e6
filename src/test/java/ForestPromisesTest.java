import java.util.ArrayList;
import java.util.List;
import java.util.TreeSet;

/** Promises 1 to 28 of ../shared/DOC.md: ordinary calls, the edges that the document names, and wrong ones. */
public final class ForestPromisesTest extends Due {
    /** LINES whose n is 2^30 less 1, and 2^30. */
    private static final String MOST_LINE = "(2(-4(13(8(9(2(-6(-3(-7(-12(9(-5))))))))))))";
    private static final String OVER_LINE = "(1(-17(4(3(-8(15(16(4(5(5(-10(-3))))))))))))";

    private static void newObject() {
        start(1);
        for (int what = 0; what < 10; what++) {
            due("count(" + what + ")", x.count(what), 0);
        }
        for (int k = 1; k <= 7; k++) {
            due("told(" + k + ")", x.told(k), 0);
        }
        due("restore()", x.restore(), NONE);
        due("undo()", x.undo(), NONE);
        due("redo()", x.redo(), NONE);
        for (int i = 0; i < 4; i++) {
            due("fetch", x.fetch(i), MISSING);
            due("book", x.book(i), MISSING);
        }
        for (int p = 0; p < 12; p++) {
            due("at", x.at(p, 0), BEYOND);
        }
        due("workerIs", x.workerIs(0, 0), BEYOND);
        due("forest()", x.forest(), -10);
        RoomTrees other = new RoomTrees();
        x.vertex(1);
        due("another object's count(0)", other.count(0), 0);
    }

    private static void vertex() {
        start(2);
        due("vertex(31)", x.vertex(31), BEYOND);
        due("vertex(-31)", x.vertex(-31), BEYOND);
        due("vertex(MIN)", x.vertex(MIN), BEYOND);
        for (int p = 0; p < 12; p++) {
            due("vertex", x.vertex(p % 2 == 0 ? 30 : -30), p);
        }
        weights(30, -30, 30, -30, 30, -30, 30, -30, 30, -30, 30, -30);
        due("vertex(0)", x.vertex(0), FULL);
        due("vertex(31)", x.vertex(31), BEYOND);
        due("count(0)", x.count(0), 12);
        due("count(2)", x.count(2), 0);
        x.take(4);
        x.take(2);
        twoMovesAndOneBack();
        due("vertex(31)", x.vertex(31), BEYOND);
        trailIs(1, 1);
        due("vertex(7)", x.vertex(7), 2);
        trailIs(0, 0);
        due("vertex(8)", x.vertex(8), 4);
        due("at(4, 2)", x.at(4, 2), 0);
    }

    private static void weigh() {
        start(3);
        x.vertex(5);
        due("weigh(0, -30)", x.weigh(0, -30), 5);
        due("weigh(0, 30)", x.weigh(0, 30), -30);
        twoMovesAndOneBack();
        due("weigh(0, 31)", x.weigh(0, 31), BEYOND);
        due("weigh(0, -31)", x.weigh(0, -31), BEYOND);
        due("weigh(1, 0)", x.weigh(1, 0), BEYOND);
        due("weigh(-1, 0)", x.weigh(-1, 0), BEYOND);
        due("weigh(12, 0)", x.weigh(12, 0), BEYOND);
        due("weigh(32, 0)", x.weigh(32, 0), BEYOND);
        trailIs(1, 1);
        due("weigh(0, -30)", x.weigh(0, -30), -30);
        trailIs(0, 0);
    }

    private static void tie() {
        start(4);
        x.vertex(1);
        x.vertex(1);
        x.vertex(1);
        x.vertex(1);
        due("tie(0, 3)", x.tie(0, 3), 3);
        edge(0, 3);
        due("tie(3, 1)", x.tie(3, 1), 2);
        twoMovesAndOneBack();
        due("tie(1, 0)", x.tie(1, 0), STATE);
        due("tie(0, 3)", x.tie(0, 3), STATE);
        due("tie(2, 2)", x.tie(2, 2), STATE);
        due("tie(4, 4)", x.tie(4, 4), BEYOND);
        due("tie(0, -1)", x.tie(0, -1), BEYOND);
        due("tie(12, 0)", x.tie(12, 0), BEYOND);
        trailIs(1, 1);
        due("tie(2, 0)", x.tie(2, 0), 1);
        trailIs(0, 0);
        due("table(1, 2)", x.table(1, 2), 0);
    }

    private static void cut() {
        start(5);
        read("(1(2(3)))");
        due("cut(0, 2)", x.cut(0, 2), NONE);
        due("cut(1, 1)", x.cut(1, 1), NONE);
        due("cut(0, 3)", x.cut(0, 3), BEYOND);
        due("cut(-1, 0)", x.cut(-1, 0), BEYOND);
        twoMovesAndOneBack();
        due("cut(2, 0)", x.cut(2, 0), NONE);
        trailIs(1, 1);
        due("cut(2, 1)", x.cut(2, 1), 2);
        trailIs(0, 0);
        due("table(1, 2)", x.table(1, 2), 0);
        due("table(2, 1)", x.table(2, 1), 0);
        edge(0, 1);
        due("cut(0, 1)", x.cut(0, 1), 3);
    }

    private static void take() {
        start(6);
        read("(1(2(3)(4)))");
        due("take(4)", x.take(4), BEYOND);
        due("take(-1)", x.take(-1), BEYOND);
        due("take(12)", x.take(12), BEYOND);
        twoMovesAndOneBack();
        due("take(9)", x.take(9), BEYOND);
        trailIs(1, 1);
        due("take(1)", x.take(1), -2);
        trailIs(0, 0);
        due("count(1)", x.count(1), 3);
        due("count(2)", x.count(2), 0);
        due("take(1)", x.take(1), BEYOND);
        due("vertex(9)", x.vertex(9), 1);
        due("at(1, 2)", x.at(1, 2), 0);
        due("at(0, 2)", x.at(0, 2), 0);
    }

    private static void at() {
        start(7);
        // 0 - 1 - 2, 1 - 3 - 4; 5 alone
        read("(-1(0(2)(0(1))))(0)");
        int[][] due = {
            {-1, 1, 2, 31, 0, 3}, {0, 3, 13, 31, -1, 2}, {2, 1, 2, 31, -1, 3}, {0, 2, 18, 31, 4, 2},
            {1, 1, 8, 31, 0, 3}, {0, 0, 0, 32, -1, 0}};
        for (int p = 0; p < due.length; p++) {
            for (int what = 0; what < 6; what++) {
                due("at(" + p + ", " + what + ")", x.at(p, what), due[p][what]);
            }
        }
        due("at(0, 6)", x.at(0, 6), BEYOND);
        due("at(0, -1)", x.at(0, -1), BEYOND);
        due("at(6, 0)", x.at(6, 0), BEYOND);
        due("at(-1, 0)", x.at(-1, 0), BEYOND);
        due("at(12, 0)", x.at(12, 0), BEYOND);
        due("at(32, 0)", x.at(32, 0), BEYOND);
        read("(0(5))");
        due("at(0, 4) of SPLIT", x.at(0, 4), 5);
        read("(-1(30))");
        due("at(0, 4) of DOWN that is OVER", x.at(0, 4), -1);
        read("(0(30)(1))");
        due("at(0, 4) of ABSORB that is OVER", x.at(0, 4), -1);
        read("(1(5)(5)(5))");
        due("at(0, 4) of DOWN with three", x.at(0, 4), -1);
        read("(1(1(1(1(1(1(1(1(1(1(1(1))))))))))))");
        due("at(0, 5)", x.at(0, 5), 11);
        due("at(5, 5)", x.at(5, 5), 6);
        due("at(11, 3)", x.at(11, 3), 4095);
    }

    private static void table() {
        start(8);
        read("(-7(3))(2)");
        due("table(0, 0)", x.table(0, 0), -7);
        due("table(0, 1)", x.table(0, 1), 1);
        due("table(1, 0)", x.table(1, 0), 1);
        due("table(0, 2)", x.table(0, 2), 0);
        due("table(2, 2)", x.table(2, 2), 2);
        due("table(0, 3)", x.table(0, 3), BEYOND);
        due("table(3, 0)", x.table(3, 0), BEYOND);
        due("table(-1, 0)", x.table(-1, 0), BEYOND);
        due("table(0, MAX)", x.table(0, MAX), BEYOND);
    }

    private static void moveDown() {
        start(9);
        read("(5(1(-4)))");
        due("DOWN", x.move(0, 1, -9, 99, -1), 2);
        weights(4, 99, -5);
        edge(0, 2);
        read("(5(-1))");
        due("DOWN at a leaf", x.move(0, 1, 0, 0, 0), 1);
        weights(6, 99);
        read("(1)");
        due("DOWN of a lone one", x.move(0, 0, 0, 0, 0), 0);
        due("DOWN at none", x.move(0, 0, 0, 0, 0), BEYOND);
        due("DOWN at -1", x.move(0, -1, 0, 0, 0), BEYOND);
        due("DOWN at 12", x.move(0, 12, 0, 0, 0), BEYOND);
        read("(1(0)(0)(0))(2)(0)");
        due("DOWN with three", x.move(0, 0, 0, 0, 0), STATE);
        due("DOWN of 2", x.move(0, 4, 0, 0, 0), STATE);
        due("DOWN of 0", x.move(0, 5, 0, 0, 0), STATE);
        read("(-1(30)(0))");
        due("DOWN that is OVER", x.move(0, 0, 0, 0, 0), OVER);
        read("(1(0)(-30))");
        due("DOWN that is OVER", x.move(0, 0, 0, 0, 0), OVER);
        read("(-1(29)(-30))");
        due("DOWN just not OVER", x.move(0, 0, 0, 0, 0), 2);
        weights(99, 30, -29);
    }

    private static void moveUp() {
        start(9);
        read("(5(1(-4)))");
        due("UP by -1", x.move(1, 0, 1, -1, -5), 4);
        weights(4, 0, -4, -1);
        edge(3, 0);
        edge(3, 1);
        due("table(0, 1)", x.table(0, 1), 0);
        due("UP by 1", x.move(1, 2, 1, 1, 0), 5);
        weights(4, 1, -3, -1, 1);
        due("UP of no NEIGHBOURS", x.move(1, 0, 1, 1, 0), STATE);
        due("UP of one and the same", x.move(1, 0, 0, 1, 0), STATE);
        due("UP by 0", x.move(1, 0, 3, 0, 0), BEYOND);
        due("UP by 2", x.move(1, 0, 3, 2, 0), BEYOND);
        due("UP at none", x.move(1, 5, 0, 1, 0), BEYOND);
        due("UP at none", x.move(1, 0, 5, 1, 0), BEYOND);
        due("UP, v before NEIGHBOURS", x.move(1, 0, 1, 3, 0), BEYOND);
        read("(30(0))");
        due("UP that is OVER", x.move(1, 0, 1, 1, 0), OVER);
        due("UP that is OVER", x.move(1, 1, 0, 1, 0), OVER);
        read("(-30(0))");
        due("UP that is OVER", x.move(1, 1, 0, -1, 0), OVER);
        due("UP that is not", x.move(1, 1, 0, 1, 0), 3);
        read("(30(1(1(1(1(1(1(1(1(1(1(1))))))))))))");
        due("UP without room", x.move(1, 0, 1, 1, 0), FULL);
        due("UP without NEIGHBOURS nor room", x.move(1, 0, 2, 1, 0), STATE);
    }

    private static void moveBudAndLone() {
        start(9);
        read("(5)");
        due("BUD by 1", x.move(2, 0, 77, 1, 77), 2);
        weights(6, 1);
        edge(0, 1);
        due("BUD by -1", x.move(2, 1, 0, -1, 0), 3);
        weights(6, 0, -1);
        edge(1, 2);
        due("BUD by 0", x.move(2, 0, 0, 0, 0), BEYOND);
        due("BUD at none", x.move(2, 3, 0, 1, 0), BEYOND);
        due("LONE by 1", x.move(3, -5, 77, 1, 77), 4);
        due("LONE by -1", x.move(3, 77, 0, -1, 0), 5);
        weights(6, 0, -1, 1, -1);
        due("at(3, 2)", x.at(3, 2), 0);
        due("LONE by 0", x.move(3, 0, 0, 0, 0), BEYOND);
        due("LONE by 2", x.move(3, 0, 0, 2, 0), BEYOND);
        read("(30)(-30)");
        due("BUD that is OVER", x.move(2, 0, 0, 1, 0), OVER);
        due("BUD that is OVER", x.move(2, 1, 0, -1, 0), OVER);
        read("(30)(1)(1)(1)(1)(1)(1)(1)(1)(1)(1)(1)");
        due("BUD without room", x.move(2, 0, 0, 1, 0), FULL);
        due("LONE without room", x.move(3, 0, 0, 1, 0), FULL);
        due("LONE by 2 without room", x.move(3, 0, 0, 2, 0), BEYOND);
    }

    private static void moveAbsorbAndSplit() {
        start(9);
        // 0 - 1 - 2 with 3 and 4 on 2, and 5 on 0
        read("(3(0(4(7)(8)))(6))");
        due("ABSORB", x.move(4, 1, 0, 0, 0), 4);
        weights(7, 99, 99, 7, 8, 6);
        due("at(0, 2)", x.at(0, 2), 8 + 16 + 32);
        due("ABSORB of 7", x.move(4, 0, 0, 0, 0), STATE);
        due("ABSORB at none", x.move(4, 1, 0, 0, 0), BEYOND);
        read("(0(1)(2)(3))");
        due("ABSORB with three", x.move(4, 0, 0, 0, 0), STATE);
        due("SPLIT with three", x.move(5, 0, 0, 0, 0), STATE);
        read("(0(1))");
        due("ABSORB with one", x.move(4, 0, 0, 0, 0), STATE);
        read("(0(29)(2))");
        due("ABSORB that is OVER", x.move(4, 0, 0, 0, 0), OVER);
        read("(0(-29)(-1))");
        due("ABSORB that is not", x.move(4, 0, 0, 0, 0), 1);
        weights(99, -30, 99);
        read("(0(5(6)(7(8))))(9)");
        due("SPLIT", x.move(5, 0, 0, 0, 0), 4);
        weights(99, 99, 6, 7, 8, 9);
        due("count(1)", x.count(1), 3);
        due("SPLIT of 6", x.move(5, 2, 0, 0, 0), STATE);
        due("SPLIT at none", x.move(5, 0, 0, 0, 0), BEYOND);
        read("(0)(0(1)(1))");
        due("SPLIT without NEIGHBOUR", x.move(5, 0, 0, 0, 0), STATE);
        due("SPLIT with two", x.move(5, 1, 0, 0, 0), STATE);
    }

    private static void moveMirrorAndDraw() {
        start(9);
        due("MIRROR of nothing", x.move(6, -3, 99, 99, 99), 0);
        read("(3(-4)(0))");
        due("MIRROR", x.move(6, -3, 99, 99, 99), 3);
        weights(-3, 4, 0);
        edge(0, 1);
        read("(3(-4)(5)(6))");
        due("DRAW", x.move(7, 0, 99, 7, 2 + 8), 6);
        weights(-4, -4, 5, 6, 0, 7);
        due("at(0, 2)", x.at(0, 2), 4 + 16);
        due("at(4, 2)", x.at(4, 2), 1 + 32);
        due("at(5, 2)", x.at(5, 2), 16 + 2 + 8);
        due("DRAW by none", x.move(7, 1, 0, -30, 0), 8);
        due("at(1, 0)", x.at(1, 0), 26);
        due("at(7, 0)", x.at(7, 0), -30);
        due("DRAW that is OVER", x.move(7, 1, 0, -30, 0), OVER);
        due("DRAW by 31", x.move(7, 1, 0, 31, 0), BEYOND);
        due("DRAW by -31", x.move(7, 1, 0, -31, 0), BEYOND);
        due("DRAW of no NEIGHBOUR", x.move(7, 1, 0, 0, 1), BEYOND);
        due("DRAW of itself", x.move(7, 1, 0, 0, 2), BEYOND);
        due("DRAW of no PLACE", x.move(7, 1, 0, 0, 1 << 20), BEYOND);
        due("DRAW of -1", x.move(7, 1, 0, 0, -1), BEYOND);
        due("DRAW at none", x.move(7, 9, 0, 0, 0), BEYOND);
        x.vertex(1);
        x.vertex(1);
        x.vertex(1);
        due("DRAW with one PLACE", x.move(7, 0, 0, 0, 0), FULL);
        due("DRAW with one PLACE, OVER", x.move(7, 7, 0, 1, 0), FULL);
        x.take(10);
        due("DRAW with two PLACES", x.move(7, 0, 0, 0, 0), 12);
        due("no KIND", x.move(8, 0, 0, 0, 0), BEYOND);
        due("no KIND", x.move(-1, 0, 0, 0, 0), BEYOND);
        due("no KIND", x.move(MIN, 0, 0, 0, 0), BEYOND);
        due("no KIND", x.move(MAX, 0, 0, 0, 0), BEYOND);
    }

    private static void fortyMoves() {
        start(9);
        read("(30)");
        for (int i = 0; i < 40; i++) {
            due("move " + i, x.move(6, 0, 0, 0, 0), 1);
        }
        due("the next one", x.move(6, 0, 0, 0, 0), FULL);
        due("DOWN, STATE first", x.move(0, 0, 0, 0, 0), STATE);
        due("BUD, BEYOND first", x.move(2, 1, 0, 1, 0), BEYOND);
        due("BUD, FULL before OVER", x.move(2, 0, 0, 1, 0), FULL);
        trailIs(40, 0);
        due("undo()", x.undo(), 39);
        due("BUD that is OVER", x.move(2, 0, 0, -1, 0), OVER);
        trailIs(39, 1);
        due("BUD", x.move(2, 0, 0, 1, 0), 2);
        trailIs(40, 0);
        weights(-29, 1);
    }

    private static void undo() {
        start(10);
        due("undo()", x.undo(), NONE);
        read("(2(0(4(7))))");
        x.move(4, 1, 0, 0, 0);
        x.move(2, 0, 0, 1, 0);
        x.move(6, 0, 0, 0, 0);
        due("undo()", x.undo(), 2);
        weights(7, 1, 99, 7);
        due("undo()", x.undo(), 1);
        weights(6, 99, 99, 7);
        due("undo()", x.undo(), 0);
        weights(2, 0, 4, 7);
        edge(0, 1);
        edge(1, 2);
        edge(2, 3);
        due("count(2)", x.count(2), 3);
        due("undo()", x.undo(), NONE);
        trailIs(0, 3);
    }

    private static void redo() {
        start(11);
        due("redo()", x.redo(), NONE);
        read("(2(0(4(7))))");
        x.move(4, 1, 0, 0, 0);
        x.move(7, 0, 0, 3, 8);
        due("redo()", x.redo(), NONE);
        x.undo();
        x.undo();
        due("redo()", x.redo(), 1);
        weights(6, 99, 99, 7);
        due("redo()", x.redo(), 2);
        weights(3, 0, 3, 7);
        edge(2, 3);
        due("redo()", x.redo(), NONE);
        x.undo();
        due("a refused move", x.move(0, 0, 0, 0, 0), STATE);
        trailIs(1, 1);
        due("redo()", x.redo(), 2);
        x.undo();
        x.move(6, 0, 0, 0, 0);
        trailIs(2, 0);
        due("redo()", x.redo(), NONE);
        x.undo();
        x.worker(0, 0);
        due("work without a MOVE", x.work(0, 3), 0);
        trailIs(1, 1);
        read("(-1)");
        x.move(6, 0, 0, 0, 0);
        x.undo();
        due("work", x.work(0, 1), 1);
        trailIs(1, 0);
    }

    private static void trail() {
        start(12);
        due("trail(0, 0)", x.trail(0, 0), NONE);
        due("trail(0, 5)", x.trail(0, 5), BEYOND);
        read("(5(0))");
        x.move(2, 1, 9, 1, 9);
        x.move(1, 1, 2, -1, 9);
        x.move(7, 0, 9, -3, 2);
        x.move(6, 9, 9, 9, 9);
        x.move(3, 9, 9, 1, 9);
        x.move(0, 3, 9, 9, 9);
        int[][] due = {{2, 1, 0, 1, 0}, {1, 1, 2, -1, 0}, {7, 0, 0, -3, 2}, {6, 0, 0, 0, 0}, {3, 0, 0, 1, 0},
            {0, 3, 0, 0, 0}};
        for (int i = 0; i < due.length; i++) {
            for (int what = 0; what < 5; what++) {
                due("trail(" + i + ", " + what + ")", x.trail(i, what), due[i][what]);
            }
        }
        due("trail(6, 0)", x.trail(6, 0), NONE);
        due("trail(-1, 0)", x.trail(-1, 0), NONE);
        due("trail(-1, -1)", x.trail(-1, -1), BEYOND);
        due("trail(0, -1)", x.trail(0, -1), BEYOND);
        due("trail(MAX, 4)", x.trail(MAX, 4), NONE);
        x.undo();
        due("trail(5, 0) of one TAKEN BACK", x.trail(5, 0), NONE);
        read("(0(5))");
        x.move(5, 0, 0, 0, 0);
        due("trail(0, 0)", x.trail(0, 0), 5);
        read("(3(0(5)))");
        x.move(4, 1, 1, 1, 1);
        due("trail(0, 0)", x.trail(0, 0), 4);
        due("trail(0, 1)", x.trail(0, 1), 1);
        due("trail(0, 3)", x.trail(0, 3), 0);
    }

    private static void factor() {
        start(13);
        due("factor()", x.factor(), 1);
        read("(5(0))");
        int before = x.det();
        int[][] moves = {{2, 0, 0, -1, 0}, {1, 0, 1, 1, 0}, {3, 0, 0, -1, 0}, {7, 0, 0, 2, 4}, {6, 0, 0, 0, 0},
            {3, 0, 0, 1, 0}, {6, 0, 0, 0, 0}, {0, 5, 0, 0, 0}, {0, 4, 0, 0, 0}, {5, 8, 0, 0, 0}};
        int[] signs = {-1, 1, -1, -1, -1, 1, 1, -1, 1, 1};
        int product = 1;
        for (int i = 0; i < moves.length; i++) {
            int size = x.count(0);
            int[] m = moves[i];
            int sign = m[0] == 0 ? x.at(m[1], 0) : m[0] <= 3 ? m[3] : m[0] == 6 ? size % 2 == 0 ? 1 : -1 : -1;
            if (x.move(m[0], m[1], m[2], m[3], m[4]) >= 0) {
                product *= sign;
            }
            due("factor() behind move " + i, x.factor(), product);
            due("det() behind move " + i, x.det() * x.factor(), before);
        }
        due("rows of signs", signs.length, moves.length);
        x.undo();
        due("det() by factor()", x.det() * x.factor(), before);
        x.vertex(1);
        due("factor() BY HAND", x.factor(), 1);
        read("(0(7))");
        x.move(5, 0, 0, 0, 0);
        due("factor() of SPLIT", x.factor(), -1);
        read("(0(7)(8))");
        x.move(4, 0, 0, 0, 0);
        due("factor() of ABSORB", x.factor(), -1);
        x.move(6, 0, 0, 0, 0);
        due("factor() of MIRROR of one too", x.factor(), 1);
        x.move(6, 0, 0, 0, 0);
        x.undo();
        due("factor() behind undo", x.factor(), 1);
    }

    private static void minor() {
        start(14);
        due("minor(0)", x.minor(0), 1);
        due("minor(1)", x.minor(1), BEYOND);
        // 0 - 1, 0 - 2 - 3
        read("(-2(3)(5(7)))");
        due("minor(0)", x.minor(0), 1);
        due("minor(1)", x.minor(1), -2);
        due("minor(3)", x.minor(3), -7);
        due("minor(9)", x.minor(9), -14);
        due("minor(12)", x.minor(12), 34);
        due("minor(15)", x.minor(15), -7 * 34 - 3 * 7);
        due("minor(16)", x.minor(16), BEYOND);
        due("minor(-1)", x.minor(-1), BEYOND);
        due("minor(MIN)", x.minor(MIN), BEYOND);
        due("minor(4096)", x.minor(4096), BEYOND);
        x.take(0);
        due("minor(1)", x.minor(1), BEYOND);
        due("minor(14)", x.minor(14), 3 * 34);
        read("(30)(30)(30)(30)(30)(30)(30)(30)(30)(30)(30)(30)");
        due("minor of six", x.minor(63), 729000000);
        due("minor of seven", x.minor(127), OVER);
        due("minor of twelve", x.minor(4095), OVER);
        read("(2)(2)(2)(2)(16)(16)(16)(16)(16)(16)(-1)");
        // 2^4 by 2^24 is 2^28; by 4 it is 2^30, which is more than can be told, but not below 0
        due("2^28", x.minor(1023), 268435456);
        x.weigh(0, 8);
        due("2^30", x.minor(1023), OVER);
        due("-2^30", x.minor(2047), -1073741824);
        x.weigh(10, -2);
        due("-2^31", x.minor(2047), OVER);
    }

    private static void det() {
        start(15);
        due("det()", x.det(), 1);
        read("(0)");
        due("det()", x.det(), 0);
        read("(3(-4))(5)");
        due("det()", x.det(), -65);
        read("(0(0(0(0))))");
        due("det()", x.det(), 1);
        read("(30)(30)(30)(30)(30)(30)");
        due("det()", x.det(), 729000000);
        x.vertex(-30);
        due("det()", x.det(), OVER);
        x.weigh(0, 0);
        due("det()", x.det(), 0);
        due("told(5)", x.told(5), 1);
        // 2^30 less 1 is 9 * 7 * 11 * 31 * 151 * 331; 2^30 and 1 is 25 * 13 * 41 * 61 * 1321
        read("(9)(7)(11)(2(16))(8(19))(2(19(9)))");
        due("det() of 2^30 less 1", x.det(), 1073741823);
        read("(25)(13)(2(21))(2(2(21)))(2(25(27)))(-1)");
        due("det() of -2^30 less 1", x.det(), OVER);
        x.weigh(10, 1);
        due("det() of 2^30 and 1", x.det(), OVER);
    }

    private static void link() {
        start(16);
        due("link(0, 0, 0)", x.link(0, 0, 0), BEYOND);
        read("(3(-4))(-6)(2)");
        // 3, 1; 1, -4 has the inverse 4/13, 1/13; 1/13, -3/13
        int[][] due = {{0, 0, 4, 13}, {0, 1, 1, 13}, {1, 0, 1, 13}, {1, 1, -3, 13}, {2, 2, -1, 6}, {0, 2, 0, 1},
            {3, 3, 1, 2}, {2, 3, 0, 1}};
        for (int[] row : due) {
            due("link " + row[0] + " " + row[1], x.link(row[0], row[1], 0), row[2]);
            due("link " + row[0] + " " + row[1], x.link(row[0], row[1], 1), row[3]);
        }
        due("part 2", x.link(0, 0, 2), BEYOND);
        due("part -1", x.link(0, 0, -1), BEYOND);
        due("no VERTEX", x.link(0, 4, 0), BEYOND);
        due("no VERTEX", x.link(12, 0, 0), BEYOND);
        read("(2(2(2)))");
        due("0 to 2 above", x.link(0, 2, 0), 1);
        due("0 to 2 below", x.link(0, 2, 1), 4);
        due("0 to 1 above", x.link(0, 1, 0), -1);
        due("0 to 1 below", x.link(0, 1, 1), 2);
        due("1 to 1 above", x.link(1, 1, 0), 1);
        due("1 to 1 below", x.link(1, 1, 1), 1);
        read("(2)(0)");
        due("DET 0", x.link(0, 0, 0), STATE);
        due("DET 0, part 2", x.link(0, 0, 2), BEYOND);
        read("(30(30(30(30(30(30(29)))))))");
        due("below is OVER", x.link(0, 0, 1), OVER);
        due("above of the same is not", x.link(0, 6, 0), 1);
        read("(0(0))(30)(30)(30)(30)(30)(30)(30)");
        due("0 to 1 in lowest terms", x.link(0, 1, 0), 1);
        due("0 to 1 in lowest terms", x.link(0, 1, 1), 1);
        due("0 to 0 is 0", x.link(0, 0, 0), 0);
        due("0 to 0 is 0 by 1", x.link(0, 0, 1), 1);
    }

    private static void inertia() {
        start(17);
        for (int what = 0; what < 3; what++) {
            due("inertia of nothing", x.inertia(what), 0);
        }
        String[] texts = {"(3)(-4)(0)(0)", "(0(0))", "(1(1))", "(0(0)(0)(0))", "(-2(-2(-2(-2))))", "(2(1(1)))",
            "(5(0(-1)(0)))", "(1(1(1)))"};
        int[][] due = {{1, 1, 2}, {1, 1, 0}, {1, 0, 1}, {1, 1, 2}, {0, 4, 0}, {2, 1, 0}, {2, 2, 0}, {2, 1, 0}};
        for (int i = 0; i < texts.length; i++) {
            read(texts[i]);
            for (int what = 0; what < 3; what++) {
                due("inertia(" + what + ") of " + texts[i], x.inertia(what), due[i][what]);
            }
        }
        due("inertia(3)", x.inertia(3), BEYOND);
        due("inertia(-1)", x.inertia(-1), BEYOND);
    }

    private static void kernel() {
        start(18);
        for (int prime = -3; prime < 40; prime++) {
            boolean good = prime == 2 || prime == 3 || prime == 5 || prime == 7 || prime == 11 || prime == 13;
            due("kernel(" + prime + ")", x.kernel(prime), good ? 0 : BEYOND);
        }
        read("(6)(10)(15)(-26)(0)");
        int[][] due = {{2, 4}, {3, 3}, {5, 3}, {7, 1}, {11, 1}, {13, 2}};
        for (int[] row : due) {
            due("kernel(" + row[0] + ")", x.kernel(row[0]), row[1]);
        }
        read("(2(2))");
        due("kernel(3)", x.kernel(3), 1);
        due("kernel(2)", x.kernel(2), 0);
        read("(-1(1)(1)(1))");
        due("kernel(2)", x.kernel(2), 1);
        due("kernel(3)", x.kernel(3), 0);
        read("(0(7)(14)(3))");
        due("kernel(7)", x.kernel(7), 1);
        due("kernel(2)", x.kernel(2), 0);
        read("(22(11)(11(0))(11))");
        due("kernel(11)", x.kernel(11), 1);
    }

    private static void wu() {
        start(19);
        due("wu(0)", x.wu(0), 1);
        due("wu(1)", x.wu(1), 0);
        due("wu(2)", x.wu(2), BEYOND);
        due("wu(-1)", x.wu(-1), BEYOND);
        // 1: itself; 2: either
        read("(1)(2)(0)(3)");
        due("wu(0)", x.wu(0), 4);
        due("wu(1)", x.wu(1), 9);
        // odd with odd by an EDGE: just one of them
        read("(1(1))");
        due("wu(0)", x.wu(0), 2);
        due("wu(1)", x.wu(1), 1);
        read("(0(0(0)))");
        due("wu(0)", x.wu(0), 2);
        due("wu(1)", x.wu(1), 0);
        read("(0(1))");
        due("wu(0)", x.wu(0), 1);
        due("wu(1)", x.wu(1), 1);
        read("(1(0(1)))(0)");
        x.take(3);
        due("wu(0)", x.wu(0), 2);
        due("wu(1)", x.wu(1), 2);
        read("(2(2)(3(2)(2)))");
        due("wu(0)", x.wu(0), bruteWu(0));
        due("wu(1)", x.wu(1), bruteWu(1));
        read("(1(-1)(1(-2)(2(1)(1)))(4(3)(5)))");
        due("wu(0)", x.wu(0), bruteWu(0));
        due("wu(1)", x.wu(1), bruteWu(1));
    }

    private static int bruteWu(int what) {
        List<Integer> all = new ArrayList<>();
        int n = x.count(0);
        int[][] table = new int[n][n];
        for (int p = 0; p < n; p++) {
            for (int q = 0; q < n; q++) {
                table[p][q] = x.table(p, q);
            }
        }
        for (int set = 0; set < 1 << n; set++) {
            boolean good = true;
            for (int p = 0; p < n; p++) {
                int sum = 0;
                for (int q = 0; q < n; q++) {
                    sum += (set >> q & 1) == 0 ? 0 : table[p][q];
                }
                good &= Math.floorMod(sum - table[p][p], 2) == 0;
            }
            if (good) {
                all.add(set);
            }
        }
        return what == 0 ? all.size() : all.get(0);
    }

    private static void mu() {
        start(20);
        due("mu()", x.mu(), 0);
        read("(2)");
        due("mu()", x.mu(), STATE);
        read("(0)");
        due("mu()", x.mu(), STATE);
        read("(3)");
        due("mu()", x.mu(), 1 - 3);
        read("(-5)");
        due("mu()", x.mu(), -1 + 5);
        read("(0(0))");
        due("mu()", x.mu(), 0);
        // WU SET is the first: of 1 itself and of its NEIGHBOUR
        read("(0(1))");
        due("mu()", x.mu(), 0);
        // by the table 1 1 0, 1 2 1, 0 1 3: the sets' numbers must be odd, even, odd
        read("(1(2(3)))");
        due("DET", x.det(), 2);
        due("mu()", x.mu(), STATE);
        read("(1(2(4)))");
        due("DET", x.det(), 3);
        due("wu(1)", x.wu(1), 5);
        due("mu()", x.mu(), 3 - 5);
        read("(1(1(1)))");
        due("wu(1)", x.wu(1), 2);
        due("mu()", x.mu(), 2 - 1 - 1);
        read("(30)(30)(30)(30)(30)(30)(30)");
        due("mu()", x.mu(), STATE);
        read("(29)(29)(29)(29)(29)(29)(29)");
        due("mu() of a DET too large to tell", x.mu(), 7 - 7 * 29);
        read("(2(2))(3)");
        due("mu()", x.mu(), 3 - 3);
        read("(1(1(2)))");
        due("wu(1)", x.wu(1), 1);
        due("mu()", x.mu(), 2 - 1 - 1);
        // of an even VERTEX between two others the numbers with the set are 1 and 1
        read("(-1(2(-3)(0)))");
        due("wu(1)", x.wu(1), 1 + 4);
        due("mu()", x.mu(), 1 - 3 + 4);
    }

    private static void fraction() {
        start(21);
        // 0 - 1 - 2, 3 on 1; 4 alone
        read("(2(3(4))(9))(0)");
        due("0 to 2 above", x.fraction(0, 2, 0), 24 - 4 - 2);
        due("0 to 2 below", x.fraction(0, 2, 1), 11);
        due("2 to 0 above", x.fraction(2, 0, 0), 18);
        due("2 to 0 below", x.fraction(2, 0, 1), 5);
        due("1 to 1 above", x.fraction(1, 1, 0), 3);
        due("1 to 1 below", x.fraction(1, 1, 1), 1);
        due("4 to 4 above", x.fraction(4, 4, 0), 0);
        due("4 to 4 below", x.fraction(4, 4, 1), 1);
        due("two TREES", x.fraction(0, 4, 0), NONE);
        due("two TREES, part", x.fraction(0, 4, 2), BEYOND);
        due("part", x.fraction(0, 0, -1), BEYOND);
        due("no VERTEX", x.fraction(0, 5, 0), BEYOND);
        due("no VERTEX", x.fraction(-1, 0, 0), BEYOND);
        read("(5(-2))");
        due("below is below 0, above", x.fraction(0, 1, 0), 11);
        due("below is below 0", x.fraction(0, 1, 1), 2);
        read("(5(0))");
        due("below is 0, above", x.fraction(0, 1, 0), 1);
        due("below is 0", x.fraction(0, 1, 1), 0);
        read("(30(30(30(30(30(30(30(0))))))))");
        due("above is OVER", x.fraction(0, 6, 0), OVER);
        due("below is not", x.fraction(0, 6, 1), 724955399);
        due("below is OVER", x.fraction(7, 0, 1), OVER);
        due("above is not", x.fraction(7, 0, 0), -724955399);
    }

    private static void room() {
        start(22);
        read("(-2(-3))(7)(0)(1)(-1)(3(3)(3)(3))");
        due("n", x.room(0, 0), 5);
        due("m", x.room(0, 1), 3);
        due("n by the other one", x.room(1, 0), 5);
        due("m by the other one", x.room(1, 1), 3);
        due("n of 7", x.room(2, 0), 7);
        due("m of 7", x.room(2, 1), 6);
        due("n of 0", x.room(3, 0), 0);
        due("m of 0", x.room(3, 1), 1);
        due("n of 1", x.room(4, 0), 1);
        due("m of 1", x.room(4, 1), 0);
        due("m of -1", x.room(5, 1), 0);
        due("no LINE", x.room(6, 0), STATE);
        due("no LINE", x.room(7, 1), STATE);
        due("no LINE, what", x.room(7, 2), BEYOND);
        due("what", x.room(0, -1), BEYOND);
        due("no VERTEX", x.room(10, 0), BEYOND);
        read("(-7)");
        due("m of -7", x.room(0, 1), 1);
        // MINOR below 0: 3, 1; 1, -4 is -13, B is -4
        read("(3(-4))");
        due("n", x.room(0, 0), 13);
        due("m", x.room(0, 1), 9);
        // ends are 1 and 2: 1 - 0 - 2; MINOR 2*3*5 - 2 - 3 ... by the first end 1
        read("(3(2)(5))");
        due("n", x.room(0, 0), 30 - 2 - 5);
        due("m", x.room(0, 1), 23 - 14);
        due("m from elsewhere", x.room(2, 1), 23 - 14);
        read("(30(30(30(30(30(30(30)))))))");
        due("n is OVER", x.room(0, 0), OVER);
        due("n is OVER, m too", x.room(0, 1), OVER);
        read("(-30(30(30(30(30(30(30)))))))");
        due("n is OVER", x.room(0, 0), OVER);
        due("m is OVER too", x.room(0, 1), OVER);
        read(MOST_LINE);
        due("n of 2^30 less 1", x.room(0, 0), 1073741823);
        due("m of 2^30 less 1", x.room(0, 1), 1073741823 - 478230860);
        read(OVER_LINE);
        due("n of 2^30", x.room(0, 0), OVER);
        due("m of 2^30", x.room(0, 1), OVER);
        read("(9)(9)(9)(9)(9)(9)(9)(9)(9)(9)(-3(5))");
        due("n at the last PLACES", x.room(11, 0), 16);
        due("m at the last PLACES", x.room(11, 1), 5);
        x.cut(10, 11);
        due("n at the last PLACE", x.room(11, 0), 5);
        due("m at the last PLACE", x.room(11, 1), 4);
    }

    private static void oneRoom() {
        start(23);
        x.plant(7, 2);
        due("PLACE of 7 by 4", x.plant(7, 4), 2);
        due("PLACE of 7 by 3", x.plant(7, 3), 4);
        due("7 by 2 and 7 by 4", x.oneRoom(0, 3), 1);
        due("7 by 4 and 7 by 2", x.oneRoom(2, 1), 1);
        due("7 by 2 and 7 by 3", x.oneRoom(0, 4), 0);
        due("one and the same", x.oneRoom(0, 0), 1);
        due("of one TREE", x.oneRoom(0, 1), 1);
        due("no VERTEX", x.oneRoom(0, 11), BEYOND);
        due("no VERTEX", x.oneRoom(-1, 0), BEYOND);
        read("(0)(0(1(1)))(1)(-1)(2)(3)");
        due("0 and 0", x.oneRoom(0, 0), 1);
        due("1 and -1", x.oneRoom(4, 5), 1);
        due("2 and 3", x.oneRoom(6, 7), 0);
        due("0 and 1", x.oneRoom(0, 4), 0);
        read("(0)(1(1))(0(5)(-5))");
        due("n 0 and n 0", x.oneRoom(0, 1), 1);
        due("n 0 and n 0", x.oneRoom(2, 4), 1);
        read("(5(1)(1)(1))(2)");
        due("no LINE", x.oneRoom(0, 4), STATE);
        due("no LINE", x.oneRoom(4, 1), STATE);
        due("no VERTEX before", x.oneRoom(0, 5), BEYOND);
        read("(30(30(30(30(30(30(30)))))))(30(1)(1)(1))(2)");
        due("OVER", x.oneRoom(0, 11), OVER);
        due("OVER", x.oneRoom(11, 0), OVER);
        due("STATE before OVER", x.oneRoom(0, 8), STATE);
        read(MOST_LINE);
        due("n of 2^30 less 1", x.oneRoom(0, 11), 1);
        read(OVER_LINE);
        due("n of 2^30", x.oneRoom(0, 11), OVER);
    }

    private static void chain() {
        start(24);
        // 7/3 is 3 less 1 by (2 less 1 by 2)
        int[] due = {3, 2, 2};
        due("chain(7, 3, -1)", x.chain(7, 3, -1), 3);
        for (int i = 0; i < 3; i++) {
            due("chain(7, 3, " + i + ")", x.chain(7, 3, i), due[i]);
        }
        due("chain(7, 3, 3)", x.chain(7, 3, 3), NONE);
        due("chain(7, 3, MAX)", x.chain(7, 3, MAX), NONE);
        due("chain(7, 3, -2)", x.chain(7, 3, -2), BEYOND);
        due("chain(7, 0, 0)", x.chain(7, 0, 0), BEYOND);
        due("chain(7, 7, 0)", x.chain(7, 7, 0), BEYOND);
        due("chain(7, -1, 0)", x.chain(7, -1, 0), BEYOND);
        due("chain(1, 1, 0)", x.chain(1, 1, 0), BEYOND);
        due("chain(1, 0, 0)", x.chain(1, 0, 0), BEYOND);
        due("chain(1000, 1, 0)", x.chain(1000, 1, 0), BEYOND);
        due("chain(MIN, 1, 0)", x.chain(MIN, 1, 0), BEYOND);
        due("chain(6, 4, -2)", x.chain(6, 4, -2), BEYOND);
        due("chain(6, 4, 9)", x.chain(6, 4, 9), STATE);
        due("chain(999, 3, -1)", x.chain(999, 3, -1), STATE);
        due("chain(2, 1, -1)", x.chain(2, 1, -1), 1);
        due("chain(2, 1, 0)", x.chain(2, 1, 0), 2);
        due("chain(999, 1, 0)", x.chain(999, 1, 0), 999);
        due("chain(999, 1, 1)", x.chain(999, 1, 1), NONE);
        due("chain(999, 998, 997)", x.chain(999, 998, 997), 2);
        due("chain(999, 998, 998)", x.chain(999, 998, 998), NONE);
    }

    private static void plant() {
        start(25);
        x.vertex(9);
        x.vertex(9);
        x.take(0);
        x.move(6, 0, 0, 0, 0);
        due("plant(7, 0)", x.plant(7, 0), BEYOND);
        due("plant(1, 1)", x.plant(1, 1), BEYOND);
        due("plant(1000, 1)", x.plant(1000, 1), BEYOND);
        due("plant(6, 4)", x.plant(6, 4), STATE);
        due("plant(31, 1)", x.plant(31, 1), OVER);
        due("plant(13, 12)", x.plant(13, 12), FULL);
        due("plant(421, 14)", x.plant(421, 14), FULL);
        trailIs(1, 0);
        due("count(0)", x.count(0), 1);
        due("plant(7, 3)", x.plant(7, 3), 0);
        trailIs(0, 0);
        weights(-3, -9, -2, -2);
        edge(0, 2);
        edge(2, 3);
        due("table(0, 3)", x.table(0, 3), 0);
        due("count(2)", x.count(2), 2);
        due("plant(30, 1)", x.plant(30, 1), 4);
        due("at(4, 0)", x.at(4, 0), -30);
        due("plant(8, 7)", x.plant(8, 7), 5);
        due("count(0)", x.count(0), 12);
        due("plant(2, 1)", x.plant(2, 1), FULL);
        start(25);
        due("plant(13, 12)", x.plant(13, 12), 0);
        due("count(0)", x.count(0), 12);
        due("plant(31, 1) without room", x.plant(31, 1), FULL);
    }

    private static void feed() {
        start(26);
        due("feed(0, 0)", x.feed(0, 0), BEYOND);
        due("feed(0, 9)", x.feed(0, 9), BEYOND);
        due("feed(0, -1)", x.feed(0, -1), BEYOND);
        due("feed(0, MIN)", x.feed(0, MIN), BEYOND);
        due("feed '(2'", x.feed(0x7777777777773228L, 2), 2);
        due("feed ')'", x.feed(41, 1), 3);
        due("count(7)", x.count(7), 3);
        due("forest()", x.forest(), 1);
        weights(2);
        due("eight bytes", x.feed(0x2929392835392928L & -1L, 8), 8);
        due("forest()", x.forest(), -11);
        due("eight bytes", x.feed(0x2029293328352d28L, 8), 8);
        due("forest()", x.forest(), 2);
        weights(-5, 3);
        for (int i = 1; i <= 15; i++) {
            due("feed", x.feed(-1L, 8), 8 * i);
        }
        due("feed to a full tape", x.feed(0, 1), FULL);
        due("feed of 9 to a full tape", x.feed(0, 9), BEYOND);
        due("count(7)", x.count(7), 120);
        due("forest()", x.forest(), -10);
        for (int i = 1; i <= 14; i++) {
            x.feed(0x2020202020202020L, 8);
        }
        x.feed(0x20, 1);
        due("feed of 8 to 113", x.feed(0x28, 8), FULL);
        due("feed of 7 to 113", x.feed(0x29352820202020L, 7), 120);
        due("forest()", x.forest(), 1);
        weights(5);
    }

    private static void forest() {
        start(27);
        due("a FOREST", read("(1(2(3))(4))(-5)"), 5);
        weights(1, 2, 3, 4, -5);
        edge(0, 1);
        edge(1, 2);
        edge(0, 3);
        due("count(2)", x.count(2), 3);
        due("count(7)", x.count(7), 0);
        twoMovesAndOneBack();
        fault("", 0);
        fault("  ", 2);
        fault("1", 0);
        fault(")", 0);
        fault("(", 1);
        fault("( ", 2);
        fault("()", 1);
        fault("((1))", 1);
        fault("(1", 2);
        fault("(1 ", 3);
        fault("(1(2)", 5);
        fault("(1))", 3);
        fault("(1)(", 4);
        fault("(1) 2", 4);
        fault("(1 2)", 3);
        fault("(1-2)", 2);
        fault("(1(2)3)", 5);
        fault("(31)", 1);
        fault("(-31)", 1);
        fault("(99)", 1);
        fault("(001)", 1);
        fault("(-001)", 1);
        fault("(123456789012345)", 1);
        fault("(-)", 1);
        fault("(- 1)", 1);
        fault("(--1)", 1);
        fault("(-", 1);
        fault("(1(-", 3);
        fault("( x)", 2);
        fault("x(1)", 0);
        fault("(1)\u00ff", 3);
        fault("(+1)", 1);
        fault("(1\t)", 2);
        fault("(1)(1)(1)(1)(1)(1)(1)(1)(1)(1)(1)(1)(1)", 36);
        fault("(1(1(1(1(1(1(1(1(1(1(1(1(1)))))))))))))", 24);
        fault("(1)(1)(1)(1)(1)(1)(1)(1)(1)(1)(1)(1)x", 36);
        trailIs(1, 1);
        weights(-1, -2, -3, -4, 5);
        due("twelve", read("(1(1(1(1(1(1(1(1(1(1(1(1))))))))))))"), 12);
        trailIs(0, 0);
        due("blanks", read("  ( -30 ( 30 ) (00)( 07) (-0)) "), 5);
        weights(-30, 30, 0, 7, 0);
        due("at(0, 2)", x.at(0, 2), 30);
        x.feed(0x2928, 2);
        due("a FAULT", x.forest(), -11);
        due("behind it", read("(2)"), 1);
        due("FAULTS are no ERRORS", x.told(1) + x.told(2) + x.told(3) + x.told(4) + x.told(5), 0);
    }

    private static final int[] WEIGHTS = new int[12];
    private static final int[] NEARS = new int[12];

    private static TreeSet<String> textsOf(int p, int from) {
        TreeSet<String> all = new TreeSet<>();
        List<Integer> below = new ArrayList<>();
        for (int q = 0; q < 12; q++) {
            if (q != from && (NEARS[p] >> q & 1) != 0) {
                below.add(q);
            }
        }
        orders(all, "(" + WEIGHTS[p], p, below);
        return all;
    }

    private static void orders(TreeSet<String> all, String begun, int p, List<Integer> left) {
        if (left.isEmpty()) {
            all.add(begun + ")");
        }
        for (int q : left) {
            List<Integer> rest = new ArrayList<>(left);
            rest.remove(Integer.valueOf(q));
            for (String text : textsOf(q, p)) {
                orders(all, begun + text, p, rest);
            }
        }
    }

    private static void leastText() {
        start(28);
        due("least(-1)", x.least(-1), 0);
        due("least(0)", x.least(0), NONE);
        due("least(-2)", x.least(-2), BEYOND);
        due("least(MIN)", x.least(MIN), BEYOND);
        read("(5)(-3)(10)(0)");
        isText("LEAST TEXT", least(), "(-3)(0)(10)(5)");
        due("least(0)", x.least(0), 40);
        due("least(1)", x.least(1), 45);
        due("least(14)", x.least(14), NONE);
        due("least(13)", x.least(13), 41);
        read("(2(1)(1(3)))");
        isText("LEAST TEXT", least(), "(1(2(1(3))))");
        read("(12(1))(1(12))");
        isText("LEAST TEXT", least(), "(1(12))(1(12))");
        read("(-30(-30(-30(-30(-30(-30(-30(-30(-30(-30(-30(-30))))))))))))");
        due("least(-1)", x.least(-1), 60);
        String[] texts = {"(0(2(-4)(3(-1))))", "(1(-1(10)(1))(1(1)(2)))", "(2(2(2)(2))(2(2)))", "(0(0(0(0)(1)))(0(0(0))))",
            "(-1(-10(-2))(-1(2)))", "(3(-3)(3(-3)(30)))"};
        for (String text : texts) {
            start(28);
            int n = read(text);
            for (int p = 0; p < n; p++) {
                WEIGHTS[p] = x.at(p, 0);
                NEARS[p] = x.at(p, 2);
            }
            TreeSet<String> all = new TreeSet<>();
            for (int p = 0; p < n; p++) {
                all.addAll(textsOf(p, -1));
            }
            isText("LEAST TEXT of " + text, least(), all.first());
        }
    }

    public static void main(String[] args) {
        newObject();
        vertex();
        weigh();
        tie();
        cut();
        take();
        at();
        table();
        moveDown();
        moveUp();
        moveBudAndLone();
        moveAbsorbAndSplit();
        moveMirrorAndDraw();
        fortyMoves();
        undo();
        redo();
        trail();
        factor();
        minor();
        det();
        link();
        inertia();
        kernel();
        wu();
        mu();
        fraction();
        room();
        oneRoom();
        chain();
        plant();
        feed();
        forest();
        leastText();
        close();
    }
}
