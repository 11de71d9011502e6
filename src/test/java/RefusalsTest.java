import java.io.IOException;
import java.nio.file.Files;
import java.nio.file.Path;
import java.util.Set;
import java.util.TreeSet;
import java.util.regex.Matcher;
import java.util.regex.Pattern;

/**
 * "Each act tells its ERRORS in the order in which they are asked; one that answers an ERROR changes nothing but what told()
 * tells": each ERROR of each act, on an object of which each part has something, beside another one that lived just so.
 */
public final class RefusalsTest extends Sentence {
    private static final String[] NAMES = {"", "BEYOND", "NONE", "STATE", "FULL", "OVER", "KIND", "MISSING"};
    private static final String HEAVY = "(30)(30)(30)(30)(30)(30)(30)";
    private static final Set<String> TRIED = new TreeSet<>();

    private static Life life = Sentence::full;

    private static void begin(int number, Life more) {
        promise = number;
        life = some -> {
            full(some);
            more.of(some);
        };
    }

    private static void begin(int number) {
        begin(number, some -> { });
    }

    private static void refused(String what, Call call, int error) {
        TRIED.add(promise + " " + NAMES[-1100000000 - error]);
        leaves(what, life, call, error);
    }

    /** In place of what a full life has: a FOREST from a text, some MIRRORS, and one of them TAKEN BACK. */
    private static Life woods(String text, int done) {
        return some -> {
            some.forest();
            read(some, text);
            mirrors(some, Math.min(40, done + 1));
            if (done < 40) {
                some.undo();
            }
            feedAll(some, "(9");
        };
    }

    private static Life twelve(int done) {
        return woods("(30(0))(1)(1)(1)(1)(1)(1)(1)(1)(1)(1)", done);
    }

    private static void byHand() {
        begin(2);
        refused("vertex(31)", some -> some.vertex(31), BEYOND);
        refused("vertex(-31)", some -> some.vertex(-31), BEYOND);
        begin(2, twelve(2));
        refused("vertex(0)", some -> some.vertex(0), FULL);
        refused("vertex(31) ahead of FULL", some -> some.vertex(31), BEYOND);
        begin(3);
        refused("weigh(7, 0)", some -> some.weigh(7, 0), BEYOND);
        refused("weigh(0, 31)", some -> some.weigh(0, 31), BEYOND);
        refused("weigh(0, -31)", some -> some.weigh(0, -31), BEYOND);
        refused("weigh(-1, 31)", some -> some.weigh(-1, 31), BEYOND);
        begin(4);
        refused("tie(0, 7)", some -> some.tie(0, 7), BEYOND);
        refused("tie(-1, 0)", some -> some.tie(-1, 0), BEYOND);
        refused("tie(12, 12)", some -> some.tie(12, 12), BEYOND);
        refused("tie(2, 0)", some -> some.tie(2, 0), STATE);
        refused("tie(1, 0)", some -> some.tie(1, 0), STATE);
        refused("tie(5, 5)", some -> some.tie(5, 5), STATE);
        begin(5);
        refused("cut(0, 7)", some -> some.cut(0, 7), BEYOND);
        refused("cut(12, 1)", some -> some.cut(12, 1), BEYOND);
        refused("cut(8, 8)", some -> some.cut(8, 8), BEYOND);
        refused("cut(0, 2)", some -> some.cut(0, 2), NONE);
        refused("cut(0, 3)", some -> some.cut(0, 3), NONE);
        refused("cut(1, 1)", some -> some.cut(1, 1), NONE);
        begin(6);
        refused("take(7)", some -> some.take(7), BEYOND);
        refused("take(-1)", some -> some.take(-1), BEYOND);
        refused("take(32)", some -> some.take(32), BEYOND);
        begin(7);
        refused("at(7, 0)", some -> some.at(7, 0), BEYOND);
        refused("at(7, 6)", some -> some.at(7, 6), BEYOND);
        refused("at(0, 6)", some -> some.at(0, 6), BEYOND);
        refused("at(0, -1)", some -> some.at(0, -1), BEYOND);
        begin(8);
        refused("table(0, 7)", some -> some.table(0, 7), BEYOND);
        refused("table(7, 0)", some -> some.table(7, 0), BEYOND);
        refused("table(-1, -1)", some -> some.table(-1, -1), BEYOND);
    }

    private static void moves() {
        begin(9);
        refused("no KIND", some -> some.move(8, 0, 1, 1, 0), BEYOND);
        refused("no KIND", some -> some.move(-1, 0, 1, 1, 0), BEYOND);
        refused("DOWN at none", some -> some.move(0, 7, 0, 0, 0), BEYOND);
        refused("UP at none", some -> some.move(1, 7, 0, 1, 0), BEYOND);
        refused("UP at none", some -> some.move(1, 0, 7, 1, 0), BEYOND);
        refused("UP by 0, ahead of STATE", some -> some.move(1, 0, 2, 0, 0), BEYOND);
        refused("BUD by 2", some -> some.move(2, 0, 0, 2, 0), BEYOND);
        refused("LONE by -2", some -> some.move(3, 0, 0, -2, 0), BEYOND);
        refused("ABSORB at none", some -> some.move(4, 11, 0, 0, 0), BEYOND);
        refused("SPLIT at none", some -> some.move(5, 12, 0, 0, 0), BEYOND);
        refused("DRAW by 31", some -> some.move(7, 0, 0, 31, 2), BEYOND);
        refused("DRAW of no NEIGHBOUR", some -> some.move(7, 0, 0, 1, 2 + 4), BEYOND);
        refused("DOWN of -3", some -> some.move(0, 0, 0, 0, 0), STATE);
        refused("UP of no NEIGHBOURS", some -> some.move(1, 0, 2, 1, 0), STATE);
        refused("ABSORB of -3", some -> some.move(4, 0, 0, 0, 0), STATE);
        refused("SPLIT with two", some -> some.move(5, 1, 0, 0, 0), STATE);
        refused("DRAW that is OVER", some -> some.move(7, 0, 0, 30, 0), OVER);
        begin(9, some -> {
            some.weigh(0, -30);
            some.weigh(2, -1);
            some.move(6, 0, 0, 0, 0);
            some.move(3, 0, 0, 1, 0);
            some.undo();
        });
        refused("UP that is OVER", some -> some.move(1, 0, 1, 1, 0), OVER);
        refused("BUD that is OVER", some -> some.move(2, 0, 0, 1, 0), OVER);
        refused("ABSORB that is OVER", some -> some.move(4, 1, 0, 0, 0), OVER);
        begin(9, twelve(3));
        refused("UP, FULL ahead of OVER", some -> some.move(1, 0, 1, some.at(0, 0) / 30, 0), FULL);
        refused("LONE, FULL", some -> some.move(3, 0, 0, 1, 0), FULL);
        refused("BUD by 2, BEYOND ahead of FULL", some -> some.move(2, 0, 0, 2, 0), BEYOND);
        refused("UP, STATE ahead of FULL", some -> some.move(1, 0, 2, 1, 0), STATE);
        begin(9, woods("(-1(30))(0(1))(2)", 40));
        refused("MIRROR behind 40", some -> some.move(6, 0, 0, 0, 0), FULL);
        refused("DOWN behind 40, FULL ahead of OVER", some -> some.move(0, 0, 0, 0, 0), FULL);
        refused("DOWN of 2 behind 40, STATE ahead of FULL", some -> some.move(0, 4, 0, 0, 0), STATE);
        refused("no KIND behind 40, BEYOND ahead of FULL", some -> some.move(8, 0, 0, 0, 0), BEYOND);
        begin(10, some -> {
            some.undo();
            some.undo();
        });
        refused("undo() with four TAKEN BACK", some -> some.undo(), NONE);
        begin(10, some -> some.vertex(1));
        refused("undo() BY HAND", some -> some.undo(), NONE);
        begin(11, some -> {
            some.redo();
            some.redo();
        });
        refused("redo() with four DONE", some -> some.redo(), NONE);
        begin(11, some -> some.move(6, 0, 0, 0, 0));
        refused("redo() behind a MOVE", some -> some.redo(), NONE);
        begin(12);
        refused("what 5", some -> some.trail(0, 5), BEYOND);
        refused("what -1 of no such one", some -> some.trail(2, -1), BEYOND);
        refused("i 2 of two DONE", some -> some.trail(2, 0), NONE);
        refused("i -1", some -> some.trail(-1, 4), NONE);
        refused("i 40", some -> some.trail(40, 4), NONE);
    }

    private static void tables() {
        begin(14);
        refused("minor(128)", some -> some.minor(128), BEYOND);
        refused("minor(-1)", some -> some.minor(-1), BEYOND);
        begin(14, woods(HEAVY, 2));
        refused("minor(127)", some -> some.minor(127), OVER);
        refused("minor(255) ahead of OVER", some -> some.minor(255), BEYOND);
        begin(15, woods(HEAVY, 2));
        refused("det()", some -> some.det(), OVER);
        begin(16, woods("(2(3))(0)", 2));
        refused("link(0, 3, 0)", some -> some.link(0, 3, 0), BEYOND);
        refused("link(3, 0, 0)", some -> some.link(3, 0, 0), BEYOND);
        refused("part 2 ahead of STATE", some -> some.link(0, 1, 2), BEYOND);
        refused("part -1", some -> some.link(0, 1, -1), BEYOND);
        refused("DET 0", some -> some.link(0, 1, 0), STATE);
        refused("DET 0", some -> some.link(2, 2, 1), STATE);
        begin(16, woods(line(30, 30, 30, 30, 30, 30, 29), 2));
        refused("below", some -> some.link(0, 6, 1), OVER);
        refused("part 2 ahead of OVER", some -> some.link(0, 6, 2), BEYOND);
        begin(16, woods(line(1, 30, 30, 30, 30, 30, 30, 29), 2));
        refused("above", some -> some.link(0, 0, 0), OVER);
        begin(17);
        refused("inertia(3)", some -> some.inertia(3), BEYOND);
        refused("inertia(-1)", some -> some.inertia(-1), BEYOND);
        begin(18);
        refused("kernel(4)", some -> some.kernel(4), BEYOND);
        refused("kernel(17)", some -> some.kernel(17), BEYOND);
        begin(19);
        refused("wu(2)", some -> some.wu(2), BEYOND);
        refused("wu(-1)", some -> some.wu(-1), BEYOND);
        begin(20);
        refused("mu()", some -> some.mu(), STATE);
    }

    private static void chains() {
        begin(21);
        refused("fraction(0, 7, 0)", some -> some.fraction(0, 7, 0), BEYOND);
        refused("part 2 ahead of NONE", some -> some.fraction(0, 3, 2), BEYOND);
        refused("of two TREES", some -> some.fraction(0, 3, 0), NONE);
        refused("of two TREES", some -> some.fraction(4, 2, 1), NONE);
        begin(21, woods(line(30, 30, 30, 30, 30, 30, 30, 30), 2));
        refused("above", some -> some.fraction(0, 7, 0), OVER);
        refused("below", some -> some.fraction(0, 7, 1), OVER);
        refused("part 2 ahead of OVER", some -> some.fraction(0, 7, 2), BEYOND);
        begin(22, woods("(30(1)(1)(30(30(30(30(30(30(30))))))))(5)", 2));
        refused("room(11, 0)", some -> some.room(11, 0), BEYOND);
        refused("what 2 ahead of STATE", some -> some.room(0, 2), BEYOND);
        refused("no LINE ahead of OVER", some -> some.room(0, 0), STATE);
        refused("no LINE, m", some -> some.room(5, 1), STATE);
        begin(22, woods(line(30, 30, 30, 30, 30, 30, 30), 2));
        refused("n", some -> some.room(6, 0), OVER);
        refused("m", some -> some.room(6, 1), OVER);
        refused("what -1 ahead of OVER", some -> some.room(6, -1), BEYOND);
        begin(23, woods("(2(1)(1)(1))" + line(30, 30, 30, 30, 30, 30, 30), 2));
        refused("oneRoom(0, 11)", some -> some.oneRoom(0, 11), BEYOND);
        refused("oneRoom(-1, 4)", some -> some.oneRoom(-1, 4), BEYOND);
        refused("the first is no LINE", some -> some.oneRoom(0, 4), STATE);
        refused("the second is no LINE", some -> some.oneRoom(4, 0), STATE);
        refused("n of either", some -> some.oneRoom(4, 5), OVER);
        begin(24);
        refused("n 1", some -> some.chain(1, 1, 0), BEYOND);
        refused("n 1000", some -> some.chain(1000, 1, 0), BEYOND);
        refused("m 0", some -> some.chain(5, 0, 0), BEYOND);
        refused("m 5", some -> some.chain(5, 5, 0), BEYOND);
        refused("i -2 ahead of STATE", some -> some.chain(6, 4, -2), BEYOND);
        refused("a common divisor, ahead of NONE", some -> some.chain(6, 4, 900), STATE);
        refused("no such number", some -> some.chain(5, 4, 4), NONE);
        begin(25);
        refused("n 1", some -> some.plant(1, 1), BEYOND);
        refused("m 0", some -> some.plant(5, 0), BEYOND);
        refused("n 1000, ahead of FULL", some -> some.plant(1000, 999), BEYOND);
        refused("a common divisor, ahead of FULL", some -> some.plant(998, 996), STATE);
        refused("a common divisor, ahead of OVER", some -> some.plant(998, 2), STATE);
        refused("six", some -> some.plant(7, 6), FULL);
        refused("five 2 and a 40, ahead of OVER", some -> some.plant(235, 196), FULL);
        refused("-31", some -> some.plant(31, 1), OVER);
        refused("four 2 and a 40", some -> some.plant(196, 157), OVER);
    }

    private static void textsAndShelves() {
        begin(26);
        refused("n 0", some -> some.feed(40, 0), BEYOND);
        refused("n 9", some -> some.feed(40, 9), BEYOND);
        begin(26, some -> feedAll(some, " ".repeat(108)));
        refused("8 to 114", some -> some.feed(40, 8), FULL);
        refused("7 to 114", some -> some.feed(40, 7), FULL);
        refused("9 ahead of FULL", some -> some.feed(40, 9), BEYOND);
        begin(28);
        refused("i -2", some -> some.least(-2), BEYOND);
        refused("i 60", some -> some.least(60), NONE);
        begin(29);
        refused("keep(4)", some -> some.keep(4), BEYOND);
        refused("keep(-1)", some -> some.keep(-1), BEYOND);
        begin(30);
        refused("fetch(4)", some -> some.fetch(4), BEYOND);
        refused("fetch(-1)", some -> some.fetch(-1), BEYOND);
        refused("fetch(1)", some -> some.fetch(1), MISSING);
        begin(31);
        refused("drop(4)", some -> some.drop(4), BEYOND);
        refused("drop(-1)", some -> some.drop(-1), BEYOND);
        begin(32);
        refused("alike(4)", some -> some.alike(4), BEYOND);
        refused("alike(-1)", some -> some.alike(-1), BEYOND);
        refused("alike(3)", some -> some.alike(3), MISSING);
    }

    private static void workers() {
        begin(33);
        refused("KIND 6", some -> some.worker(6, 0), BEYOND);
        refused("m 10", some -> some.worker(0, 10), BEYOND);
        begin(33, some -> {
            for (int i = 0; i < 4; i++) {
                some.worker(i, i);
            }
        });
        refused("a seventh", some -> some.worker(0, 0), FULL);
        refused("KIND -1 ahead of FULL", some -> some.worker(-1, 0), BEYOND);
        refused("m -1 ahead of FULL", some -> some.worker(0, -1), BEYOND);
        begin(34);
        refused("worker 2", some -> some.workerIs(2, 0), BEYOND);
        refused("what 4", some -> some.workerIs(0, 4), BEYOND);
        begin(35);
        refused("worker 2", some -> some.become(2, 0), BEYOND);
        refused("KIND 6", some -> some.become(0, 6), BEYOND);
        refused("KIND -1", some -> some.become(0, -1), BEYOND);
        begin(36);
        refused("worker -1", some -> some.as(-1, 0), BEYOND);
        refused("KIND 6", some -> some.as(0, 6), BEYOND);
        refused("SPLITTER as BOTH", some -> some.as(0, 1), KIND);
        refused("BOTH as LATE", some -> some.as(1, 3), KIND);
        begin(37);
        refused("worker 2", some -> some.next(2, 0), BEYOND);
        refused("what 2", some -> some.next(0, 2), BEYOND);
        begin(37, woods("(5)(6)", 2));
        refused("none", some -> some.next(0, 0), NONE);
        refused("none", some -> some.next(1, 1), NONE);
        refused("what 2 ahead of NONE", some -> some.next(0, 2), BEYOND);
        begin(38);
        refused("worker 2", some -> some.work(2, 1), BEYOND);
        refused("n 0", some -> some.work(0, 0), BEYOND);
        refused("n 13", some -> some.work(0, 13), BEYOND);
        begin(38, woods("(-1)(1)(1)(1)", 38));
        refused("3 behind 38", some -> some.work(0, 3), FULL);
        refused("12 behind 38", some -> some.work(1, 12), FULL);
        refused("13 ahead of FULL", some -> some.work(0, 13), BEYOND);
        refused("worker 2 ahead of FULL", some -> some.work(2, 12), BEYOND);
        begin(38, woods("(9)", 40));
        refused("1 behind 40, with none NEXT", some -> some.work(0, 1), FULL);
        begin(39);
        refused("worker 2", some -> some.rest(2, 0), BEYOND);
        refused("what 3", some -> some.rest(0, 3), BEYOND);
        begin(40);
        refused("m 10", some -> some.best(10), BEYOND);
        refused("m -1", some -> some.best(-1), BEYOND);
        begin(41);
        refused("n 5", some -> some.fewest(5, 0), BEYOND);
        refused("what 3", some -> some.fewest(0, 3), BEYOND);
        begin(42);
        refused("shelf 4", some -> some.reach(4, 0), BEYOND);
        refused("n 4", some -> some.reach(0, 4), BEYOND);
        refused("n 4 ahead of MISSING", some -> some.reach(1, 4), BEYOND);
        refused("shelf 1", some -> some.reach(1, 3), MISSING);
        refused("not by 3", some -> some.reach(0, 3), NONE);
        refused("not by 0", some -> some.reach(2, 0), NONE);
    }

    private static void sheets() {
        begin(43);
        refused("sheet 4", some -> some.sheet(4, 8, 1), BEYOND);
        refused("sheet -1, bits 0", some -> some.sheet(-1, 0, 1), BEYOND);
        refused("bits 9 ahead of STATE", some -> some.sheet(0, 9, -1), BEYOND);
        refused("n -1", some -> some.sheet(0, 8, -1), STATE);
        refused("n 25", some -> some.sheet(0, 8, 25), BEYOND);
        begin(44);
        refused("sheet 4", some -> some.put(4, 0, 1), BEYOND);
        refused("sheet 3, ahead of BEYOND", some -> some.put(3, 99, 1), MISSING);
        refused("i 3", some -> some.put(0, 3, 1), BEYOND);
        refused("i -1", some -> some.put(0, -1, 1), BEYOND);
        begin(45);
        refused("sheet 4", some -> some.number(4, 0), BEYOND);
        refused("sheet 3, ahead of BEYOND", some -> some.number(3, 99), MISSING);
        refused("i 3", some -> some.number(0, 3), BEYOND);
        refused("i -1", some -> some.number(0, -1), BEYOND);
        begin(46);
        refused("sheet 4 ahead of MISSING", some -> some.copy(4, 0, 3, 0, 1), BEYOND);
        refused("other -1 ahead of MISSING", some -> some.copy(3, 0, -1, 0, 1), BEYOND);
        refused("sheet 3, ahead of BEYOND", some -> some.copy(3, 0, 0, 0, -1), MISSING);
        refused("other 3, ahead of BEYOND", some -> some.copy(0, 0, 3, 0, -1), MISSING);
        refused("8 and 16 bits, ahead of BEYOND", some -> some.copy(0, 0, 1, 0, -1), KIND);
        refused("n -1", some -> some.copy(0, 0, 2, 0, -1), BEYOND);
        refused("i -1", some -> some.copy(0, -1, 2, 0, 1), BEYOND);
        refused("j -1", some -> some.copy(0, 0, 2, -1, 1), BEYOND);
        refused("more than one has", some -> some.copy(2, 0, 0, 0, 3), BEYOND);
        refused("more than the other has", some -> some.copy(0, 0, 2, 0, 3), BEYOND);
        refused("from too far", some -> some.copy(0, 2, 2, 0, 2), BEYOND);
        refused("too far", some -> some.copy(0, 0, 2, 1, 2), BEYOND);
        begin(47);
        refused("sheet 4", some -> some.weighAll(4), BEYOND);
        refused("sheet 3", some -> some.weighAll(3), MISSING);
        begin(48);
        refused("sheet -1", some -> some.book(-1), BEYOND);
        refused("sheet 3", some -> some.book(3), MISSING);
        begin(49);
        refused("sheet 4", some -> some.plays(4, 0), BEYOND);
        refused("what 2 ahead of MISSING", some -> some.plays(3, 2), BEYOND);
        refused("what -1", some -> some.plays(0, -1), BEYOND);
        refused("sheet 3", some -> some.plays(3, 0), MISSING);
        promise = 51;
        life = some -> {
            read(some, "(5(6))");
            some.worker(1, 1);
            mirrors(some, 3);
            some.undo();
        };
        refused("no IMAGE", some -> some.restore(), NONE);
        begin(52);
        refused("what 10", some -> some.count(10), BEYOND);
        refused("what -1", some -> some.count(-1), BEYOND);
        begin(53);
        refused("k 0", some -> some.told(0), BEYOND);
        refused("k 8", some -> some.told(8), BEYOND);
    }

    /** That each ERROR which a promise names has been tried. */
    private static void allAreTried() throws IOException {
        String document = Files.readString(Path.of("../shared/DOC.md"));
        Matcher promises = Pattern.compile("(?m)^## Promise (\\d+): .*\\n\\n(.*)$").matcher(document);
        Set<String> named = new TreeSet<>(Set.of("9 BEYOND", "9 STATE", "9 OVER"));
        int many = 0;
        while (promises.find()) {
            many++;
            Matcher errors = Pattern.compile("[.;:] (BEYOND|NONE|STATE|FULL|OVER|KIND|MISSING)\\b(?! MOVE)")
                    .matcher(promises.group(2));
            while (errors.find()) {
                named.add(promises.group(1) + " " + errors.group(1));
            }
        }
        promise = 0;
        due("promises", many, 53);
        due("ERRORS that are named", named.size(), 88);
        for (String error : named) {
            due("is " + error + " tried", TRIED.contains(error) ? 1 : 0, 1);
        }
    }

    public static void main(String[] args) throws IOException {
        byHand();
        moves();
        tables();
        chains();
        textsAndShelves();
        workers();
        sheets();
        allAreTried();
        close();
    }
}
