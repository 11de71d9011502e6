import java.io.IOException;
import java.nio.file.Files;
import java.nio.file.Path;

/** What the tests of the document's sentences share: the words that a test is of, and what an object shows of itself. */
class Sentence extends Due {
    private static final Path DOCUMENT = Path.of("../shared/DOC.md");
    private static final String WORDS = document();

    interface Life {
        void of(RoomTrees some);
    }

    interface Call {
        int on(RoomTrees some);
    }

    private static String document() {
        try {
            return Files.readString(DOCUMENT).replaceAll("\\s+", " ");
        } catch (IOException e) {
            throw new IllegalStateException(e);
        }
    }

    /** A test of words that stand in the document, on a new object x; number 0 is what stands ahead of the promises. */
    static void says(int number, String words, Runnable test) {
        start(number);
        if (!WORDS.contains(words)) {
            wrong++;
            System.out.println("promise " + number + ": the document doesn't say '" + words + "'");
        }
        int before = asked;
        test.run();
        if (asked == before) {
            wrong++;
            System.out.println("promise " + number + ": nothing is asked of '" + words + "'");
        }
    }

    /** What a call answers, on an object of its own that has lived so. */
    static void due(String what, Life life, Call call, int want) {
        RoomTrees one = new RoomTrees();
        life.of(one);
        due(what, call.on(one), want);
    }

    static void feedAll(RoomTrees some, String text) {
        for (int i = 0; i < text.length(); i++) {
            some.feed(text.charAt(i), 1);
        }
    }

    static void read(RoomTrees some, String text) {
        feedAll(some, text);
        some.forest();
    }

    static void mirrors(RoomTrees some, int n) {
        for (int i = 0; i < n; i++) {
            some.move(6, 0, 0, 0, 0);
        }
    }

    static String line(int... weights) {
        StringBuilder text = new StringBuilder();
        for (int w : weights) {
            text.append('(').append(w);
        }
        for (int i = 0; i < weights.length; i++) {
            text.append(')');
        }
        return text.toString();
    }

    static String alone(int... weights) {
        StringBuilder text = new StringBuilder();
        for (int w : weights) {
            text.append('(').append(w).append(')');
        }
        return text.toString();
    }

    /** A life of which each part of the object has something. */
    static void full(RoomTrees some) {
        read(some, "(2(0(3))(-1))(1)");
        some.keep(0);
        some.worker(2, 0);
        some.worker(1, 3);
        some.work(1, 1);
        some.vertex(4);
        some.image();
        some.sheet(0, 8, 3);
        some.put(0, 0, 5);
        some.put(0, 1, -7);
        some.put(0, 2, 30);
        some.sheet(1, 16, 2);
        some.put(1, 0, 300);
        some.sheet(2, 8, 2);
        some.put(2, 1, 9);
        some.vertex(-1);
        some.keep(2);
        some.become(0, 4);
        some.move(3, 0, 0, 1, 0);
        some.move(6, 0, 0, 0, 0);
        some.move(2, 3, 0, 1, 0);
        some.move(7, 0, 0, 2, 2);
        some.undo();
        some.undo();
        feedAll(some, "(7(8))");
    }

    private static void showForest(RoomTrees some, StringBuilder text) {
        for (int p = 0; p < 12; p++) {
            text.append(some.at(p, 0)).append(':').append(some.at(p, 2)).append(' ');
        }
    }

    private static void showWorkers(RoomTrees some, StringBuilder text) {
        for (int i = 0; i < some.count(6); i++) {
            for (int what = 0; what < 3; what++) {
                text.append(some.workerIs(i, what)).append(' ');
            }
        }
        text.append("| ");
    }

    private static void showTrail(RoomTrees some, StringBuilder text) {
        int done = some.count(4);
        int back = some.count(5);
        text.append(done).append('+').append(back).append(' ').append(some.factor()).append(' ');
        for (int i = 0; i < done; i++) {
            for (int what = 0; what < (done > 10 ? 1 : 5); what++) {
                text.append(some.trail(i, what)).append(' ');
            }
        }
        for (int i = 0; i < back; i++) {
            text.append(some.redo()).append(' ');
            showForest(some, text);
        }
        for (int i = 0; i < done + back; i++) {
            text.append(some.undo()).append(' ').append(some.count(3)).append(' ');
        }
        text.append(some.undo()).append("| ");
    }

    /** All that an object shows of itself but what told() tells; it is used up by that. */
    static String shown(RoomTrees some) {
        StringBuilder text = new StringBuilder();
        for (int what = 0; what < 10; what++) {
            text.append(some.count(what)).append(' ');
        }
        showForest(some, text);
        showWorkers(some, text);
        for (int sheet = 0; sheet < 4; sheet++) {
            for (int i = 0; i < 4; i++) {
                text.append(some.number(sheet, i)).append(' ');
            }
        }
        showTrail(some, text);
        text.append(some.forest()).append(' ');
        showForest(some, text);
        text.append(some.restore()).append(' ');
        showForest(some, text);
        showWorkers(some, text);
        for (int shelf = 0; shelf < 4; shelf++) {
            text.append(some.fetch(shelf)).append(' ');
            if (some.drop(shelf) == 1) {
                showForest(some, text);
            }
        }
        return text.toString();
    }

    static int[] toldBy(RoomTrees some) {
        int[] told = new int[8];
        for (int k = 1; k <= 7; k++) {
            told[k] = some.told(k);
        }
        return told;
    }

    /** A call leaves an object as another one is that has lived just so, without the call; error 0: it answers none. */
    static void leaves(String what, Life life, Call call, int error) {
        RoomTrees one = new RoomTrees();
        RoomTrees other = new RoomTrees();
        life.of(one);
        life.of(other);
        int got = call.on(one);
        asked++;
        int[] told = toldBy(one);
        int[] toldOther = toldBy(other);
        if (error != 0) {
            toldOther[-1100000000 - error]++;
        }
        String shown = shown(one);
        String shownOther = shown(other);
        boolean good = error == 0 ? got >= -1100000000 : got == error;
        if (!good || !java.util.Arrays.equals(told, toldOther) || !shown.equals(shownOther)) {
            wrong++;
            System.out.println("promise " + promise + ": " + what + " answered " + got + ", due is "
                    + (error == 0 ? "no ERROR" : error));
            System.out.println("  it told " + java.util.Arrays.toString(told) + ", due is "
                    + java.util.Arrays.toString(toldOther));
            System.out.println("  shown:  " + shown);
            System.out.println("  due is: " + shownOther);
        }
    }
}
