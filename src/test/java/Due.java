/** What the tests of promises share: an object, calls on it, and what is due. */
class Due {
    static final int BEYOND = -1100000001;
    static final int NONE = -1100000002;
    static final int STATE = -1100000003;
    static final int FULL = -1100000004;
    static final int OVER = -1100000005;
    static final int KIND = -1100000006;
    static final int MISSING = -1100000007;
    static final int MIN = Integer.MIN_VALUE;
    static final int MAX = Integer.MAX_VALUE;

    static int wrong;
    static int asked;
    static int promise;
    static RoomTrees x;

    static void due(String call, int got, int want) {
        asked++;
        if (got != want) {
            wrong++;
            System.out.println("promise " + promise + ": " + call + " answered " + got + ", due is " + want);
        }
    }

    static void start(int number) {
        promise = number;
        x = new RoomTrees();
    }

    static void feedAll(String text) {
        for (int i = 0; i < text.length(); i++) {
            x.feed(text.charAt(i), 1);
        }
    }

    static int read(String text) {
        feedAll(text);
        return x.forest();
    }

    static void fault(String text, int place) {
        due("forest() of '" + text + "'", read(text), -10 - place);
        due("count(7) behind '" + text + "'", x.count(7), 0);
    }

    static String least() {
        StringBuilder text = new StringBuilder();
        int n = x.least(-1);
        for (int i = 0; i < n; i++) {
            text.append((char) x.least(i));
        }
        return text.toString();
    }

    static void isText(String what, String got, String want) {
        asked++;
        if (!got.equals(want)) {
            wrong++;
            System.out.println("promise " + promise + ": " + what + " is " + got + ", due is " + want);
        }
    }

    static void edge(int p, int q) {
        due("edge " + p + " " + q, x.table(p, q), 1);
        due("edge " + q + " " + p, x.table(q, p), 1);
    }

    static void weights(int... due) {
        for (int p = 0; p < due.length; p++) {
            due("at(" + p + ", 0)", x.at(p, 0), due[p] == 99 ? BEYOND : due[p]);
        }
    }

    /** Whatever changes THE FOREST by hand empties THE TRAIL; what is refused does not. */
    static void trailIs(int done, int back) {
        due("count(4)", x.count(4), done);
        due("count(5)", x.count(5), back);
    }

    static void twoMovesAndOneBack() {
        x.move(6, 0, 0, 0, 0);
        x.move(6, 0, 0, 0, 0);
        x.undo();
        trailIs(1, 1);
    }

    static void close() {
        System.out.println(wrong == 0 ? "all " + asked + " answers are as due" : wrong + " answers are not as due");
        if (wrong != 0) {
            System.exit(1);
        }
    }
}
