/** Every kind of call that is refused: what it answers, and that it leaves all as it was. */
public final class RefusedTest {
    private static final int NONE = LeftSkate.NONE;
    private static final int LEAST = Integer.MIN_VALUE;
    private static final int GREATEST = Integer.MAX_VALUE;
    private static final Due due = new Due("RefusedTest");

    public static void main(String[] args) {
        basin();
        skater();
        set();
        feed();
        end();
        minutes();
        undoAndImage();
        whatIs();
        whatIsRead();
        goesWantsSpoilt();
        routeAndSoonest();
        letters();
        partsYetHeard();
        bookAndLook();
        due.end();
    }

    private interface Call {
        long on(LeftSkate x);
    }

    /** Some of all there is, in a basin whose cells, boxes, skaters, letters and wants end somewhere. */
    private static LeftSkate furnished() {
        LeftSkate x = new LeftSkate();
        x.basin(5, 4);
        x.skater(2, 0);
        x.skater(7, 20);
        Due.tell(x, 0, "skater 0 east 6 lift;skater 1 lift west 1 down west 9;");
        Due.tell(x, 1, "cut 3 when crossed=0;thaw 1 when depth>7;");
        Due.tell(x, 2, "letter 0 3 0;letter 7 0 0;letter 3 0 0;");
        Due.tell(x, 3, "want 1 at 0;want 0 at 10;");
        x.state(12345);
        x.set(0, 0, 2);
        x.set(1, 0, 100);
        x.set(2, 27, 8);
        x.minutes(3);
        Due.tell(x, 3, "want 9");
        Due.feed(x, "letter 7 0 7;rest");
        return x;
    }

    private static void refused(String name, long answer, Call call) {
        LeftSkate x = furnished();
        Snapshot was = Snapshot.of(x);
        due.is(name, call.on(x), answer);
        due.same(name, was, Snapshot.of(x));
        due.is(name + ": what can be undone", x.undo(), true);
        due.is(name + ": no more on the tape", x.end(18), false);
        due.is(name + ": as much on the tape", x.end(13), true);
        due.is(name + ": the tape", x.text(2), 1);
        due.is(name + ": its letter", x.letter(0), 7 + 7 * 64);
        due.is(name + ": no image", x.image(false), false);
    }

    private static long of(boolean answer) {
        return answer ? 1 : 0;
    }

    // 3: "false, and nothing is done, if they can't be"
    private static void basin() {
        int[][] wrong = {{2, 4}, {9, 4}, {5, 2}, {5, 8}, {2, 8}, {9, 2}, {0, 0}, {-5, 4}, {LEAST, 4}, {5, GREATEST}};
        for (int[] size : wrong) {
            refused("basin(" + size[0] + ", " + size[1] + ")", 0, x -> of(x.basin(size[0], size[1])));
        }
    }

    // 4: "NONE if one can't be, or there are six"
    private static void skater() {
        int[][] wrong = {{-1, 0}, {10, 0}, {LEAST, 0}, {GREATEST, 0}, {0, -1}, {0, 5}, {0, 7}, {0, 29}, {0, 32}, {0, 64}, {0, LEAST}, {0, GREATEST}};
        for (int[] one : wrong) {
            refused("skater(" + one[0] + ", " + one[1] + ")", NONE, x -> x.skater(one[0], one[1]));
        }
        LeftSkate x = furnished();
        for (int s = 2; s < 6; s++) {
            due.is("skater " + s, x.skater(9, 8), s);
        }
        x.minutes(1);
        Snapshot was = Snapshot.of(x);
        due.is("a seventh", x.skater(9, 8), NONE);
        due.same("a seventh", was, Snapshot.of(x));
        due.is("a seventh: what can be undone", x.undo(), true);
    }

    // 5: "false if one can't be, or another what"
    private static void set() {
        int[][] wrong = {{0, 0, 0}, {0, 0, 10}, {0, 0, LEAST}, {0, 0, GREATEST}, {1, 0, -1}, {1, 0, 1001}, {1, 0, LEAST}, {1, 0, GREATEST},
            {2, 0, -1}, {2, 0, 10}, {2, -1, 0}, {2, 5, 0}, {2, 32, 0}, {2, LEAST, 0}, {2, GREATEST, 0},
            {3, -1, 0}, {3, 2, 0}, {3, LEAST, 0}, {3, GREATEST, 0}, {3, 0, -1}, {3, 0, 5}, {3, 0, 32}, {3, 0, LEAST}, {3, 0, GREATEST},
            {-1, 0, 1}, {4, 0, 1}, {LEAST, 0, 1}, {GREATEST, 0, 1}};
        for (int[] a : wrong) {
            refused("set(" + a[0] + ", " + a[1] + ", " + a[2] + ")", 0, x -> of(x.set(a[0], a[1], a[2])));
        }
    }

    // 6: "NONE, and nothing comes, if there would be more than 400"
    private static void feed() {
        LeftSkate x = furnished();
        for (int i = 0; i < 19; i++) {
            due.is("feed", x.feed(0x20202020, 0x20202020, 0x20202020, 0x20202020, 0x20202020), 17 + 20 * (i + 1));
        }
        Snapshot was = Snapshot.of(x);
        due.is("feed behind 397", x.feed(-1, -1, -1, -1, -1), NONE);
        due.same("feed behind 397", was, Snapshot.of(x));
        due.is("feed behind 397: no more", x.end(398), false);
        due.is("feed behind 397: as many", x.end(397), true);
        due.is("feed: the fault behind them", x.text(2), NONE);
        due.is("feed: its place", x.fault(1), 13);
    }

    // 7: "false, changing nothing, if it has not so many, or n is below 0"
    private static void end() {
        int[] wrong = {18, 20, 400, 401, GREATEST, -1, LEAST};
        for (int n : wrong) {
            refused("end(" + n + ")", 0, x -> of(x.end(n)));
        }
    }

    // 10: "NONE, and nothing is done, if one can't be"
    private static void minutes() {
        int[] wrong = {0, 61, 9999, -1, LEAST, GREATEST};
        for (int n : wrong) {
            refused("minutes(" + n + ")", NONE, x -> x.minutes(n));
        }
    }

    // 30, 31: "false if there is nothing", "false if there is none"
    private static void undoAndImage() {
        refused("image(false)", 0, x -> of(x.image(false)));
        LeftSkate x = furnished();
        x.state(5);
        Snapshot was = Snapshot.of(x);
        due.is("undo()", x.undo(), false);
        due.same("undo()", was, Snapshot.of(x));
    }

    // 11, 12, 13: "NONE - 1 if there is none such, or another what"; "NONE if there is none such"
    private static void whatIs() {
        int[][] noOf = {{2, 0}, {-1, 0}, {6, 0}, {LEAST, 0}, {GREATEST, 0}, {0, -1}, {0, 6}, {0, LEAST}, {0, GREATEST}, {2, 6}};
        for (int[] a : noOf) {
            refused("of(" + a[0] + ", " + a[1] + ")", NONE - 1, x -> x.of(a[0], a[1]));
        }
        int[][] noAt = {{5, 0}, {32, 0}, {-1, 0}, {64, 0}, {LEAST, 0}, {GREATEST, 0}, {0, -1}, {0, 5}, {0, LEAST}, {0, GREATEST}, {5, 5}};
        for (int[] a : noAt) {
            refused("at(" + a[0] + ", " + a[1] + ")", NONE - 1, x -> x.at(a[0], a[1]));
        }
        int[][] noCut = {{2, 0}, {-1, 0}, {LEAST, 0}, {GREATEST, 0}, {0, 5}, {0, 32}, {0, -1}, {0, 64}, {0, LEAST}, {0, GREATEST}, {2, 5}};
        for (int[] a : noCut) {
            refused("cut(" + a[0] + ", " + a[1] + ")", NONE, x -> x.cut(a[0], a[1]));
        }
    }

    // 14, 15, 17, 23, 25
    private static void whatIsRead() {
        int[] noLetters = {3, -1, LEAST, GREATEST};
        for (int i : noLetters) {
            refused("letter(" + i + ")", NONE, x -> x.letter(i));
            refused("beneath(" + i + ", 0)", NONE, x -> x.beneath(i, 0));
        }
        int[][] noWants = {{2, 0}, {-1, 0}, {LEAST, 0}, {GREATEST, 0}, {0, 3}, {0, -1}, {0, LEAST}, {0, GREATEST}};
        for (int[] a : noWants) {
            refused("want(" + a[0] + ", " + a[1] + ")", NONE, x -> x.want(a[0], a[1]));
        }
        int[] noBoxes = {3, 11, 16, 18, -1, 64, LEAST, GREATEST};
        for (int cell : noBoxes) {
            refused("read(" + cell + ")", NONE - 1, x -> x.read(cell));
            refused("who(" + cell + ", 0)", NONE - 1, x -> x.who(cell, 0));
            refused("who(" + cell + ", 1)", NONE - 1, x -> x.who(cell, 1));
            refused("beneath(0, " + cell + ")", NONE, x -> x.beneath(0, cell));
        }
        int[] noWhats = {-1, 2, LEAST, GREATEST};
        for (int what : noWhats) {
            refused("who(0, " + what + ")", NONE - 1, x -> x.who(0, what));
        }
    }

    // 18, 19, 20
    private static void goesWantsSpoilt() {
        int[] wrong = {-1, 100, LEAST, GREATEST};
        for (int n : wrong) {
            refused("goes(" + n + ")", NONE, x -> x.goes(n));
            refused("wants(" + n + ")", NONE, x -> x.wants(n));
        }
        int[] noWhats = {-1, 2, LEAST, GREATEST};
        for (int what : noWhats) {
            refused("spoilt(" + what + ")", NONE, x -> x.spoilt(what));
        }
    }

    // 21, 22: "NONE if one can't be (more than 9, others than CELLS), or another what"
    private static void routeAndSoonest() {
        long ten = 0x1f1f;
        long[] wrong = {ten, 1L << 5, 1L << 32, 1L << 63, -1L, 1L | 1L << 29};
        for (long cells : wrong) {
            refused("route(0, " + cells + ", 0)", NONE, x -> x.route(0, cells, 0));
            refused("soonest(" + cells + ", 0)", NONE, x -> x.soonest(cells, 0));
            refused("route(0, " + cells + ", 10)", NONE, x -> x.route(0, cells, 10));
            refused("soonest(" + cells + ", 10)", NONE, x -> x.soonest(cells, 10));
        }
        int[] nobody = {2, -1, LEAST, GREATEST};
        for (int s : nobody) {
            refused("route(" + s + ", 1, 0)", NONE, x -> x.route(s, 1L, 0));
        }
        int[] noWhats = {-1, 1, 9, 12, 19, LEAST, GREATEST};
        for (int what : noWhats) {
            refused("route(0, 3, " + what + ")", NONE, x -> x.route(0, 3L, what));
            refused("soonest(3, " + what + ")", NONE, x -> x.soonest(3L, what));
        }
    }

    // 24, 26
    private static void letters() {
        int[] noSets = {0, 1, 4, 8, 9, 15, -1, LEAST, GREATEST, LEAST + 3};
        for (int set : noSets) {
            refused("lookAt(" + set + ")", NONE, x -> x.lookAt(set));
        }
        int[][] noHolds = {{0, 0}, {10, 0}, {-1, 0}, {LEAST, 0}, {GREATEST, 0}, {1, -1}, {1, 2}, {1, LEAST}, {1, GREATEST}, {0, 1}, {10, 1}};
        for (int[] a : noHolds) {
            refused("holds(" + a[0] + ", " + a[1] + ")", NONE, x -> x.holds(a[0], a[1]));
        }
    }

    // 27, 28, 29
    private static void partsYetHeard() {
        int[][] noParts = {{0, 0}, {0, 1}, {1, 0}, {0, 8}, {8, 0}, {0, 5}, {5, 0}, {0, 32}, {-1, 0}, {0, -1}, {LEAST, 0}, {0, GREATEST}, {5, 7}};
        for (int[] a : noParts) {
            refused("parts(" + a[0] + ", " + a[1] + ")", NONE, x -> x.parts(a[0], a[1]));
        }
        int[][] noYet = {{5, 1, 0}, {32, 1, 0}, {-1, 1, 0}, {LEAST, 1, 0}, {GREATEST, 1, 0}, {0, 0, 0}, {0, 100, 0}, {0, LEAST, 0}, {0, GREATEST, 0},
            {0, 1, -1}, {0, 1, 1001}, {0, 1, LEAST}, {0, 1, GREATEST}};
        for (int[] a : noYet) {
            refused("yet(" + a[0] + ", " + a[1] + ", " + a[2] + ")", NONE, x -> x.yet(a[0], a[1], a[2]));
        }
        int[][] noHeard = {{2, 0}, {-1, 0}, {LEAST, 0}, {GREATEST, 0}, {0, -1}, {0, 10}, {0, LEAST}, {0, GREATEST}};
        for (int[] a : noHeard) {
            refused("heard(" + a[0] + ", " + a[1] + ")", NONE, x -> x.heard(a[0], a[1]));
        }
    }

    // 9, 16, 32
    private static void bookAndLook() {
        int lines = furnished().look(6);
        int[][] noBook = {{lines, 0}, {-1, 0}, {150, 0}, {LEAST, 0}, {GREATEST, 0}, {0, -1}, {0, 5}, {0, LEAST}, {0, GREATEST}};
        for (int[] a : noBook) {
            refused("book(" + a[0] + ", " + a[1] + ")", NONE, x -> x.book(a[0], a[1]));
        }
        int[] noLooks = {-1, 14, LEAST, GREATEST};
        for (int what : noLooks) {
            refused("look(" + what + ")", NONE, x -> x.look(what));
        }
        int[] noFaults = {-1, 2, LEAST, GREATEST};
        for (int what : noFaults) {
            refused("fault(" + what + ")", NONE, x -> x.fault(what));
        }
    }
}
