/** Each promise of the document by hand: ordinary calls, the edges that it names, and wrong ones. */
public final class PromiseTest {
    private static final int NONE = LeftSkate.NONE;
    private static final Due due = new Due("PromiseTest");

    public static void main(String[] args) {
        aNewObject();
        state();
        basin();
        skater();
        set();
        feedAndEnd();
        textAndFault();
        textsThatReplace();
        minutes();
        falls();
        of();
        crossed();
        at();
        cut();
        law();
        thaw();
        letterAndWant();
        book();
        bookIsFull();
        read();
        goesAndWants();
        spoilt();
        route();
        soonest();
        beneath();
        lookAt();
        who();
        holds();
        parts();
        yet();
        heard();
        undo();
        undoForgets();
        image();
        look();
        due.end();
    }

    private static LeftSkate made(int w, int h) {
        LeftSkate x = new LeftSkate();
        x.basin(w, h);
        return x;
    }

    private static long set(int... cells) {
        long set = 0;
        for (int c : cells) {
            set |= 1L << c;
        }
        return set;
    }

    /** The depths of a box are made so that its shape is seen by a sight of 1. */
    private static void show(LeftSkate x, int box, int shape) {
        for (int i = 0; i < 9; i++) {
            x.set(2, box + i / 3 * 8 + i % 3, shape >> i & 1);
        }
    }

    // ---- 1
    private static void aNewObject() {
        LeftSkate x = new LeftSkate();
        int[] looks = {6, 6, 0, 0, 1, 0, 0, 0, 0, 0, 0, 0, 0, 0};
        for (int i = 0; i < looks.length; i++) {
            due.is("new: look(" + i + ")", x.look(i), looks[i]);
        }
        due.is("new: NONE", NONE, -1);
        due.is("new: at(45, 0)", x.at(45, 0), 0);
        due.is("new: at(45, 1)", x.at(45, 1), NONE);
        due.is("new: at(46, 0)", x.at(46, 0), NONE - 1);
        due.is("new: at(48, 0)", x.at(48, 0), NONE - 1);
        due.is("new: fault(0)", x.fault(0), 0);
        due.is("new: fault(1)", x.fault(1), NONE);
        due.is("new: of(0, 0)", x.of(0, 0), NONE - 1);
        due.is("new: undo()", x.undo(), false);
        due.is("new: image(false)", x.image(false), false);
        due.is("new: end(1)", x.end(1), false);
        due.is("new: end(0)", x.end(0), true);
    }

    // ---- 2
    private static void state() {
        LeftSkate x = new LeftSkate();
        due.is("state", x.state(7), 0);
        due.is("state", x.state(-9), 7);
        due.is("state: look(7)", x.look(7), -9);
        due.is("state", x.state(Integer.MIN_VALUE), -9);
        due.is("state: look(7)", x.look(7), Integer.MIN_VALUE);
    }

    // ---- 3
    private static void basin() {
        LeftSkate x = new LeftSkate();
        int[][] wrong = {{2, 5}, {9, 5}, {5, 2}, {5, 8}, {-3, 3}, {Integer.MAX_VALUE, 3}};
        x.skater(1, 0);
        for (int[] size : wrong) {
            due.is("basin wrong", x.basin(size[0], size[1]), false);
        }
        due.is("basin: nothing done", x.look(3), 1);
        due.is("basin: nothing done", x.look(0), 6);
        x.state(5);
        x.set(0, 0, 3);
        x.set(1, 0, 9);
        x.set(2, 0, 4);
        Due.tell(x, 0, "skater 0 east 2;");
        Due.tell(x, 1, "cut 1;");
        Due.tell(x, 2, "letter 1 0 0;");
        Due.tell(x, 3, "want 0 at 0;");
        x.image(true);
        x.minutes(2);
        Due.tell(x, 0, "x");
        Due.feed(x, "letter 2 0 0;");
        due.is("basin(8, 3)", x.basin(8, 3), true);
        int state = x.look(7);
        int[] looks = {8, 3, 0, 0, 1, 0, 0, state, 0, 0, 0, 0, 0, 0};
        for (int i = 0; i < looks.length; i++) {
            due.is("basin: look(" + i + ")", x.look(i), looks[i]);
        }
        // 5 became two draws further
        due.is("basin: STATE", state, (5 * 1664525 + 1013904223) * 1664525 + 1013904223);
        due.is("basin: cell", x.at(23, 1), NONE);
        due.is("basin: no cell", x.at(24, 1), NONE - 1);
        due.is("basin: fault(0)", x.fault(0), 1);
        due.is("basin: fault(1)", x.fault(1), 0);
        due.is("basin: the tape", x.text(2), 1);
        due.is("basin: its letter", x.letter(0), 2);
        due.is("basin: no undo", x.undo(), false);
        due.is("basin: the image", x.image(false), true);
        due.is("basin: back", x.look(0), 6);
        due.is("basin: as told anew", x.basin(6, 6), true);
        due.is("basin: as at first", x.look(3), 0);
        due.is("basin(3, 7)", x.basin(3, 7), true);
        due.is("basin: cell", x.at(50, 0), 0);
        due.is("basin: no cell", x.at(51, 0), NONE - 1);
    }

    // ---- 4
    private static void skater() {
        LeftSkate x = made(5, 4);
        due.is("skater hand -1", x.skater(-1, 0), NONE);
        due.is("skater hand 10", x.skater(10, 0), NONE);
        due.is("skater cell 5", x.skater(1, 5), NONE);
        due.is("skater cell 32", x.skater(1, 32), NONE);
        due.is("skater cell -1", x.skater(1, -1), NONE);
        for (int i = 0; i < 6; i++) {
            due.is("skater", x.skater(i + 4, 28), i);
        }
        due.is("skater, a seventh", x.skater(1, 0), NONE);
        due.is("skater: look(3)", x.look(3), 6);
        due.is("skater: hand", x.of(5, 0), 9);
        LeftSkate y = made(5, 4);
        y.skater(0, 0);
        Due.tell(y, 0, "skater 0 east 3;");
        y.minutes(1);
        y.skater(1, 1);
        due.is("skater: ways stay", y.of(0, 2), 2);
        due.is("skater: ways stay, done", y.of(0, 3), 1);
        due.is("skater: told", y.look(8), 1);
        due.is("skater: no way", y.of(1, 2), 0);
        due.is("skater: skate down", y.of(1, 4), 1);
    }

    // ---- 5
    private static void set() {
        LeftSkate x = made(4, 4);
        x.skater(1, 0);
        int[][] good = {{0, -7, 1}, {0, 0, 9}, {1, 99, 0}, {1, 0, 1000}, {2, 27, 9}, {2, 0, 0}, {3, 0, 27}};
        int[][] wrong = {{0, 0, 0}, {0, 0, 10}, {1, 0, -1}, {1, 0, 1001}, {2, 4, 1}, {2, -1, 1}, {2, 0, 10}, {2, 0, -1},
            {3, 1, 0}, {3, -1, 0}, {3, 0, 4}, {3, 0, -1}, {4, 0, 1}, {-1, 0, 1}, {2, 32, 1}};
        for (int[] a : good) {
            due.is("set " + a[0] + " " + a[2], x.set(a[0], a[1], a[2]), true);
        }
        for (int[] a : wrong) {
            due.is("set wrong " + a[0] + " " + a[1] + " " + a[2], x.set(a[0], a[1], a[2]), false);
        }
        due.is("set: SIGHT", x.look(4), 9);
        due.is("set: FALLS", x.look(5), 1000);
        due.is("set: DEPTH", x.at(27, 0), 9);
        due.is("set: LATEST stays", x.at(27, 1), NONE);
        due.is("set: CELL", x.of(0, 1), 27);
        due.is("set: SEEN", x.look(13), 1);
    }

    // ---- 6, 7
    private static void feedAndEnd() {
        LeftSkate x = new LeftSkate();
        for (int i = 1; i <= 20; i++) {
            due.is("feed", x.feed(-1, 0, 1, 2, 3), 20 * i);
        }
        due.is("feed, the 401st byte", x.feed(0, 0, 0, 0, 0), NONE);
        due.is("end(401)", x.end(401), false);
        due.is("end(-1)", x.end(-1), false);
        due.is("end(min)", x.end(Integer.MIN_VALUE), false);
        due.is("end(400)", x.end(400), true);
        due.is("end(381)", x.end(381), true);
        due.is("feed, 401 of them", x.feed(0, 0, 0, 0, 0), NONE);
        due.is("end(382)", x.end(382), false);
        due.is("end(380)", x.end(380), true);
        due.is("feed again", x.feed(0, 0, 0, 0, 0), 400);
        due.is("end(0)", x.end(0), true);
        // of each number the highest byte comes first: "letter 1 2 3;"
        due.is("feed", x.feed(0x6c657474, 0x65722031, 0x20322033, 0x3b202020, 0x20202020), 20);
        due.is("feed: its text", x.text(2), 1);
        due.is("feed: its letter", x.letter(0), 1 + 2 * 8 + 3 * 64);
        due.is("feed: the tape is empty", x.end(1), false);
        Due.feed(x, "letter");
        Due.feed(x, " 7 0 0;rubbish");
        due.is("end(13)", x.end(13), true);
        due.is("end: its text", x.text(2), 1);
        due.is("end: its letter", x.letter(0), 7);
    }

    // ---- 8, 9
    private static void textAndFault() {
        LeftSkate x = new LeftSkate();
        x.skater(1, 0);
        x.skater(2, 9);
        due.lines(x, 0, "", 0);
        due.lines(x, 0, " \n skater\n0;skater1east3lift;", 2);
        due.lines(x, 0, "skater 01 rest 20 east 0020 west 20;", 1);
        due.fault(x, 0, "skater 0 east 3", 1, 15);
        due.fault(x, 0, "skater 0 \n ", 1, 11);
        due.fault(x, 0, "skater ;", 1, 7);
        due.fault(x, 0, "Skater 0;", 1, 0);
        due.fault(x, 0, "skaters 0;", 1, 0);
        due.fault(x, 0, "skaterz 0;", 1, 0);
        due.fault(x, 0, "skaterA 0;", 1, 0);
        due.fault(x, 0, "skaterZ 0;", 1, 0);
        due.fault(x, 0, "skater` 0;", 1, 6);
        due.fault(x, 0, "skater{ 0;", 1, 6);
        due.fault(x, 0, "skater@ 0;", 1, 6);
        due.fault(x, 0, "skater[ 0;", 1, 6);
        due.fault(x, 0, "skater 0 cut 1;", 1, 9);
        due.fault(x, 0, "skater 0 eastX 1;", 1, 9);
        due.fault(x, 0, "skater 0 east 00001;", 1, 14);
        due.fault(x, 0, "skater 0 3;", 1, 9);
        due.fault(x, 0, "skater 0 east -3;", 1, 14);
        due.fault(x, 0, "skater 0;;", 1, 9);
        due.fault(x, 0, "skater 0;\tskater 1;", 1, 9);
        due.fault(x, 0, "skater 0; \u00ff", 1, 10);
        due.fault(x, 0, "skater 2;", 2, 7);
        due.fault(x, 0, "skater 0 north 21;", 2, 15);
        due.fault(x, 0, "skater 0 north 0;", 2, 15);
        due.fault(x, 0, "skater 1;skater 0;skater 1;", 3, 25);
        due.fault(x, 0, "skater 0 rest 20 rest 20 rest 20 rest 1;", 4, 38);
        due.fault(x, 0, "skater 0 rest 20 rest 20 rest 20 rest 21;", 2, 38);
        due.fault(x, 0, "skater 0 lift down", 1, 18);
        due.fault(x, 0, "skater 0 lift 1;", 1, 14);
        due.fault(x, 0, "skater 0 rest 1;cut 1;", 1, 16);
        due.is("fault(2)", x.fault(2), NONE);
        due.is("fault(-1)", x.fault(-1), NONE);
        due.is("text(4)", x.text(4), NONE);
        due.is("text(4): fault", x.fault(0), 0);
        due.is("text(4): place", x.fault(1), NONE);
        due.is("text(-1)", Due.tell(x, -1, "skater 0;"), NONE);
        due.is("text(-1): the tape is empty", x.end(1), false);
        due.lines(x, 1, "cut depth+edge*minute-hand/2/3*4 when crossed<1 or around=2 and not(1>0 or not 2=2);thaw 9999;", 2);
        due.lines(x, 1, "cut 1 when((((((((1=1))))))));", 1);
        due.lines(x, 1, "cut 1 when not not not not not not not not 1=1 and not 1=2;", 1);
        due.fault(x, 1, "cut 1 when(((((((((1=1)))))))));", 3, 18);
        due.fault(x, 1, "cut 1 when not(not(not(not((1=1)))));", 3, 27);
        due.fault(x, 1, "cut 1 when 1=1 not 2=2;", 1, 15);
        due.fault(x, 1, "cut 1 when (1=1;", 1, 15);
        due.fault(x, 1, "cut 1 when (1);", 1, 13);
        due.fault(x, 1, "cut (1);", 1, 4);
        due.fault(x, 1, "cut 1 2;", 1, 6);
        due.fault(x, 1, "cut 1+;", 1, 6);
        due.fault(x, 1, "cut -1;", 1, 4);
        due.fault(x, 1, "cut 4/depth;", 1, 6);
        due.fault(x, 1, "cut 4/00;", 2, 6);
        due.fault(x, 1, "cut 4/2/0;", 2, 8);
        due.fault(x, 1, "cut 1 when 1<2<3;", 1, 14);
        due.fault(x, 1, "cut 1 when 1=1 and;", 1, 18);
        due.fault(x, 1, "cut east;", 1, 4);
        due.fault(x, 1, "cut 1", 1, 5);
        String line = "thaw 1;";
        due.lines(x, 1, line.repeat(16), 16);
        due.fault(x, 1, line.repeat(16) + "cut", 3, 112);
        due.fault(x, 1, line.repeat(16) + "melt", 1, 112);
        due.lines(x, 2, "letter 0 0 1;letter7 7 7;", 2);
        due.fault(x, 2, "letter 0 0 8;", 2, 11);
        due.fault(x, 2, "letter 0 0 0;", 3, 11);
        due.fault(x, 2, "letter 0 0;", 1, 10);
        due.fault(x, 2, "letter 1 1 1 1;", 1, 13);
        due.fault(x, 2, "letter 1 1 12345;", 1, 11);
        due.fault(x, 2, "want 0 at 0;", 1, 0);
        due.lines(x, 2, "letter 1 1 1;".repeat(8), 8);
        due.fault(x, 2, "letter 1 1 1;".repeat(8) + "letter", 3, 104);
        due.lines(x, 2, "letter 1 1 1;letter 2 2 2;", 2);
        due.lines(x, 3, "want 1 at 27;want 0 at 0;", 2);
        due.fault(x, 3, "want 2 at 0;", 2, 5);
        due.fault(x, 3, "want 0 at 28;", 2, 10);
        due.fault(x, 3, "want 0 at 35;", 2, 10);
        due.fault(x, 3, "want 0 at 9999;", 2, 10);
        due.fault(x, 3, "want 0 at 10000;", 1, 10);
        due.fault(x, 3, "want 0 0;", 1, 7);
        due.fault(x, 3, "want at 0;", 1, 5);
        due.fault(x, 3, "want 0 at;", 1, 9);
        due.fault(x, 3, "want 0 at 0", 1, 11);
        due.lines(x, 3, "want 0 at 0;".repeat(10), 10);
        due.fault(x, 3, "want 0 at 0;".repeat(10) + "want 9", 3, 120);
        due.is("a fault: the tape is empty", x.end(1), false);
    }

    private static void textsThatReplace() {
        LeftSkate x = new LeftSkate();
        x.skater(1, 0);
        x.skater(2, 9);
        Due.tell(x, 0, "skater 0 east 2 lift;skater 1 west 3;");
        x.minutes(2);
        due.fault(x, 0, "skater 0 north 1;skater 0;", 3, 24);
        due.is("a fault: ways stay", x.of(1, 2), 1);
        due.is("a fault: skate stays", x.of(0, 4), 0);
        due.is("a fault: told stays", x.look(8), 2);
        due.lines(x, 0, "skater 1 rest 2;", 1);
        due.is("told anew: none then", x.of(0, 2), 0);
        due.is("told anew: none done", x.of(0, 3), 0);
        due.is("told anew: skate down", x.of(0, 4), 1);
        due.is("told anew: where they are", x.of(0, 1), 2);
        due.is("told anew", x.of(1, 2), 2);
        Due.tell(x, 2, "letter 1 0 0;letter 2 0 0;");
        Due.tell(x, 3, "want 0 at 0;want 1 at 0;");
        due.fault(x, 2, "letter 3 0 0;letter 8", 2, 20);
        due.is("a fault: letters stay", x.look(10), 2);
        due.is("a fault: letters stay", x.letter(0), 1);
        due.is("a fault: wants stay", x.look(11), 2);
        due.fault(x, 3, "want 1 at 9;want 9", 2, 17);
        due.is("a fault: wants stay", x.want(0, 0), 0);
        due.lines(x, 3, "want 1 at 9;", 1);
        due.is("wants anew: letters stay", x.letter(1), 2);
        due.lines(x, 2, "letter 4 0 0;", 1);
        due.is("letters anew: wants are none", x.look(11), 0);
        Due.tell(x, 1, "cut 5;thaw 1;");
        due.fault(x, 1, "cut 6;cut", 1, 9);
        due.is("a fault: the law stays", x.look(9), 2);
        due.is("a fault: the law stays", x.cut(0, 0), 5);
        due.lines(x, 1, "", 0);
        due.is("no law", x.cut(0, 0), 2);
    }

    // ---- 10
    private static void minutes() {
        LeftSkate x = new LeftSkate();
        due.is("minutes(0)", x.minutes(0), NONE);
        due.is("minutes(61)", x.minutes(61), NONE);
        due.is("minutes(-1)", x.minutes(-1), NONE);
        due.is("minutes: nothing done", x.look(2), 0);
        for (int i = 0; i < 166; i++) {
            x.minutes(60);
        }
        due.is("minutes: 9960", x.look(2), 9960);
        due.is("minutes(40)", x.minutes(40), NONE);
        due.is("minutes: nothing done", x.look(2), 9960);
        due.is("minutes(39)", x.minutes(39), 0);
        due.is("minutes: 9999", x.look(2), 9999);
        due.is("minutes(1)", x.minutes(1), NONE);
        due.is("in thought it goes on", x.goes(99), 0);
        due.is("undo: 9998", x.undo(), true);
        due.is("minutes: 9998", x.look(2), 9998);
        theRim();
    }

    private static void theRim() {
        LeftSkate x = made(3, 3);
        x.skater(1, 0);
        Due.tell(x, 0, "skater 0 north 1 west 1 east 3 south 3;");
        x.minutes(2);
        due.is("rim: he stays", x.of(0, 1), 0);
        due.is("rim: and cuts", x.at(0, 0), 4);
        x.minutes(3);
        due.is("rim: east", x.of(0, 1), 2);
        due.is("rim: twice there", x.at(2, 0), 4);
        x.minutes(4);
        due.is("rim: south", x.of(0, 1), 18);
        due.is("rim: once", x.at(10, 0), 2);
        due.is("rim: LATEST", x.at(18, 1), 0);
        due.is("rim: not there", x.at(9, 1), NONE);
        // rest cuts nothing, and what is 9 deep gets no deeper
        Due.tell(x, 0, "skater 0 rest 3;");
        x.minutes(3);
        due.is("rest", x.at(18, 0), 4);
        Due.tell(x, 0, "skater 0 south 3;");
        x.minutes(3);
        due.is("9 at most", x.at(18, 0), 9);
        due.is("how much deeper", x.book(x.look(6) - 1, 3), 1);
    }

    private static void falls() {
        LeftSkate x = new LeftSkate();
        x.skater(1, 0);
        x.skater(1, 9);
        x.skater(1, 18);
        Due.tell(x, 0, "skater 0 lift east 2;skater 1 lift rest 4;");
        x.set(1, 0, 1000);
        // the third has no steps left: no draw for him
        due.is("falls", x.minutes(1), 2);
        int two = 1013904223 * 1664525 + 1013904223;
        due.is("falls: STATE", x.look(7), two);
        due.is("falls: DEPTH", x.at(0, 0), 3);
        due.is("falls: LATEST", x.at(9, 1), 1);
        due.is("falls: not done", x.of(0, 2), 2);
        due.is("falls: not lifted", x.of(0, 4), 1);
        due.is("falls: nobody", x.at(18, 0), 0);
        due.is("falls: many minutes", x.minutes(3), 6);
        due.is("falls: 9 at most", x.at(0, 0), 9);
        due.is("falls: lines", x.look(6), 8);
        due.is("falls: by 0", x.book(7, 3), 0);
        due.is("falls: fell", x.book(7, 4), 1);
        x.set(1, 0, 0);
        int state = x.look(7);
        due.is("no falls", x.minutes(1), 0);
        due.is("no falls: no draw", x.look(7), state);
        due.is("no falls: done", x.of(0, 3), 1);
        // 0: the draw is 1013904223 >>> 8 modulo 1000
        int drawn = (1013904223 >>> 8) % 1000;
        LeftSkate y = new LeftSkate();
        y.skater(1, 0);
        Due.tell(y, 0, "skater 0 east 1;");
        y.set(1, 0, 1);
        y.minutes(1);
        due.is("falls of 1: a draw", y.look(7), 1013904223);
        y.undo();
        y.set(1, 0, drawn);
        due.is("a draw that is not below", y.minutes(1), 0);
        y.undo();
        y.set(1, 0, drawn + 1);
        due.is("a draw that is below", y.minutes(1), 1);
        // a state whose next one is negative: 24 bits without sign
        y.set(1, 0, 0);
        y.minutes(1);
        Due.tell(y, 0, "skater 0 east 1;");
        y.state(1000);
        int next = 1000 * 1664525 + 1013904223;
        int high = (next >>> 8) % 1000;
        y.set(1, 0, high);
        due.is("highest bits without sign", y.minutes(1), 0);
        due.is("a STATE below 0", next < 0, true);
        due.is("a STATE below 0", y.look(7), next);
    }

    // ---- 11
    private static void of() {
        LeftSkate x = new LeftSkate();
        x.skater(7, 13);
        due.is("of, no such", x.of(1, 0), NONE - 1);
        due.is("of, no such", x.of(-1, 0), NONE - 1);
        due.is("of, another what", x.of(0, 6), NONE - 1);
        due.is("of, another what", x.of(0, -1), NONE - 1);
        int[] at = {7, 13, 0, 0, 1, 0};
        for (int i = 0; i < at.length; i++) {
            due.is("of(0, " + i + ")", x.of(0, i), at[i]);
        }
        Due.tell(x, 0, "skater 0 lift down lift rest 1 south 2 down west 1 lift;");
        due.is("of: left", x.of(0, 2), 4);
        due.is("of: down", x.of(0, 4), 1);
        x.minutes(1);
        due.is("of: lifted with the step", x.of(0, 4), 0);
        due.is("of: done", x.of(0, 3), 1);
        x.minutes(2);
        due.is("of: lifted", x.of(0, 4), 0);
        due.is("of: nothing cut", x.at(29, 0), 0);
        x.minutes(1);
        due.is("of: cut ahead of the last lift", x.at(28, 0), 2);
        due.is("of: lifted behind the last one", x.of(0, 4), 0);
        due.is("of: left", x.of(0, 2), 0);
        x.minutes(1);
        due.is("of: no more", x.of(0, 3), 4);
        Due.tell(x, 0, "skater 0 lift;");
        x.minutes(1);
        due.is("of: lift without any step", x.of(0, 4), 1);
    }

    private static void crossed() {
        LeftSkate x = new LeftSkate();
        x.skater(1, 8);
        x.skater(2, 0);
        Due.tell(x, 0, "skater 0 east 5;");
        x.minutes(5);
        // 9 .. 13 are of skater 0
        Due.tell(x, 0, "skater 0 west 9 east 9;skater 1 south 1 east 2 lift east 1 rest 3 down rest 2 east 2 east 3 south 1;");
        due.is("crossed: his own", x.of(0, 5), 0);
        // 9, 10; 11 lifted; 12, 13; then he stays at the rim on 13 three times
        due.is("crossed", x.of(1, 5), 7);
        x.minutes(2);
        due.is("crossed: from now on", x.of(1, 5), 6);
        // 8 and 9 are of skater 1 now; skater 0 is at 11: 9, five times 8 at the rim, and 9 again
        due.is("crossed: the other one", x.of(0, 5), 7);
    }

    // ---- 12
    private static void at() {
        LeftSkate x = made(4, 3);
        due.is("at, no such", x.at(4, 0), NONE - 1);
        due.is("at, no such", x.at(24, 0), NONE - 1);
        due.is("at, no such", x.at(-1, 0), NONE - 1);
        due.is("at, another what", x.at(0, 5), NONE - 1);
        due.is("at, another what", x.at(0, -1), NONE - 1);
        x.set(2, 1, 2);
        x.set(2, 8, 1);
        x.set(2, 10, 3);
        x.set(2, 17, 3);
        due.is("at: around", x.at(9, 4), 4);
        due.is("at: around the corner", x.at(0, 4), 2);
        x.set(0, 0, 2);
        due.is("at: around by sight", x.at(9, 4), 3);
        due.is("at: SEEN", x.at(1, 2), 1);
        due.is("at: not SEEN", x.at(8, 2), 0);
        due.is("at: around alone", x.at(19, 4), 0);
        Due.tell(x, 1, "thaw depth*2;");
        due.is("at: thaw", x.at(10, 3), 6);
        due.is("at: thaw", x.at(0, 3), 0);
    }

    // ---- 13
    private static void cut() {
        LeftSkate x = made(4, 3);
        x.skater(6, 0);
        x.skater(3, 0);
        due.is("cut, no skater", x.cut(2, 0), NONE);
        due.is("cut, no skater", x.cut(-1, 0), NONE);
        due.is("cut, no cell", x.cut(0, 4), NONE);
        due.is("cut, no cell", x.cut(0, -1), NONE);
        due.is("cut without a law", x.cut(0, 0), 2);
        Due.tell(x, 1, "cut hand when crossed=1;cut 20 when edge=0;cut 0-5 when depth=1;cut around+3;");
        due.is("cut: held to 9", x.cut(0, 9), 9);
        due.is("cut: fourth line", x.cut(0, 3), 3);
        x.set(2, 3, 1);
        due.is("cut: held to 0", x.cut(0, 3), 0);
        due.is("cut: around", x.cut(0, 2), 4);
        Due.tell(x, 0, "skater 1 east 1;");
        x.minutes(1);
        due.is("cut: crossed", x.cut(0, 1), 6);
        due.is("cut: not crossed by himself", x.cut(1, 1), 3);
        Due.tell(x, 1, "cut 1 when hand=7;thaw 3;");
        due.is("cut: no line is so", x.cut(0, 0), 2);
    }

    private static void law() {
        LeftSkate x = made(5, 5);
        x.skater(7, 12);
        String[] laws = {"cut 1+2*3", "cut 20-4-9", "cut 17/3/2*3+1", "cut 2*7/4*2", "cut hand-minute", "cut 9999*9999*9999*9999*9999",
            "cut 1 when 1=2 or 2=2 and 3=4", "cut 1 when 1=1 or 2=2 and 3=4", "cut 1 when (1=1 or 2=2) and 3=4", "cut 1 when not 1=2 and 2=2",
            "cut 1 when not (1=2 or 2=2)", "cut 1 when 2<1", "cut 1 when 1<2 and 2>1", "cut (0-7)/2", "cut 5+around*edge",
            "cut 1 when not 1=1 or not not 2=2", "cut 9 when hand=6;cut 8 when hand=7;cut 7", "cut 1 when 0-1<0", "cut 3+0-7/2*1"};
        int[] answers = {7, 7, 7, 6, 7, held(9999 * 9999 * 9999 * 9999 * 9999), 2, 1, 2, 1, 2, 2, 1, 2, 5, 1, 8, 1, 0};
        for (int i = 0; i < laws.length; i++) {
            Due.tell(x, 1, "");
            Due.tell(x, 1, laws[i] + ";");
            due.is(laws[i], x.cut(0, 18), answers[i]);
        }
        // towards 0: (2 - 9) + 8 is 1 by either, but -7/2 must be -3
        Due.tell(x, 1, "cut 5+minute/2*0 when 0-7/2=0-3;");
        due.is("a part of a number", x.cut(0, 18), 5);
        Due.tell(x, 1, "cut 4 when hand*9999*9999*9999/2*2+1<0;cut 3;");
        due.is("ints that wrap", x.cut(0, 18), 7 * 9999 * 9999 * 9999 / 2 * 2 + 1 < 0 ? 4 : 3);
        // 9999 * 9999 * 9999 is below 0 in an int: its 7th part, downwards, would be too little
        Due.tell(x, 1, "cut 5 when 9999*9999*9999/7*7-9999*9999*9999>0;cut 3;");
        due.is("parts go towards 0", x.cut(0, 18), 5);
    }

    private static int held(int v) {
        return Math.max(0, Math.min(9, v));
    }

    private static void thaw() {
        LeftSkate x = made(4, 4);
        x.skater(9, 0);
        for (int c : new int[] {0, 1, 2, 9, 10}) {
            x.set(2, c, 3);
        }
        Due.tell(x, 1, "thaw 1 when around>1 and edge=1;thaw 9 when depth=3 and minute>0;thaw 2 when hand+crossed>0;");
        due.is("thaw: hand and crossed are 0", x.at(0, 3), 0);
        x.minutes(1);
        // 1 and 2 stand between two that are seen, all asked ahead of it
        due.is("thaw: 0", x.at(0, 0), 3);
        due.is("thaw: 1", x.at(1, 0), 2);
        due.is("thaw: 2", x.at(2, 0), 2);
        due.is("thaw: 9", x.at(9, 0), 3);
        x.minutes(1);
        due.is("thaw: 0 at least", x.at(0, 0), 0);
        due.is("thaw: inside", x.at(9, 0), 0);
        due.is("thaw: by around ahead of it", x.at(1, 0), 1);
        due.is("thaw: MINUTE", x.look(2), 2);
        LeftSkate y = made(4, 4);
        y.skater(1, 0);
        Due.tell(y, 0, "skater 0 east 1;");
        Due.tell(y, 1, "cut 4;thaw 4;");
        y.minutes(1);
        due.is("thaw: what was cut in it thaws in it", y.at(1, 0), 0);
        due.is("thaw: LATEST is kept", y.at(1, 1), 0);
        due.is("thaw: the book has it", y.book(0, 3), 4);
        Due.tell(y, 0, "skater 0 south 1;");
        Due.tell(y, 1, "cut 0;");
        y.minutes(1);
        due.is("a cut of 0: LATEST", y.at(9, 1), NONE);
        due.is("a cut of 0: the book", y.look(6), 1);
        due.is("a cut of 0: he is there", y.of(0, 1), 9);
    }

    // ---- 14, 15
    private static void letterAndWant() {
        LeftSkate x = new LeftSkate();
        due.is("letter, none", x.letter(0), NONE);
        Due.tell(x, 2, "letter 1 2 4;letter 7 0 1;");
        due.is("letter", x.letter(0), 1 + 16 + 256);
        due.is("letter", x.letter(1), 7 + 64);
        due.is("letter, none such", x.letter(2), NONE);
        due.is("letter, none such", x.letter(-1), NONE);
        due.is("want, none", x.want(0, 0), NONE);
        Due.tell(x, 3, "want 1 at 27;want 0 at 8;");
        due.is("want", x.want(0, 0), 1);
        due.is("want", x.want(0, 1), 27);
        due.is("want", x.want(1, 1), 8);
        due.is("want, none such", x.want(2, 0), NONE);
        due.is("want, none such", x.want(-1, 0), NONE);
        due.is("want, another what", x.want(0, 3), NONE);
        due.is("want, another what", x.want(0, -1), NONE);
        due.is("want: not read", x.want(1, 2), 0);
        show(x, 8, 273);
        due.is("want: read so", x.want(1, 2), 1);
        x.set(0, 0, 2);
        due.is("want: by sight", x.want(1, 2), 0);
    }

    // ---- 16
    private static void book() {
        LeftSkate x = made(8, 7);
        for (int i = 0; i < 6; i++) {
            x.skater(9, 54);
        }
        Due.tell(x, 0, "skater 5 rest 1 west 2;skater 2 south 1;");
        x.minutes(3);
        int[][] lines = {{0, 2, 54, 2, 0}, {1, 5, 53, 2, 0}, {2, 5, 52, 2, 0}};
        for (int i = 0; i < lines.length; i++) {
            for (int what = 0; what < 5; what++) {
                due.is("book(" + i + ", " + what + ")", x.book(i, what), lines[i][what]);
            }
        }
        due.is("book, none such", x.book(3, 0), NONE);
        due.is("book, none such", x.book(-1, 0), NONE);
        due.is("book, another what", x.book(0, 5), NONE);
        due.is("book, another what", x.book(0, -1), NONE);
        for (int i = 0; i < 165; i++) {
            x.minutes(60);
        }
        Due.tell(x, 0, "skater 4 north 1;");
        Due.tell(x, 1, "cut 9;");
        x.minutes(1);
        due.is("book, late", x.book(3, 0), 9903);
        due.is("book, late", x.book(3, 1), 4);
        due.is("book, late", x.book(3, 2), 46);
        due.is("book, late", x.book(3, 3), 9);
    }

    private static void bookIsFull() {
        LeftSkate x = new LeftSkate();
        x.skater(1, 0);
        x.skater(2, 8);
        x.skater(3, 16);
        Due.tell(x, 0, "skater 0 east 20 west 20 east 20;skater 1 east 20 west 20 east 20;skater 2 east 20 west 20 east 20;");
        x.minutes(49);
        due.is("book: 147 lines", x.look(6), 147);
        x.minutes(2);
        due.is("book: 150 at most", x.look(6), 150);
        due.is("book: the last one", x.book(149, 0), 49);
        due.is("book: no more", x.book(150, 0), NONE);
        x.undo();
        due.is("book: still full", x.look(6), 150);
        x.undo();
        due.is("book: back", x.look(6), 147);
        due.is("book: back", x.book(147, 0), NONE);
        x.minutes(1);
        due.is("book: again", x.book(149, 1), 2);
    }

    // ---- 17
    private static void read() {
        LeftSkate x = made(5, 4);
        due.is("read, no box", x.read(3), NONE - 1);
        due.is("read, no box", x.read(16), NONE - 1);
        due.is("read, no box", x.read(-1), NONE - 1);
        due.is("read, no box", x.read(64), NONE - 1);
        due.is("read: nothing", x.read(10), NONE);
        Due.tell(x, 2, "letter 3 0 0;letter 7 0 0;letter 7 0 0;");
        show(x, 10, 7);
        due.is("read: the least", x.read(10), 1);
        x.set(2, 12, 0);
        due.is("read: just what is seen", x.read(10), 0);
        x.set(2, 28, 1);
        due.is("read: nothing else", x.read(10), NONE);
        due.is("read: another box", x.read(2), NONE);
        show(x, 2, 0);
        show(x, 10, 7);
        Due.tell(x, 3, "want 2 at 10;want 1 at 10;");
        due.is("read so: not the second of a shape", x.want(0, 2), 0);
        due.is("read so: the first", x.want(1, 2), 1);
        due.is("wants(0)", x.wants(0), 1);
    }

    // ---- 18, 19
    private static void goesAndWants() {
        LeftSkate x = made(5, 5);
        x.skater(1, 16);
        x.skater(2, 2);
        Due.tell(x, 0, "skater 0 east 3;skater 1 south 4;");
        Due.tell(x, 1, "cut 1 when crossed=1;cut 4;thaw 1 when minute>2;");
        Due.tell(x, 2, "letter 0 2 0;letter 0 3 2;");
        Due.tell(x, 3, "want 0 at 8;want 1 at 1;");
        x.set(1, 0, 1000);
        x.set(0, 0, 2);
        due.is("goes(-1)", x.goes(-1), NONE);
        due.is("goes(100)", x.goes(100), NONE);
        due.is("goes(0)", x.goes(0), 0);
        due.is("goes(1): nobody falls", x.goes(1), set(17, 10));
        due.is("goes(2)", x.goes(2), set(17, 10, 18));
        due.is("goes(4)", x.goes(4), set(17, 10, 18, 19, 26, 34));
        due.is("goes(6)", x.goes(6), set(18));
        due.is("goes(99)", x.goes(99), 0);
        due.is("wants(-1)", x.wants(-1), NONE);
        due.is("wants(100)", x.wants(100), NONE);
        due.is("wants(0)", x.wants(0), 0);
        due.is("wants(1)", x.wants(1), 0);
        due.is("wants(99)", x.wants(99), 0);
        due.is("goes: nothing stays", x.look(2), 0);
        due.is("goes: no draws", x.look(7), 0);
        due.is("goes: no book", x.look(6), 0);
        due.is("goes: where he is", x.of(0, 1), 16);
        due.is("goes: nothing cut", x.at(17, 0), 0);
        due.is("goes: nothing to undo", x.look(12), 0);
        Due.tell(x, 2, "letter 0 2 1;");
        Due.tell(x, 3, "want 0 at 1;want 0 at 9;");
        due.is("wants(1): 10 and 17", x.wants(1), 1);
        due.is("wants(2): 18, too", x.wants(2), 0);
        x.set(1, 0, 0);
        x.minutes(2);
        due.is("goes as it went", x.goes(0), set(17, 10, 18));
    }

    // ---- 20
    private static void spoilt() {
        LeftSkate x = made(6, 6);
        x.skater(1, 0);
        x.skater(2, 45);
        Due.tell(x, 2, "letter 0 2 0;letter 2 0 0;");
        Due.tell(x, 3, "want 0 at 0;want 1 at 27;want 0 at 1;want 1 at 3;");
        due.is("spoilt: none is read", x.spoilt(0), NONE);
        x.set(2, 28, 3);
        x.set(2, 4, 3);
        due.is("read now", x.wants(0), 2);
        due.is("spoilt: nothing happens", x.spoilt(0), NONE);
        due.is("spoilt: nothing happens", x.spoilt(1), NONE);
        Due.tell(x, 0, "skater 0 rest 4 east 3 south 1;skater 1 west 1;");
        due.is("spoilt: the first minute", x.spoilt(0), 1);
        due.is("spoilt: its want", x.spoilt(1), 1);
        due.is("spoilt, another what", x.spoilt(2), NONE);
        due.is("spoilt, another what", x.spoilt(-1), NONE);
        Due.tell(x, 0, "skater 0 rest 4 east 3 south 1;");
        due.is("spoilt: later", x.spoilt(0), 7);
        due.is("spoilt: later", x.spoilt(1), 3);
        x.minutes(3);
        due.is("spoilt: from now", x.spoilt(0), 4);
        Due.tell(x, 1, "thaw 1 when minute>100;");
        Due.tell(x, 0, "");
        // 3 deep: gone behind the third minute that thaws, the 101st, 102nd, 103rd
        due.is("spoilt: both at once", x.spoilt(0), NONE);
        x.minutes(2);
        due.is("spoilt: the 99th", x.spoilt(0), 99);
        due.is("spoilt: of several the least", x.spoilt(1), 1);
        due.is("spoilt: nothing stays", x.look(2), 5);
    }

    // ---- 21
    private static void route() {
        LeftSkate x = made(8, 7);
        x.skater(1, 18);
        due.is("route, no skater", x.route(1, 1, 0), NONE);
        due.is("route, no skater", x.route(-1, 1, 0), NONE);
        due.is("route, no cell", x.route(0, 1L << 56, 0), NONE);
        due.is("route, no cell", x.route(0, -1L, 0), NONE);
        due.is("route, no cell", x.route(0, Long.MIN_VALUE, 0), NONE);
        due.is("route, ten", x.route(0, 1023, 0), NONE);
        due.is("route, nine", x.route(0, 511, 0), 3 + 1 + 7);
        due.is("route, another what", x.route(0, 3, 1), NONE);
        due.is("route, another what", x.route(0, 3, 9), NONE);
        due.is("route, another what", x.route(0, 3, 12), NONE);
        due.is("route, another what", x.route(0, 3, -1), NONE);
        due.is("route, another what", x.route(0, 3, Integer.MIN_VALUE), NONE);
        due.is("route over none", x.route(0, 0, 0), 0);
        due.is("route over none", x.route(0, 0, 10), NONE);
        due.is("route where he is", x.route(0, set(18), 0), 0);
        due.is("route where he is", x.route(0, set(18), 10), 18);
        long line = set(16, 21);
        due.is("route: both ends", x.route(0, line, 0), 7);
        due.is("route: the nearer end", x.route(0, line, 10), 16);
        due.is("route: the farther end", x.route(0, line, 11), 21);
        // 17, 16, 21 is as short, but its first cell is greater
        due.is("route: between the ends", x.route(0, set(16, 17, 21), 0), 7);
        due.is("route: of several the first", x.route(0, set(16, 17, 21), 10), 16);
        due.is("route: of several the first", x.route(0, set(16, 17, 21), 12), 21);
        due.is("route: the greater first", x.route(0, set(8, 20), 10), 20);
        long even = set(10, 26, 17, 19);
        due.is("route: the lesser cell first", x.route(0, even, 0), 7);
        due.is("route: the lesser cell first", x.route(0, even, 10), 10);
        due.is("route: the lesser cell first", x.route(0, even, 11), 17);
        due.is("route: the lesser cell first", x.route(0, even, 12), 19);
        due.is("route: the lesser cell first", x.route(0, even, 13), 26);
    }

    // ---- 22
    private static void soonest() {
        LeftSkate x = made(8, 7);
        due.is("soonest, no skaters", x.soonest(0, 0), NONE);
        x.skater(1, 0);
        x.skater(1, 7);
        x.skater(1, 48);
        due.is("soonest of none", x.soonest(0, 0), 0);
        due.is("soonest of none", x.soonest(0, 10), NONE);
        due.is("soonest, no cell", x.soonest(1L << 60, 0), NONE);
        due.is("soonest, ten", x.soonest(1023, 0), NONE);
        due.is("soonest, another what", x.soonest(3, 1), NONE);
        due.is("soonest, another what", x.soonest(3, 12), NONE);
        due.is("soonest, another what", x.soonest(3, Integer.MIN_VALUE), NONE);
        long far = set(1, 6, 40, 54);
        // 54 is 6 from 48, so 40 is left to the first one, and 1 to the second, behind 6
        due.is("soonest", x.soonest(far, 0), 6);
        due.is("soonest: 1", x.soonest(far, 10), 1);
        due.is("soonest: 6", x.soonest(far, 11), 1);
        due.is("soonest: 40", x.soonest(far, 12), 0);
        due.is("soonest: 54", x.soonest(far, 13), 2);
        due.is("soonest of one", x.soonest(set(27), 0), 6);
        due.is("soonest of one", x.soonest(set(27), 10), 0);
        due.is("soonest of two", x.soonest(set(27, 36), 0), 6);
        long nine = set(1, 2, 3, 4, 5, 6, 8, 15, 48);
        int[] takers = {0, 0, 0, 0, 0, 1, 2, 1, 2};
        due.is("soonest of nine", x.soonest(nine, 0), 5);
        for (int i = 0; i < 9; i++) {
            due.is("soonest of nine: " + i, x.soonest(nine, 10 + i), takers[i]);
        }
        due.is("soonest of nine, a tenth", x.soonest(nine, 19), NONE);
    }

    // ---- 23
    private static void beneath() {
        LeftSkate x = made(5, 5);
        Due.tell(x, 2, "letter 1 0 0;letter 3 0 0;letter 2 0 0;letter 3 1 0;");
        show(x, 9, 3);
        due.is("beneath", x.beneath(0, 9), 6);
        due.is("beneath", x.beneath(1, 9), 7);
        due.is("beneath", x.beneath(2, 9), 3);
        due.is("beneath: more than is seen", x.beneath(3, 9), 0);
        due.is("beneath: another box", x.beneath(0, 0), 0);
        due.is("beneath, no letter", x.beneath(4, 9), NONE);
        due.is("beneath, no letter", x.beneath(-1, 9), NONE);
        due.is("beneath, no box", x.beneath(0, 3), NONE);
        due.is("beneath, no box", x.beneath(0, -1), NONE);
    }

    // ---- 24
    private static void lookAt() {
        LeftSkate x = new LeftSkate();
        due.is("lookAt, no letters", x.lookAt(3), NONE);
        Due.tell(x, 2, "letter 1 0 0;letter 1 0 4;letter 1 2 4;letter 1 2 4;");
        due.is("lookAt: half of them", x.lookAt(15), 4);
        due.is("lookAt: 0 and 1", x.lookAt(3), 8);
        due.is("lookAt: none tells them apart", x.lookAt(12), 0);
        due.is("lookAt: one", x.lookAt(4), NONE);
        due.is("lookAt: none", x.lookAt(0), NONE);
        due.is("lookAt: no letter", x.lookAt(19), NONE);
        due.is("lookAt: no letter", x.lookAt(-1), NONE);
        due.is("lookAt: no letter", x.lookAt(Integer.MIN_VALUE | 3), NONE);
    }

    // ---- 25
    private static void who() {
        LeftSkate x = made(6, 6);
        x.skater(1, 0);
        x.skater(1, 8);
        x.skater(1, 16);
        due.is("who: nobody", x.who(0, 0), NONE);
        due.is("who: nobody", x.who(0, 1), 0);
        Due.tell(x, 0, "skater 0 east 1;skater 1 east 2;skater 2 east 2;");
        x.minutes(2);
        due.is("who: most, the least of them", x.who(0, 0), 1);
        due.is("who: all", x.who(0, 1), 7);
        x.set(2, 9, 0);
        due.is("who: but what is seen", x.who(0, 0), 2);
        due.is("who: the box", x.who(8, 1), 6);
        due.is("who: beside it", x.who(11, 1), 0);
        x.set(2, 27, 5);
        due.is("who: cut by nobody", x.who(27, 0), NONE);
        due.is("who, no box", x.who(4, 0), NONE - 1);
        due.is("who, no box", x.who(32, 0), NONE - 1);
        due.is("who, no box", x.who(-1, 1), NONE - 1);
        due.is("who, another what", x.who(0, 2), NONE - 1);
        due.is("who, another what", x.who(0, -1), NONE - 1);
    }

    // ---- 26
    private static void holds() {
        LeftSkate x = new LeftSkate();
        due.is("holds of none", x.holds(1, 0), 0);
        due.is("holds of none", x.holds(9, 1), 0);
        due.is("holds(0)", x.holds(0, 0), NONE);
        due.is("holds(10)", x.holds(10, 0), NONE);
        due.is("holds, another what", x.holds(1, 2), NONE);
        due.is("holds, another what", x.holds(1, -1), NONE);
        Due.tell(x, 2, "letter 1 0 0;letter 3 0 0;letter 7 0 0;letter 7 7 7;letter 1 0 0;");
        due.is("holds(1)", x.holds(1, 0), 4);
        due.is("holds(1): the least set", x.holds(1, 1), 15);
        due.is("holds(2)", x.holds(2, 0), 3);
        due.is("holds(2): the least set", x.holds(2, 1), 1 + 4 + 8);
        due.is("holds(7)", x.holds(7, 0), 2);
        due.is("holds(7): the least set", x.holds(7, 1), 9);
        due.is("holds(9)", x.holds(9, 0), 1);
        due.is("holds(9): the least set", x.holds(9, 1), 1);
    }

    // ---- 27
    private static void parts() {
        LeftSkate x = made(3, 7);
        due.is("parts: the same", x.parts(9, 9), NONE);
        due.is("parts: beside", x.parts(9, 10), NONE);
        due.is("parts: beneath", x.parts(9, 17), NONE);
        due.is("parts, no cell", x.parts(3, 9), NONE);
        due.is("parts, no cell", x.parts(9, -1), NONE);
        due.is("parts, no cell", x.parts(9, 56), NONE);
        due.is("parts: a narrow basin", x.parts(9, 41), 3);
        due.is("parts: corners", x.parts(0, 50), 2);
        due.is("parts: a rim", x.parts(8, 33), 3);
        due.is("parts: aslant", x.parts(8, 17), 3);
        LeftSkate y = made(8, 7);
        due.is("parts: wide", y.parts(9, 27), 4);
        due.is("parts: wide", y.parts(9, 54), 3);
        due.is("parts: rims", y.parts(3, 51), 3);
        due.is("parts: none is at the rim's end", y.parts(7, 8), 2);
    }

    // ---- 28
    private static void yet() {
        LeftSkate x = made(4, 4);
        x.set(2, 9, 2);
        due.is("yet: n 0", x.yet(9, 0, 1), NONE);
        due.is("yet: n 100", x.yet(9, 100, 1), NONE);
        due.is("yet: p -1", x.yet(9, 1, -1), NONE);
        due.is("yet: p 1001", x.yet(9, 1, 1001), NONE);
        due.is("yet, no cell", x.yet(4, 1, 1), NONE);
        due.is("yet, no cell", x.yet(-1, 1, 1), NONE);
        due.is("yet: p 0", x.yet(9, 99, 0), 1000000);
        due.is("yet: p 1000", x.yet(9, 1, 1000), 1000000);
        due.is("yet: p 1000", x.yet(9, 2, 1000), 0);
        due.is("yet: two minutes", x.yet(9, 2, 100), 990000);
        // 333 of 1000: 333000; then 221 778 .. of 667000: 222111, and 110889 of 333000
        due.is("yet: downwards", x.yet(9, 3, 333), 1000000 - 110889 - (333000 - 110889 + 222111) * 333 / 1000);
        x.set(0, 0, 2);
        due.is("yet: by sight", x.yet(9, 2, 100), 810000);
        due.is("yet: not seen", x.yet(0, 1, 0), 0);
        x.set(0, 0, 9);
        x.set(2, 0, 9);
        due.is("yet: 9 deep", x.yet(0, 1, 7), 993000);
        due.is("yet: nothing stays", x.at(9, 0), 2);
    }

    // ---- 29
    private static void heard() {
        LeftSkate x = made(4, 3);
        x.skater(1, 1);
        due.is("heard(0)", x.heard(0, 0), set(1));
        due.is("heard(1)", x.heard(0, 1), set(1, 0, 2, 9));
        due.is("heard(2)", x.heard(0, 2), set(1, 0, 2, 9, 3, 8, 10, 17));
        due.is("heard(9)", x.heard(0, 9), 0xf0f0f);
        due.is("heard(10)", x.heard(0, 10), NONE);
        due.is("heard(-1)", x.heard(0, -1), NONE);
        due.is("heard, no skater", x.heard(1, 0), NONE);
        due.is("heard, no skater", x.heard(-1, 0), NONE);
    }

    // ---- 30
    private static void undo() {
        LeftSkate x = new LeftSkate();
        x.skater(1, 0);
        Due.tell(x, 0, "skater 0 east 2 lift south 3 down north 4;");
        x.set(1, 0, 300);
        Due.tell(x, 1, "thaw 1 when depth>1;");
        int[][] seen = new int[10][];
        for (int i = 0; i < 9; i++) {
            seen[i] = snapshot(x, 1, 2, 10, 18);
            x.minutes(1);
        }
        due.is("undo: 6 are kept", x.look(12), 6);
        for (int i = 8; i >= 3; i--) {
            due.is("undo()", x.undo(), true);
            int[] back = snapshot(x, 1, 2, 10, 18);
            for (int k = 0; k < back.length; k++) {
                due.is("undo: minute " + i + ", " + k, back[k], seen[i][k]);
            }
            due.is("undo: how many yet", x.look(12), i - 3);
        }
        due.is("undo: no more", x.undo(), false);
        x.minutes(20);
        due.is("undo: of many minutes the last 6", x.look(12), 6);
        x.undo();
        due.is("undo: one minute", x.look(2), 22);
        x.minutes(1);
        due.is("undo: kept again", x.look(12), 6);
    }

    /** What of all there is changes in a minute, in these cells. */
    private static int[] snapshot(LeftSkate x, int... cells) {
        int[] all = new int[18 + 2 * cells.length];
        int n = 0;
        for (int i = 0; i < 12; i++) {
            all[n++] = x.look(i);
        }
        for (int i = 0; i < 6; i++) {
            all[n++] = x.of(0, i);
        }
        for (int c : cells) {
            all[n++] = x.at(c, 0);
            all[n++] = x.at(c, 1);
        }
        return all;
    }

    private static void undoForgets() {
        for (int i = 0; i < 22; i++) {
            LeftSkate x = new LeftSkate();
            x.skater(1, 0);
            x.image(true);
            x.minutes(1);
            boolean forgets = i < 8;
            switch (i) {
                case 0 -> x.state(0);
                case 1 -> x.basin(6, 6);
                case 2 -> x.skater(1, 0);
                case 3 -> x.set(0, 0, 1);
                case 4 -> x.set(2, 0, 0);
                case 5 -> x.set(3, 0, 0);
                case 6 -> Due.tell(x, 0, "skater 0 east 1;");
                case 7 -> x.image(false);
                case 8 -> Due.tell(x, 1, "cut 1;");
                case 9 -> Due.tell(x, 2, "letter 1 0 0;");
                case 10 -> Due.tell(x, 3, "");
                case 11 -> x.image(true);
                case 12 -> x.basin(2, 6);
                case 13 -> x.skater(10, 0);
                case 14 -> x.set(0, 0, 0);
                case 15 -> Due.tell(x, 0, "skater");
                case 16 -> x.minutes(0);
                case 17 -> x.goes(50);
                case 18 -> x.feed(1, 2, 3, 4, 5);
                case 19 -> x.end(0);
                case 20 -> x.text(9);
                default -> x.spoilt(0);
            }
            due.is("undo behind call " + i, x.undo(), !forgets);
        }
        LeftSkate x = new LeftSkate();
        x.skater(1, 0);
        x.minutes(1);
        Due.tell(x, 1, "cut 1;");
        Due.tell(x, 2, "letter 1 0 0;");
        Due.tell(x, 3, "want 0 at 0;");
        x.undo();
        due.is("undo: the law stays", x.look(9), 1);
        due.is("undo: letters stay", x.look(10), 1);
        due.is("undo: wants stay", x.look(11), 1);
    }

    // ---- 31
    private static void image() {
        LeftSkate x = made(7, 4);
        x.state(3);
        x.skater(1, 0);
        x.skater(2, 24);
        Due.tell(x, 0, "skater 0 east 4 lift;skater 1 north 1 lift north 1 down east 2;");
        Due.tell(x, 1, "cut 3;thaw 1 when around=0;");
        Due.tell(x, 2, "letter 2 0 0;letter 0 0 3;");
        Due.tell(x, 3, "want 1 at 1;");
        x.set(0, 0, 2);
        x.set(1, 0, 1);
        x.minutes(2);
        int[] cells = {0, 1, 2, 3, 4, 5, 8, 9, 10, 16, 17, 18, 24, 25, 30};
        int[] then = snapshot(x, cells);
        due.is("image(true)", x.image(true), true);
        due.is("image(true) does not forget", x.look(12), 2);
        Due.tell(x, 3, "want");
        x.feed(1, 2, 3, 4, 5);
        x.minutes(3);
        for (int i = 0; i < 3; i++) {
            due.is("image(false)", x.image(false), true);
            due.is("image: nothing to undo", x.undo(), false);
            int[] back = snapshot(x, cells);
            for (int k = 0; k < back.length; k++) {
                due.is("image: " + i + ", " + k, back[k], then[k]);
            }
            due.is("image: hand", x.of(1, 0), 2);
            due.is("image: way", x.of(1, 2), 2);
            due.is("image: skate", x.of(1, 4), 0);
            due.is("image: letter", x.letter(1), 192);
            due.is("image: want", x.want(0, 1), 1);
            due.is("image: cut", x.cut(0, 0), 3);
            due.is("image: book", x.book(1, 2), 16);
            due.is("image: no further line", x.book(x.look(6), 0), NONE);
            due.is("image: fault stays", x.fault(1), 4);
            due.is("image: tape stays", x.end(21), false);
            due.is("image: tape stays", x.end(20), true);
            if (i == 0) {
                x.basin(8, 7);
                x.skater(9, 54);
                Due.tell(x, 2, "letter 7 7 7;");
                Due.tell(x, 1, "cut 9;");
                Due.tell(x, 0, "skater 0 north 6;");
                x.minutes(6);
                Due.tell(x, 3, "want");
                x.feed(1, 2, 3, 4, 5);
            } else {
                x.minutes(40);
            }
        }
        x.minutes(1);
        x.image(true);
        x.minutes(1);
        x.image(false);
        due.is("image: taken anew", x.look(2), 43);
    }

    // ---- 32
    private static void look() {
        LeftSkate x = made(7, 5);
        x.state(-1);
        x.skater(1, 0);
        x.skater(1, 1);
        x.skater(1, 2);
        Due.tell(x, 0, "skater 2 south 3;skater 0;");
        Due.tell(x, 1, "cut 3;cut 4;thaw 0;thaw 0;thaw 0;");
        Due.tell(x, 2, "letter 1 0 0;letter 2 0 0;letter 3 0 0;letter 4 0 0;letter 5 0 0;letter 6 0 0;");
        Due.tell(x, 3, "want 0 at 0;want 1 at 0;want 2 at 0;want 3 at 0;want 4 at 0;want 5 at 0;want 5 at 1;");
        x.set(0, 0, 3);
        x.set(2, 0, 3);
        x.set(2, 1, 2);
        x.minutes(2);
        int[] looks = {7, 5, 2, 3, 3, 0, 2, -1, 2, 5, 6, 7, 2, 3};
        for (int i = 0; i < looks.length; i++) {
            due.is("look(" + i + ")", x.look(i), looks[i]);
        }
        x.set(1, 0, 17);
        due.is("look(5)", x.look(5), 17);
        due.is("look(14)", x.look(14), NONE);
        due.is("look(-1)", x.look(-1), NONE);
    }
}
