/** "4. In thought" of the document, and promises 14 to 32: each sentence that names a bound, on both sides of it. */
public final class BoundsThoughtTest {
    private static final int NONE = LeftSkate.NONE;
    private static final Due due = new Due("BoundsThoughtTest");

    public static void main(String[] args) {
        readJustWhatIsSeen();
        readTheLeast();
        boxesThatAre();
        lettersThatAre();
        wantsThatAre();
        nothingOfItStays();
        nobodyFallsInThought();
        goesOf0To99();
        goesAsItWillGo();
        goesByEachFact();
        wantsOf0To99();
        thoughtBeyondMinute9999();
        spoiltWithin99();
        spoiltFirst();
        spoiltReadNow();
        spoiltLeastWant();
        spoiltWhat();
        routeOfNine();
        routeOfNone();
        routeWhat();
        routeLesserCell();
        soonestOfNine();
        soonestWithoutSkaters();
        soonestOfNone();
        soonestWhat();
        soonestLesserSkater();
        soonestOfAll();
        beneathBounds();
        beneathBySight();
        lookAtBounds();
        lookAtOfSeveral();
        whoNobody();
        whoOfSeveral();
        whoSeenAlone();
        whoWithinTheBox();
        holdsBounds();
        holdsOfSeveral();
        partsBounds();
        partsOfRims();
        partsByTryingAllBars();
        yetBounds();
        yetDownwards();
        yet0AtLeast();
        crossedBounds();
        heardBounds();
        undoSix();
        undoSixAmongUndone();
        undoNothing();
        undoStateAndBook();
        undoForgotten();
        undoNotForgotten();
        lettersToldAnew();
        imageNone();
        imageMoreThanOnce();
        imageAsItWasTaken();
        imageWithoutTapeFaultUndo();
        lookWhat();
        due.end();
    }

    private static LeftSkate made(int w, int h, int... cells) {
        LeftSkate x = new LeftSkate();
        x.basin(w, h);
        for (int cell : cells) {
            x.skater(1, cell);
        }
        return x;
    }

    private static long set(int... cells) {
        long set = 0;
        for (int c : cells) {
            set |= 1L << c;
        }
        return set;
    }

    private static void tell(LeftSkate x, int k, String text) {
        Due.tell(x, k, text);
        due.is(text, x.fault(0), 0);
    }

    /** A box is made to show a shape by a sight of 1. */
    private static void show(LeftSkate x, int box, int shape) {
        for (int i = 0; i < 9; i++) {
            x.set(2, box + i / 3 * 8 + i % 3, shape >> i & 1);
        }
    }

    // ---- promises 14, 15, 17

    // "the least LETTER whose shape is just what is SEEN in it"
    private static void readJustWhatIsSeen() {
        LeftSkate x = made(8, 7);
        tell(x, 2, "letter 2 5 0;");
        int shape = 2 + 5 * 8;
        int[] boxes = {0, 5, 32, 37, 19};
        for (int box : boxes) {
            due.is("nothing is SEEN at " + box, x.read(box), NONE);
            show(x, box, shape);
            due.is("just its shape at " + box, x.read(box), 0);
            for (int i = 0; i < 9; i++) {
                int cell = box + i / 3 * 8 + i % 3;
                x.set(2, cell, 1 - (shape >> i & 1));
                due.is("one CELL otherwise at " + box, x.read(box), NONE);
                x.set(2, cell, shape >> i & 1);
            }
            due.is("its shape again at " + box, x.read(box), 0);
            show(x, box, 0);
        }
        show(x, 19, shape);
        x.set(2, 11, 9);
        x.set(2, 22, 9);
        x.set(2, 18, 9);
        x.set(2, 43, 9);
        due.is("what is around the box does not count", x.read(19), 0);
    }

    // "the least LETTER": of several with one shape
    private static void readTheLeast() {
        LeftSkate x = made(3, 3);
        tell(x, 2, "letter 1 0 0;letter 7 7 7;letter 1 0 0;letter 7 7 7;");
        show(x, 0, 1);
        due.is("0 and 2", x.read(0), 0);
        show(x, 0, 511);
        due.is("1 and 3", x.read(0), 1);
        tell(x, 2, "letter 2 0 0;letter 2 0 0;letter 2 0 0;letter 2 0 0;letter 2 0 0;letter 2 0 0;letter 2 0 0;letter 7 7 7;");
        due.is("the last one alone", x.read(0), 7);
    }

    // "NONE - 1 if there is no such box": for READ and WHO; NONE for BENEATH
    private static void boxesThatAre() {
        int[][] sizes = {{3, 3}, {8, 7}, {3, 7}, {8, 3}, {5, 4}};
        for (int[] size : sizes) {
            LeftSkate x = made(size[0], size[1]);
            tell(x, 2, "letter 1 0 0;");
            for (int cell = -2; cell < 66; cell++) {
                boolean is = cell >= 0 && cell % 8 <= size[0] - 3 && cell / 8 <= size[1] - 3;
                due.is("read(" + cell + ")", x.read(cell), is ? NONE : NONE - 1);
                due.is("who(" + cell + ", 0)", x.who(cell, 0), is ? NONE : NONE - 1);
                due.is("who(" + cell + ", 1)", x.who(cell, 1), is ? 0 : NONE - 1);
                due.is("beneath(0, " + cell + ")", x.beneath(0, cell), is ? 0 : NONE);
            }
            int[] far = {Integer.MIN_VALUE, Integer.MAX_VALUE};
            for (int cell : far) {
                due.is("read(" + cell + ")", x.read(cell), NONE - 1);
                due.is("who(" + cell + ", 0)", x.who(cell, 0), NONE - 1);
                due.is("beneath(0, " + cell + ")", x.beneath(0, cell), NONE);
            }
        }
    }

    // promise 14: "NONE if there is none such"
    private static void lettersThatAre() {
        LeftSkate x = made(6, 6);
        for (int letters = 0; letters <= 8; letters++) {
            tell(x, 2, "letter 1 0 4;".repeat(letters));
            for (int i = -1; i < 10; i++) {
                due.is("letter(" + i + ") of " + letters, x.letter(i), i >= 0 && i < letters ? 257 : NONE);
            }
        }
        due.is("letter of the least int", x.letter(Integer.MIN_VALUE), NONE);
        due.is("letter of the greatest int", x.letter(Integer.MAX_VALUE), NONE);
    }

    // promise 15: "NONE if there is none such, or another what"
    private static void wantsThatAre() {
        LeftSkate x = made(6, 6);
        tell(x, 2, "letter 1 0 0;letter 2 0 0;");
        for (int wants = 0; wants <= 10; wants++) {
            tell(x, 3, "want 1 at 9;".repeat(wants));
            due.is("want(-1, 0) of " + wants, x.want(-1, 0), NONE);
            due.is("the last of " + wants, x.want(wants - 1, 1), wants > 0 ? 9 : NONE);
            due.is("one more than " + wants, x.want(wants, 1), NONE);
        }
        due.is("the tenth: LETTER", x.want(9, 0), 1);
        due.is("the tenth: CELL", x.want(9, 1), 9);
        due.is("the tenth: READ", x.want(9, 2), 0);
        show(x, 9, 2);
        due.is("the tenth: READ now", x.want(9, 2), 1);
        int[] whats = {-1, 3, Integer.MIN_VALUE, Integer.MAX_VALUE};
        for (int what : whats) {
            due.is("want(0, " + what + ")", x.want(0, what), NONE);
        }
        due.is("want of the least int", x.want(Integer.MIN_VALUE, 0), NONE);
        due.is("want of the greatest int", x.want(Integer.MAX_VALUE, 0), NONE);
    }

    // ---- how it goes on

    private static LeftSkate busy() {
        LeftSkate x = made(6, 6, 0, 8, 45);
        tell(x, 0, "skater 0 lift east 1 down east 3 south 5;skater 1 east 5 lift;skater 2 north 3 west 5;");
        tell(x, 1, "cut 3 when crossed=1;thaw 1 when minute>4 and around<2;cut 2;");
        tell(x, 2, "letter 0 7 0;letter 7 0 0;");
        tell(x, 3, "want 0 at 0;want 1 at 8;want 1 at 1;");
        x.state(77);
        x.set(1, 0, 400);
        x.minutes(2);
        return x;
    }

    // "(nothing of it stays"
    private static void nothingOfItStays() {
        LeftSkate x = busy();
        Due.feed(x, "cut 5;");
        Snapshot was = Snapshot.of(x);
        x.goes(99);
        x.wants(50);
        x.spoilt(0);
        x.spoilt(1);
        x.route(0, 63L, 0);
        x.route(1, set(0, 45, 40), 11);
        x.soonest(set(0, 5, 40, 45), 0);
        x.soonest(set(0, 5, 40, 45), 12);
        x.beneath(0, 8);
        x.lookAt(3);
        x.who(8, 0);
        x.holds(1, 1);
        x.parts(0, 45);
        x.yet(8, 99, 500);
        x.heard(2, 9);
        x.read(8);
        due.same("what was thought", was, Snapshot.of(x));
        due.is("it can be undone yet", x.undo(), true);
        due.is("the tape stays", x.text(1), 1);
    }

    // "no DRAWS: nobody falls"
    private static void nobodyFallsInThought() {
        LeftSkate x = made(6, 6, 0);
        tell(x, 0, "skater 0 east 3;");
        x.set(1, 0, 1000);
        due.is("goes on by FALLS of 1000", x.goes(3), set(1, 2, 3));
        due.is("no draw", x.look(7), 0);
        due.is("but he falls", x.minutes(1), 1);
        due.is("where he fell", x.goes(0), set(0));
        due.is("and goes on in thought", x.goes(1), set(0, 1));
        // a fall would leave the LETTER as it is, the step spoils it
        LeftSkate y = made(6, 6, 9);
        tell(y, 2, "letter 0 2 0;letter 0 6 0;");
        tell(y, 3, "want 0 at 0;want 1 at 0;want 1 at 0;");
        tell(y, 0, "skater 0 east 1;");
        y.set(2, 9, 1);
        y.set(1, 0, 1000);
        due.is("SPOILT by FALLS of 1000", y.spoilt(0), 1);
        due.is("which WANT by FALLS of 1000", y.spoilt(1), 0);
        due.is("WANTS by FALLS of 1000", y.wants(1), 2);
        due.is("no draw for them", y.look(7), 0);
        due.is("no line for them", y.look(6), 0);
    }

    // "GOES of n (0 .. 99) MINUTES"
    private static void goesOf0To99() {
        LeftSkate x = made(6, 6);
        x.set(2, 9, 1);
        tell(x, 1, "thaw 1 when minute=98;");
        int[] wrong = {-1, 100, Integer.MIN_VALUE, Integer.MAX_VALUE};
        for (int n : wrong) {
            due.is("goes(" + n + ")", x.goes(n), NONE);
        }
        due.is("goes(0)", x.goes(0), set(9));
        due.is("goes(98)", x.goes(98), set(9));
        due.is("goes(99)", x.goes(99), 0);
        x.set(0, 0, 2);
        due.is("goes(0) by another SIGHT", x.goes(0), 0);
    }

    // "the CELLS that are SEEN then"
    private static void goesAsItWillGo() {
        LeftSkate x = busy();
        x.set(1, 0, 0);
        x.set(0, 0, 2);
        for (int n = 0; n <= 12; n++) {
            LeftSkate then = busy();
            then.set(1, 0, 0);
            then.set(0, 0, 2);
            for (int i = 0; i < n; i++) {
                then.minutes(1);
            }
            long seen = 0;
            for (int cell = 0; cell < 48; cell++) {
                seen |= then.at(cell, 2) == 1 ? 1L << cell : 0;
            }
            due.is("goes(" + n + ") as it will go", x.goes(n), seen);
            int read = 0;
            for (int i = 0; i < 3; i++) {
                read += then.want(i, 2);
            }
            due.is("wants(" + n + ") as it will go", x.wants(n), read);
        }
    }

    // in thought THE LAW is asked by what is then: DEPTH, LATEST, MINUTE and what is SEEN around
    private static void goesByEachFact() {
        String[] laws = {"cut 4 when depth=3;cut 3;", "cut 2 when edge=1;cut 5;", "cut 1 when minute<3;cut 4;", "cut 1 when hand=1;cut 5 when hand=2;",
            "cut 6 when crossed=1;cut 1;", "cut 6 when around>1;cut 1;", "cut 1+depth;thaw 1 when depth>5;", "cut 3;thaw 1 when around=0;",
            "cut 9;thaw minute when edge=0;", "cut 4;thaw 2 when depth<4;", "cut 0 when crossed=1;cut 3;"};
        for (String law : laws) {
            LeftSkate x = crossing(law);
            LeftSkate then = crossing(law);
            for (int n = 0; n <= 10; n++) {
                for (int sight = 1; sight <= 9; sight++) {
                    x.set(0, 0, sight);
                    // around goes by the SIGHT that there is on the way, so each SIGHT goes its own way from the start
                    due.is("goes(" + n + ") by SIGHT " + sight + " and " + law, x.goes(n), seenThen(then, sight, n));
                }
            }
        }
    }

    /** Two SKATERS who cross each other's line, then go over their own again; THE IMAGE is how they begin. */
    private static LeftSkate crossing(String law) {
        LeftSkate x = new LeftSkate();
        x.skater(1, 8);
        x.skater(2, 2);
        tell(x, 0, "skater 0 east 4 west 4;skater 1 rest 1 south 3 north 3;");
        tell(x, 1, law);
        x.image(true);
        return x;
    }

    /** The CELLS that are SEEN when n MINUTES have gone by. */
    private static long seenThen(LeftSkate x, int sight, int n) {
        x.image(false);
        x.set(0, 0, sight);
        if (n > 0) {
            x.minutes(n);
        }
        return x.goes(0);
    }

    private static void wantsOf0To99() {
        LeftSkate x = made(6, 6);
        x.set(2, 9, 1);
        tell(x, 1, "thaw 1 when minute=98;");
        tell(x, 2, "letter 0 2 0;letter 1 0 0;");
        tell(x, 3, "want 0 at 0;want 1 at 9;want 1 at 0;want 1 at 9;");
        int[] wrong = {-1, 100, Integer.MIN_VALUE, Integer.MAX_VALUE};
        for (int n : wrong) {
            due.is("wants(" + n + ")", x.wants(n), NONE);
        }
        due.is("wants(0)", x.wants(0), 3);
        due.is("wants(98)", x.wants(98), 3);
        due.is("wants(99)", x.wants(99), 0);
        tell(x, 3, "want 0 at 0;".repeat(10));
        due.is("all ten", x.wants(98), 10);
        tell(x, 3, "");
        due.is("without WANTS", x.wants(0), 0);
    }

    // thought has no last MINUTE of its own
    private static void thoughtBeyondMinute9999() {
        LeftSkate x = made(6, 6);
        for (int i = 0; i < 166; i++) {
            x.minutes(60);
        }
        x.minutes(39);
        x.set(2, 9, 5);
        tell(x, 1, "thaw 5 when minute>9999;");
        tell(x, 2, "letter 0 2 0;");
        tell(x, 3, "want 0 at 0;");
        due.is("MINUTE 9999", x.look(2), 9999);
        due.is("goes(1)", x.goes(1), set(9));
        due.is("goes(2)", x.goes(2), 0);
        due.is("wants(1)", x.wants(1), 1);
        due.is("wants(2)", x.wants(2), 0);
        due.is("spoilt(0)", x.spoilt(0), 2);
    }

    // ---- SPOILT

    // "the first MINUTE (1 .. 99 from now)"
    private static void spoiltWithin99() {
        LeftSkate x = made(6, 6);
        x.set(2, 9, 1);
        tell(x, 2, "letter 0 2 0;");
        tell(x, 3, "want 0 at 0;");
        int[] last = {0, 1, 97, 98, 99, 100};
        for (int minute : last) {
            tell(x, 1, "thaw 1 when minute=" + minute + ";");
            due.is("the MINUTE when it thaws in " + minute, x.spoilt(0), minute <= 98 ? minute + 1 : NONE);
            due.is("the WANT when it thaws in " + minute, x.spoilt(1), minute <= 98 ? 0 : NONE);
        }
        x.minutes(1);
        due.is("from now: the 100th is the 99th then", x.spoilt(0), NONE);
        tell(x, 1, "thaw 1 when minute=99;");
        due.is("from now: 99", x.spoilt(0), 99);
        x.minutes(9);
        due.is("from now: 90", x.spoilt(0), 90);
    }

    // "the first MINUTE .. behind which a WANT that is READ now is not READ any more"
    private static void spoiltFirst() {
        LeftSkate x = made(6, 6, 10, 24);
        tell(x, 2, "letter 0 2 0;");
        tell(x, 3, "want 0 at 0;want 0 at 24;");
        x.set(2, 9, 1);
        x.set(2, 33, 1);
        due.is("nothing happens", x.spoilt(0), NONE);
        tell(x, 0, "skater 0 west 1;skater 1 rest 3 east 1;");
        due.is("what is cut deeper is READ yet", x.spoilt(0), 4);
        due.is("the other WANT", x.spoilt(1), 1);
        tell(x, 0, "skater 0 rest 1 west 2;skater 1 rest 3 east 1;");
        due.is("the first of two", x.spoilt(0), 3);
        due.is("its WANT", x.spoilt(1), 0);
        // spoilt behind the second MINUTE, READ again behind the third
        tell(x, 0, "skater 0 rest 1 north 1;");
        tell(x, 1, "thaw 2 when minute=2;cut 1;");
        x.set(2, 9, 9);
        x.set(2, 33, 9);
        due.is("behind the second", x.spoilt(0), 2);
        due.is("READ again behind the third", x.wants(3), 2);
    }

    // "a WANT that is READ now"
    private static void spoiltReadNow() {
        LeftSkate x = made(6, 6, 0);
        tell(x, 2, "letter 2 0 0;letter 6 0 0;");
        tell(x, 3, "want 0 at 0;want 1 at 0;");
        tell(x, 0, "skater 0 east 3;");
        due.is("none is READ now", x.spoilt(0), NONE);
        due.is("no WANT", x.spoilt(1), NONE);
        due.is("one will be READ", x.wants(1), 1);
        x.minutes(1);
        due.is("one is READ now", x.want(0, 2), 1);
        due.is("it will not be", x.spoilt(0), 1);
        due.is("that one", x.spoilt(1), 0);
        x.minutes(1);
        due.is("the other one is READ now", x.want(1, 2), 1);
        due.is("nothing spoils it", x.spoilt(0), NONE);
        tell(x, 3, "");
        due.is("without WANTS", x.spoilt(0), NONE);
    }

    // "(of several the least)"
    private static void spoiltLeastWant() {
        LeftSkate x = made(6, 6, 0);
        tell(x, 2, "letter 0 2 0;letter 1 0 0;letter 7 0 0;");
        tell(x, 3, "want 2 at 0;want 1 at 9;want 0 at 0;want 0 at 0;");
        x.set(2, 9, 3);
        tell(x, 1, "thaw 1 when minute=0;thaw 2;");
        due.is("all at once", x.spoilt(0), 2);
        due.is("the least that was READ", x.spoilt(1), 1);
        tell(x, 3, "want 2 at 0;".repeat(9) + "want 0 at 0;");
        due.is("the tenth alone", x.spoilt(1), 9);
    }

    private static void spoiltWhat() {
        LeftSkate x = made(6, 6, 10);
        tell(x, 2, "letter 0 2 0;");
        tell(x, 3, "want 0 at 0;");
        x.set(2, 9, 1);
        tell(x, 0, "skater 0 north 1;");
        due.is("spoilt(0)", x.spoilt(0), 1);
        due.is("spoilt(1)", x.spoilt(1), 0);
        int[] wrong = {-1, 2, Integer.MIN_VALUE, Integer.MAX_VALUE};
        for (int what : wrong) {
            due.is("spoilt(" + what + ")", x.spoilt(what), NONE);
        }
    }

    // ---- ROUTE

    // "(more than 9, others than CELLS)"
    private static void routeOfNine() {
        LeftSkate x = made(8, 7, 0);
        due.is("nine in a row and below", x.route(0, set(0, 1, 2, 3, 4, 5, 6, 7, 15), 0), 8);
        due.is("the ninth", x.route(0, set(0, 1, 2, 3, 4, 5, 6, 7, 15), 18), 15);
        due.is("ten", x.route(0, set(0, 1, 2, 3, 4, 5, 6, 7, 15, 14), 0), NONE);
        due.is("all", x.route(0, (1L << 56) - 1, 0), NONE);
        due.is("all bits", x.route(0, -1L, 0), NONE);
        LeftSkate y = made(5, 4, 0);
        for (int cell = 0; cell < 64; cell++) {
            boolean is = cell % 8 < 5 && cell / 8 < 4;
            due.is("a route to " + cell, y.route(0, 1L << cell, 0), is ? cell % 8 + cell / 8 : NONE);
            due.is("a route to 0 and " + cell, y.route(0, 1L | 1L << cell, 0), is ? cell % 8 + cell / 8 : NONE);
        }
        int[] nobody = {-1, 1, 6, Integer.MIN_VALUE, Integer.MAX_VALUE};
        for (int skater : nobody) {
            due.is("a route of " + skater, y.route(skater, 1L, 0), NONE);
        }
    }

    private static void routeOfNone() {
        LeftSkate x = made(6, 6, 9);
        due.is("over no CELLS", x.route(0, 0L, 0), 0);
        due.is("over no CELLS, the first", x.route(0, 0L, 10), NONE);
        due.is("where he is", x.route(0, set(9), 0), 0);
        due.is("where he is, the first", x.route(0, set(9), 10), 9);
        due.is("where he is, the second", x.route(0, set(9), 11), NONE);
    }

    // "what 0 steps, 10 + i the i-th CELL. NONE if .. another what"
    private static void routeWhat() {
        LeftSkate x = made(6, 6, 9);
        long cells = set(10, 12, 28);
        int[] answers = {10, 12, 28};
        for (int what = -2; what < 24; what++) {
            int is = what == 0 ? 5 : what >= 10 && what < 13 ? answers[what - 10] : NONE;
            due.is("route what " + what, x.route(0, cells, what), is);
        }
        due.is("what of the least int", x.route(0, cells, Integer.MIN_VALUE), NONE);
        due.is("what of the greatest int", x.route(0, cells, Integer.MAX_VALUE), NONE);
        due.is("what of the least int and 10", x.route(0, cells, Integer.MIN_VALUE + 10), NONE);
    }

    // "in which order: of several the first (the lesser CELL)"
    private static void routeLesserCell() {
        LeftSkate x = made(6, 6, 9);
        // all four beside him: each two steps from the others
        int[] four = {1, 8, 10, 17};
        due.is("four beside him", x.route(0, set(four), 0), 7);
        for (int i = 0; i < 4; i++) {
            due.is("the lesser ahead, " + i, x.route(0, set(four), 10 + i), four[i]);
        }
        LeftSkate y = made(8, 7, 20);
        due.is("16 and 23: as far", y.route(0, set(16, 23), 0), 10);
        due.is("23 is nearer", y.route(0, set(16, 23), 10), 23);
        due.is("17 and 23: as far", y.route(0, set(17, 23), 0), 9);
        due.is("17 is the lesser", y.route(0, set(17, 23), 10), 17);
        due.is("18 and 22: both 2 away", y.route(0, set(18, 22), 10), 18);
        due.is("4 and 36: above and below", y.route(0, set(4, 36), 10), 4);
        due.is("then the other", y.route(0, set(4, 36), 11), 36);
    }

    // ---- SOONEST

    private static void soonestOfNine() {
        LeftSkate x = made(8, 7, 0);
        long nine = set(0, 1, 2, 3, 4, 5, 6, 7, 15);
        due.is("nine of one SKATER", x.soonest(nine, 0), 8);
        due.is("the ninth is his", x.soonest(nine, 18), 0);
        due.is("no tenth", x.soonest(nine, 19), NONE);
        due.is("ten", x.soonest(nine | set(14), 0), NONE);
        due.is("all bits", x.soonest(-1L, 0), NONE);
        for (int s = 1; s < 6; s++) {
            x.skater(1, 9 * s + 2);
        }
        due.is("ten of six SKATERS", x.soonest(nine | set(14), 0), NONE);
        LeftSkate y = made(5, 4, 0);
        for (int cell = 0; cell < 64; cell++) {
            boolean is = cell % 8 < 5 && cell / 8 < 4;
            due.is("soonest to " + cell, y.soonest(1L << cell, 0), is ? cell % 8 + cell / 8 : NONE);
        }
    }

    // "NONE if one can't be (without SKATERS, too)"
    private static void soonestWithoutSkaters() {
        LeftSkate x = made(6, 6);
        due.is("nobody, one CELL", x.soonest(1L, 0), NONE);
        due.is("nobody, no CELLS", x.soonest(0L, 0), NONE);
        due.is("nobody goes", x.soonest(1L, 10), NONE);
        x.skater(1, 45);
        due.is("one SKATER", x.soonest(1L, 0), 10);
        due.is("he goes", x.soonest(1L, 10), 0);
    }

    private static void soonestOfNone() {
        LeftSkate x = made(6, 6, 9, 10);
        due.is("over no CELLS", x.soonest(0L, 0), 0);
        due.is("over no CELLS, the first", x.soonest(0L, 10), NONE);
        due.is("where they are", x.soonest(set(9, 10), 0), 0);
        due.is("each his own", x.soonest(set(9, 10), 10) * 10 + x.soonest(set(9, 10), 11), 1);
    }

    private static void soonestWhat() {
        LeftSkate x = made(6, 6, 0, 45);
        long cells = set(1, 37, 44);
        int[] answers = {0, 1, 1};
        for (int what = -2; what < 24; what++) {
            int is = what == 0 ? 3 : what >= 10 && what < 13 ? answers[what - 10] : NONE;
            due.is("soonest what " + what, x.soonest(cells, what), is);
        }
        due.is("what of the least int", x.soonest(cells, Integer.MIN_VALUE), NONE);
        due.is("what of the greatest int", x.soonest(cells, Integer.MAX_VALUE), NONE);
    }

    // "who goes to a CELL: of several ways the first (CELL by CELL, the lesser SKATER)"
    private static void soonestLesserSkater() {
        LeftSkate x = made(6, 6, 0, 5);
        // 5 is SKATER 1's own, but SKATER 0 comes there in the five steps that 45 takes the other
        due.is("5 and 45", x.soonest(set(5, 45), 0), 5);
        due.is("5 by the lesser", x.soonest(set(5, 45), 10), 0);
        due.is("45 by the other", x.soonest(set(5, 45), 11), 1);
        LeftSkate y = made(8, 7, 0, 0, 0, 0, 0, 0);
        due.is("1 and 54 lie on one way", y.soonest(set(1, 54), 0), 12);
        due.is("1 by the least", y.soonest(set(1, 54), 10), 0);
        due.is("54 by the least", y.soonest(set(1, 54), 11), 0);
        due.is("7 and 48 do not", y.soonest(set(7, 48), 0), 7);
        due.is("7 by the least", y.soonest(set(7, 48), 10), 0);
        due.is("48 by the next", y.soonest(set(7, 48), 11), 1);
    }

    // "SOONEST of all SKATERS": six of them
    private static void soonestOfAll() {
        LeftSkate x = made(8, 7, 0, 7, 48, 55, 3, 51);
        long six = set(0, 3, 7, 48, 51, 55);
        int[] own = {0, 4, 1, 2, 5, 3};
        due.is("each is there", x.soonest(six, 0), 0);
        for (int i = 0; i < 6; i++) {
            due.is("CELL " + i + " by its own", x.soonest(six, 10 + i), own[i]);
        }
        long nine = six | set(1, 27, 54);
        due.is("three more", x.soonest(nine, 0), 3);
    }

    // ---- BENEATH, LOOK, WHO, HOLDS

    // "their shape and that of the LETTER together are just what is SEEN (a set)"
    private static void beneathBounds() {
        LeftSkate x = made(3, 3);
        tell(x, 2, "letter 1 0 0;letter 2 0 0;letter 3 0 0;letter 7 0 0;letter 3 0 0;letter 0 1 0;letter 2 0 0;letter 1 0 0;");
        show(x, 0, 3);
        due.is("beneath 0", x.beneath(0, 0), 2 + 4 + 16 + 64);
        due.is("beneath 2, itself, too", x.beneath(2, 0), 1 + 2 + 4 + 16 + 64 + 128);
        due.is("beneath 3: it has more than is SEEN", x.beneath(3, 0), 0);
        due.is("beneath 7", x.beneath(7, 0), 2 + 4 + 16 + 64);
        due.is("beneath 8: no LETTER", x.beneath(8, 0), NONE);
        due.is("beneath -1: no LETTER", x.beneath(-1, 0), NONE);
        due.is("beneath the least int", x.beneath(Integer.MIN_VALUE, 0), NONE);
        due.is("beneath the greatest int", x.beneath(Integer.MAX_VALUE, 0), NONE);
        show(x, 0, 0);
        due.is("nothing is SEEN", x.beneath(0, 0), 0);
        tell(x, 2, "");
        due.is("without LETTERS", x.beneath(0, 0), NONE);
    }

    // "just what is SEEN": by the SIGHT that there is
    private static void beneathBySight() {
        LeftSkate x = made(6, 6);
        tell(x, 2, "letter 1 0 0;letter 2 0 0;letter 3 0 0;");
        x.set(2, 0, 9);
        x.set(2, 1, 4);
        for (int sight = 1; sight <= 9; sight++) {
            x.set(0, 0, sight);
            due.is("beneath 0 by SIGHT " + sight, x.beneath(0, 0), sight <= 4 ? 2 + 4 : 1);
            due.is("beneath 1 by SIGHT " + sight, x.beneath(1, 0), sight <= 4 ? 1 + 4 : 0);
        }
        // only the nine CELLS of the box: those around it are as they are
        x.set(0, 0, 1);
        due.is("beneath 0 at 1", x.beneath(0, 1), 1);
        for (int cell = 0; cell < 48; cell++) {
            if (cell % 8 > 2 && cell % 8 < 6 || cell / 8 > 2 && cell % 8 < 6) {
                x.set(2, cell, 9);
            }
        }
        due.is("beneath 0 whatever is around", x.beneath(0, 0), 2 + 4);
    }

    // "NONE if the set is none of LETTERS, or has fewer than two"
    private static void lookAtBounds() {
        LeftSkate x = made(6, 6);
        int[] sets = {0, 1, 3, -1, 256, 255, 257, Integer.MIN_VALUE, Integer.MAX_VALUE, Integer.MIN_VALUE + 3};
        for (int set : sets) {
            due.is("lookAt(" + set + ") without LETTERS", x.lookAt(set), NONE);
        }
        for (int letters = 1; letters <= 8; letters++) {
            LeftSkate y = made(6, 6);
            tell(y, 2, "letter 0 0 1;".repeat(letters));
            for (int set = 0; set < 1 << letters; set++) {
                due.is("lookAt(" + set + ") of " + letters, y.lookAt(set), Integer.bitCount(set) >= 2 ? 0 : NONE);
            }
            for (int beyond = letters; beyond < 32; beyond++) {
                due.is("lookAt, " + beyond + " of " + letters, y.lookAt(3 | 1 << beyond), NONE);
            }
            due.is("lookAt(-1) of " + letters, y.lookAt(-1), NONE);
        }
    }

    // "the greater number is least; of several the least"
    private static void lookAtOfSeveral() {
        LeftSkate x = made(6, 6);
        tell(x, 2, "letter 1 1 1;letter 1 1 0;letter 1 0 0;letter 3 0 4;");
        due.is("cell 3 of 0 .. 3, half of them", x.lookAt(15), 3);
        due.is("0 and 1: cell 6", x.lookAt(3), 6);
        due.is("1 and 2: cell 3", x.lookAt(6), 3);
        due.is("2 and 3: cell 1 ahead of 8", x.lookAt(12), 1);
        due.is("1 and 3: cell 1 ahead of 3 and 8", x.lookAt(10), 1);
        due.is("0, 1, 2: cell 3 and 6 are as good", x.lookAt(7), 3);
        tell(x, 2, "letter 1 0 4;letter 1 0 0;");
        due.is("cell 8, the last", x.lookAt(3), 8);
        tell(x, 2, "letter 7 7 7;letter 6 7 7;letter 7 7 7;");
        due.is("one has it not", x.lookAt(7), 0);
        due.is("none tells them apart", x.lookAt(5), 0);
    }

    // "the SKATER (NONE), 1 all (a set)"
    private static void whoNobody() {
        LeftSkate x = made(6, 6, 0, 45);
        due.is("nobody", x.who(0, 0), NONE);
        due.is("none", x.who(0, 1), 0);
        x.set(2, 9, 9);
        due.is("nobody cut it", x.who(0, 0), NONE);
        due.is("none cut it", x.who(0, 1), 0);
        tell(x, 0, "skater 1 west 1;");
        x.minutes(1);
        due.is("SKATER 1", x.who(27, 0), 1);
        due.is("SKATER 1 alone", x.who(27, 1), 2);
        due.is("another box", x.who(26, 0), 1);
        due.is("not within the box", x.who(24, 0), NONE);
        int[] whats = {-1, 2, Integer.MIN_VALUE, Integer.MAX_VALUE};
        for (int what : whats) {
            due.is("who(27, " + what + ")", x.who(27, what), NONE - 1);
        }
    }

    // "the one with most of them (of several the least)"
    private static void whoOfSeveral() {
        LeftSkate x = made(8, 7, 0, 8, 16, 0, 0, 0);
        tell(x, 0, "skater 1 south 1 north 2 east 1;skater 0 rest 4 south 2;");
        x.minutes(6);
        // 16 and 8 were SKATER 1's, then SKATER 0's; 0 and 1 are SKATER 1's
        due.is("two of each, the least", x.who(0, 0), 0);
        due.is("both", x.who(0, 1), 3);
        due.is("one of 0 alone", x.who(8, 0), 0);
        due.is("one of 1 alone", x.who(1, 0), 1);
        tell(x, 0, "skater 5 east 1;");
        x.minutes(1);
        due.is("one of 1, one of 5, two of 0", x.who(0, 0), 0);
        due.is("all three", x.who(0, 1), 1 + 2 + 32);
        tell(x, 0, "skater 1 east 1 south 1;");
        x.minutes(2);
        due.is("three of 1", x.who(0, 0), 1);
        due.is("5 yet", x.who(0, 1), 1 + 2 + 32);
    }

    // "by how many SEEN CELLS in it"
    private static void whoSeenAlone() {
        LeftSkate x = made(6, 6, 0, 16);
        tell(x, 0, "skater 0 east 2;skater 1 east 1;");
        tell(x, 1, "cut 3 when hand=1 and edge=0;cut 2;");
        x.minutes(2);
        due.is("two of 0", x.who(0, 0), 0);
        x.set(0, 0, 2);
        due.is("2 deep by SIGHT 2", x.who(0, 1), 3);
        x.set(0, 0, 3);
        due.is("by SIGHT 3 the other", x.who(0, 0), 1);
        due.is("by SIGHT 3 he alone", x.who(0, 1), 2);
        x.set(0, 0, 4);
        due.is("by SIGHT 4 nobody", x.who(0, 0), NONE);
        due.is("by SIGHT 4 none", x.who(0, 1), 0);
    }

    // "by how many SEEN CELLS in it": each of the nine, none of those around
    private static void whoWithinTheBox() {
        for (int at = 0; at < 48; at++) {
            if (at % 8 > 5) {
                continue;
            }
            // he falls where he is: the one CELL whose LATEST he is
            LeftSkate x = made(6, 6, at);
            tell(x, 0, "skater 0 rest 1;");
            x.set(1, 0, 1000);
            x.minutes(1);
            for (int box = 0; box < 32; box++) {
                if (box % 8 > 3) {
                    continue;
                }
                boolean in = at % 8 >= box % 8 && at % 8 <= box % 8 + 2 && at / 8 >= box / 8 && at / 8 <= box / 8 + 2;
                due.is("who(" + box + ", 0), cut at " + at, x.who(box, 0), in ? 0 : NONE);
                due.is("who(" + box + ", 1), cut at " + at, x.who(box, 1), in ? 1 : 0);
            }
        }
    }

    // "d (1 .. 9)"
    private static void holdsBounds() {
        LeftSkate x = made(6, 6);
        int[] wrong = {0, -1, 10, Integer.MIN_VALUE, Integer.MAX_VALUE};
        for (int d = 1; d <= 9; d++) {
            due.is("holds(" + d + ", 0) without LETTERS", x.holds(d, 0), 0);
            due.is("holds(" + d + ", 1) without LETTERS", x.holds(d, 1), 0);
        }
        tell(x, 2, "letter 5 2 5;letter 2 5 2;letter 5 2 1;");
        for (int d : wrong) {
            due.is("holds(" + d + ", 0)", x.holds(d, 0), NONE);
            due.is("holds(" + d + ", 1)", x.holds(d, 1), NONE);
        }
        // 0 and 1 differ in all nine, 1 and 2 in eight, 0 and 2 in one
        int[] most = {3, 2, 2, 2, 2, 2, 2, 2, 2};
        int[] sets = {7, 3, 3, 3, 3, 3, 3, 3, 3};
        for (int d = 1; d <= 9; d++) {
            due.is("holds(" + d + ", 0)", x.holds(d, 0), most[d - 1]);
            due.is("holds(" + d + ", 1)", x.holds(d, 1), sets[d - 1]);
        }
        int[] whats = {-1, 2, Integer.MIN_VALUE, Integer.MAX_VALUE};
        for (int what : whats) {
            due.is("holds(1, " + what + ")", x.holds(1, what), NONE);
        }
        tell(x, 2, "letter 5 2 1;letter 2 5 2;");
        due.is("eight are enough for 8", x.holds(8, 0), 2);
        due.is("eight are too few for 9", x.holds(9, 0), 1);
        due.is("the first alone", x.holds(9, 1), 1);
    }

    // "the most LETTERS ..; of several such sets the least"
    private static void holdsOfSeveral() {
        LeftSkate x = made(6, 6);
        tell(x, 2, "letter 1 0 0;letter 1 0 0;letter 2 0 0;");
        due.is("0 or 1, and 2", x.holds(1, 0), 2);
        due.is("0 and 2", x.holds(1, 1), 5);
        due.is("0 and 2 differ in two", x.holds(2, 1), 5);
        due.is("none in three: one LETTER", x.holds(3, 0), 1);
        due.is("the first one", x.holds(3, 1), 1);
        tell(x, 2, "letter 1 0 0;letter 2 0 0;letter 3 0 0;letter 4 0 0;letter 5 0 0;letter 6 0 0;letter 7 0 0;letter 0 1 0;");
        due.is("all eight", x.holds(1, 0), 8);
        due.is("all eight, the set", x.holds(1, 1), 255);
        // those of an odd number of cells: 1, 2, 4, 7 of three, and 8
        due.is("five that differ in two", x.holds(2, 0), 5);
        due.is("which five", x.holds(2, 1), 1 + 2 + 8 + 64 + 128);
    }

    // ---- PARTS, YET, CROSSED, HEARD

    // "PARTS two CELLS (unlike)"; "none, if they are beside one another"; "NONE if .. one can't be"
    private static void partsBounds() {
        LeftSkate x = made(5, 4);
        for (int a = -1; a < 34; a++) {
            boolean isA = a >= 0 && a % 8 < 5 && a / 8 < 4;
            int[] others = {a, a + 1, a - 1, a + 8, a - 8, 64, -1, Integer.MIN_VALUE};
            for (int b : others) {
                boolean beside = !isA || b < 0 || b > 63 || b % 8 >= 5 || b / 8 >= 4 || a / 8 == b / 8 || a % 8 == b % 8;
                due.is("parts(" + a + ", " + b + ")", x.parts(a, b) == NONE, beside);
            }
        }
        due.is("two apart", x.parts(8, 10), 3);
        due.is("aslant", x.parts(0, 9), 2);
        due.is("aslant, the other way", x.parts(9, 0), 2);
        due.is("no CELL", x.parts(0, 5), NONE);
        due.is("no CELL", x.parts(32, 0), NONE);
        due.is("the greatest int", x.parts(0, Integer.MAX_VALUE), NONE);
    }

    // as many as lie around the one with fewer of them
    private static void partsOfRims() {
        LeftSkate x = made(8, 7);
        due.is("two corners", x.parts(0, 55), 2);
        due.is("a corner and the midst", x.parts(0, 27), 2);
        due.is("two rims", x.parts(4, 52), 3);
        due.is("a rim and the midst", x.parts(24, 28), 3);
        due.is("the midst", x.parts(18, 37), 4);
        due.is("the midst, in one row", x.parts(25, 27), 4);
        LeftSkate y = made(3, 3);
        due.is("3 by 3, the corners", y.parts(0, 18), 2);
        due.is("3 by 3, two rims", y.parts(1, 17), 3);
        due.is("3 by 3, rims aslant", y.parts(1, 8), 3);
        due.is("3 by 3, a corner and the midst", y.parts(0, 9), 2);
        LeftSkate z = made(3, 7);
        due.is("3 wide: a row", z.parts(9, 33), 3);
    }

    // "the fewest other CELLS that must be barred so that no way leads from one to the other (side by side)"
    private static void partsByTryingAllBars() {
        int[][] sizes = {{3, 3}, {4, 3}, {3, 7}, {8, 3}, {4, 4}, {5, 4}, {4, 7}, {5, 5}};
        for (int[] size : sizes) {
            int w = size[0];
            int all = w * size[1];
            for (int a = 0; a < all; a++) {
                LeftSkate x = made(w, size[1]);
                for (int b = 0; b < all; b++) {
                    boolean apart = Math.abs(a % w - b % w) + Math.abs(a / w - b / w) > 1;
                    String call = w + " by " + size[1] + ": parts(" + told(a, w) + ", " + told(b, w) + ")";
                    due.is(call, x.parts(told(a, w), told(b, w)), apart ? fewestBars(size, a, b) : NONE);
                }
            }
        }
    }

    /** The CELL that stands at that place when all are counted row by row. */
    private static int told(int place, int w) {
        return 8 * (place / w) + place % w;
    }

    private static int fewestBars(int[] size, int a, int b) {
        for (int bars = 0; bars < 4; bars++) {
            if (canPart(size, a, b, bars, 0, 0)) {
                return bars;
            }
        }
        // no CELL has more beside it
        return 4;
    }

    private static boolean canPart(int[] size, int a, int b, int bars, int from, int barred) {
        if (bars == 0) {
            return !leads(size, a, b, barred);
        }
        for (int c = from; c < size[0] * size[1]; c++) {
            if (c != a && c != b && canPart(size, a, b, bars - 1, c + 1, barred | 1 << c)) {
                return true;
            }
        }
        return false;
    }

    private static boolean leads(int[] size, int a, int b, int barred) {
        int w = size[0];
        int left = 0;
        int right = 0;
        for (int y = 0; y < size[1]; y++) {
            left |= 1 << y * w;
            right |= 1 << y * w + w - 1;
        }
        int open = (1 << w * size[1]) - 1 & ~barred;
        int reached = 0;
        int next = 1 << a;
        while (next != reached && (next >> b & 1) == 0) {
            reached = next;
            next |= (reached << w | reached >>> w | (reached & ~right) << 1 | (reached & ~left) >>> 1) & open;
        }
        return (next >> b & 1) == 1;
    }

    // "n (1 .. 99)", "(p 0 .. 1000)"
    private static void yetBounds() {
        LeftSkate x = made(6, 6);
        x.set(2, 45, 1);
        int[] wrongN = {0, -1, 100, Integer.MIN_VALUE, Integer.MAX_VALUE};
        for (int n : wrongN) {
            due.is("yet of " + n + " MINUTES", x.yet(45, n, 0), NONE);
        }
        int[] wrongP = {-1, 1001, Integer.MIN_VALUE, Integer.MAX_VALUE};
        for (int p : wrongP) {
            due.is("yet with " + p, x.yet(45, 1, p), NONE);
        }
        int[] wrongCells = {-1, 6, 46, 48, 64, Integer.MIN_VALUE, Integer.MAX_VALUE};
        for (int cell : wrongCells) {
            due.is("yet of CELL " + cell, x.yet(cell, 1, 0), NONE);
        }
        due.is("p 0", x.yet(45, 99, 0), 1000000);
        due.is("p 1", x.yet(45, 1, 1), 999000);
        due.is("p 999", x.yet(45, 1, 999), 1000);
        due.is("p 1000", x.yet(45, 1, 1000), 0);
        x.set(2, 45, 9);
        due.is("9 deep, 8 MINUTES", x.yet(45, 8, 1000), 1000000);
        due.is("9 deep, 9 MINUTES", x.yet(45, 9, 1000), 0);
        x.set(0, 0, 9);
        due.is("9 deep by SIGHT 9, no p", x.yet(45, 1, 0), 1000000);
        due.is("9 deep by SIGHT 9", x.yet(45, 1, 1000), 0);
        x.set(2, 45, 8);
        due.is("8 deep by SIGHT 9", x.yet(45, 1, 0), 0);
    }

    // "of DEPTH d p goes to d - 1, downwards, the rest stays"
    private static void yetDownwards() {
        LeftSkate x = made(6, 6);
        x.set(2, 0, 1);
        due.is("1000 of 1000000 go", x.yet(0, 1, 1), 999000);
        due.is("999 of 999000 go", x.yet(0, 2, 1), 998001);
        due.is("998 of 998001 go", x.yet(0, 3, 1), 997003);
        due.is("999 of 1000 go", x.yet(0, 2, 999), 1);
        due.is("none of 1 goes", x.yet(0, 3, 999), 1);
        due.is("none ever", x.yet(0, 99, 999), 1);
        due.is("half of an odd number", x.yet(0, 7, 500), 7813);
        x.set(2, 0, 2);
        due.is("from 2 to 1 alone", x.yet(0, 1, 999), 1000000);
        // 2 deep 1000, 1 deep 999000; then 1, and 999000 - 998001 + 999
        due.is("then from 1 to 0", x.yet(0, 2, 999), 1 + 999 + 999);
    }

    // "loses one DEPTH .. (0 at least)"
    private static void yet0AtLeast() {
        LeftSkate x = made(6, 6);
        due.is("0 deep", x.yet(0, 99, 1000), 0);
        due.is("0 deep, p 0", x.yet(0, 1, 0), 0);
        for (int depth = 1; depth <= 9; depth++) {
            x.set(2, 0, depth);
            due.is("one MINUTE too few for " + depth, x.yet(0, Math.max(1, depth - 1), 1000), depth == 1 ? 0 : 1000000);
            due.is("as many MINUTES as " + depth, x.yet(0, depth, 1000), 0);
            due.is("all the MINUTES for " + depth, x.yet(0, 99, 1000), 0);
        }
        due.is("DEPTH stays", x.at(0, 0), 9);
    }

    // "skate down, end on a CELL whose LATEST is another one (LATEST as it is now)"
    private static void crossedBounds() {
        LeftSkate x = made(6, 6, 8, 0);
        due.is("no way", x.of(1, 5), 0);
        tell(x, 0, "skater 0 east 2;");
        x.minutes(2);
        tell(x, 0, "skater 1 south 1 east 2 rest 3;skater 0 west 1 east 1 west 1;");
        due.is("9 and 10", x.of(1, 5), 2);
        due.is("his own", x.of(0, 5), 0);
        tell(x, 0, "skater 1 lift south 1 east 2;");
        due.is("lifted", x.of(1, 5), 0);
        tell(x, 0, "skater 1 lift south 1 east 1 down east 1;");
        due.is("down for the last one", x.of(1, 5), 1);
        tell(x, 0, "skater 1 south 1 east 2 lift;");
        due.is("lifted behind the last one", x.of(1, 5), 2);
        tell(x, 0, "skater 1 lift south 1 east 2 down;");
        due.is("down behind the last one", x.of(1, 5), 0);
        x.minutes(1);
        due.is("lifted yet", x.of(1, 5), 0);
        tell(x, 0, "skater 1 east 2 west 1;");
        // three ways over 9, 10 and 9: what he cuts now stays another's in thought
        due.is("LATEST as it is now", x.of(1, 5), 3);
        x.minutes(1);
        due.is("from now on", x.of(1, 5), 1);
        x.minutes(2);
        due.is("none is left", x.of(1, 5), 0);
        // alone: that the other one comes there ahead of him does not count
        tell(x, 0, "skater 0 south 3;skater 1 rest 9 south 1 east 1 south 9;");
        due.is("alone", x.of(1, 5), 0);
    }

    // "CELLS a SKATER may be at after n (0 .. 9) steps of whatever way or none"
    private static void heardBounds() {
        int[][] sizes = {{8, 7}, {3, 3}, {5, 4}};
        for (int[] size : sizes) {
            int[] from = {0, size[0] - 1, 8 * (size[1] - 1), 9, 8 * (size[1] - 1) + size[0] - 1};
            LeftSkate x = made(size[0], size[1], from);
            for (int s = 0; s < from.length; s++) {
                for (int n = 0; n <= 9; n++) {
                    due.is("heard from " + from[s] + " after " + n, x.heard(s, n), within(size[0], size[1], from[s], n));
                }
            }
        }
        LeftSkate y = made(6, 6, 9);
        int[] wrongN = {-1, 10, Integer.MIN_VALUE, Integer.MAX_VALUE};
        for (int n : wrongN) {
            due.is("heard(0, " + n + ")", y.heard(0, n), NONE);
        }
        int[] nobody = {-1, 1, 6, Integer.MIN_VALUE, Integer.MAX_VALUE};
        for (int s : nobody) {
            due.is("heard(" + s + ", 0)", y.heard(s, 0), NONE);
        }
    }

    private static long within(int w, int h, int from, int n) {
        long set = 0;
        for (int py = 0; py < h; py++) {
            for (int px = 0; px < w; px++) {
                if (Math.abs(px - from % 8) + Math.abs(py - from / 8) <= n) {
                    set |= 1L << 8 * py + px;
                }
            }
        }
        return set;
    }

    // ---- UNDO, THE IMAGE, look

    // "6 are kept"
    private static void undoSix() {
        for (int minutes = 1; minutes <= 8; minutes++) {
            LeftSkate x = made(6, 6, 0);
            tell(x, 0, "skater 0 east 5 south 5;");
            x.minutes(minutes);
            int kept = Math.min(6, minutes);
            due.is(minutes + " MINUTES: look(12)", x.look(12), kept);
            for (int i = 1; i <= kept; i++) {
                due.is("undone", x.undo(), true);
                due.is("MINUTE", x.look(2), minutes - i);
                due.is("look(12)", x.look(12), kept - i);
            }
            due.is("no more", x.undo(), false);
            due.is("MINUTE yet", x.look(2), minutes - kept);
            due.is("look(12) yet", x.look(12), 0);
        }
    }

    // "the latest MINUTE not undone yet .. 6 are kept": of those before an undo and those behind it
    private static void undoSixAmongUndone() {
        LeftSkate x = made(6, 6, 0);
        tell(x, 0, "skater 0 east 5 south 5;");
        tell(x, 1, "cut 1;");
        x.minutes(4);
        x.undo();
        x.undo();
        x.minutes(5);
        due.is("2 and 5 MINUTES: six", x.look(12), 6);
        for (int minute = 6; minute >= 1; minute--) {
            due.is("undone", x.undo(), true);
            due.is("back at MINUTE " + minute, x.look(2), minute);
            due.is("as many steps are done", x.of(0, 3), minute);
            due.is("as many lines", x.look(6), minute);
            due.is("as many CELLS are SEEN", x.look(13), minute);
        }
        due.is("the first one is not kept", x.undo(), false);
        x.minutes(60);
        due.is("60 MINUTES: six", x.look(12), 6);
        x.undo();
        due.is("the latest of them", x.look(2), 60);
    }

    // "true; false if there is nothing"
    private static void undoNothing() {
        LeftSkate x = busy();
        x.set(0, 0, 1);
        Snapshot was = Snapshot.of(x);
        due.is("nothing to undo", x.undo(), false);
        due.same("nothing undone", was, Snapshot.of(x));
        LeftSkate y = new LeftSkate();
        due.is("a new one", y.undo(), false);
        y.minutes(1);
        due.is("one", y.undo(), true);
        due.is("and no other", y.undo(), false);
    }

    // "the latest MINUTE not undone yet goes back (STATE, THE BOOK, too)"
    private static void undoStateAndBook() {
        LeftSkate x = busy();
        Snapshot was = Snapshot.ofAllButUndo(x);
        int[] state = new int[4];
        int[] lines = new int[4];
        for (int i = 0; i < 4; i++) {
            state[i] = x.look(7);
            lines[i] = x.look(6);
            x.minutes(1);
        }
        for (int i = 3; i >= 0; i--) {
            x.undo();
            due.is("STATE back", x.look(7), state[i]);
            due.is("THE BOOK back", x.look(6), lines[i]);
            due.is("no line behind it", x.book(lines[i], 0), NONE);
        }
        due.is("there were draws", state[3] != state[0], true);
        due.is("there were lines", lines[3] > lines[0], true);
        due.same("four undone", was, Snapshot.ofAllButUndo(x));
        due.is("two are left", x.look(12), 2);
    }

    private interface Call {
        void on(LeftSkate x);
    }

    private static LeftSkate withPast(Call call) {
        LeftSkate x = made(6, 6, 0);
        x.image(true);
        x.minutes(3);
        call.on(x);
        return x;
    }

    private static void forgets(String name, Call call) {
        LeftSkate x = withPast(call);
        due.is(name + ": look(12)", x.look(12), 0);
        due.is(name + ": undo", x.undo(), false);
    }

    private static void keeps(String name, Call call) {
        LeftSkate x = withPast(call);
        due.is(name + ": look(12)", x.look(12), 3);
        due.is(name + ": undo", x.undo(), true);
        due.is(name + ": MINUTE", x.look(2), 2);
    }

    // "whatever else is told .. forgets them"; "what can be undone (nothing then)"
    private static void undoForgotten() {
        forgets("state, as it is", x -> x.state(0));
        forgets("basin, as it is", x -> x.basin(6, 6));
        forgets("skater", x -> x.skater(0, 0));
        forgets("SIGHT, as it is", x -> x.set(0, 0, 1));
        forgets("FALLS, as they are", x -> x.set(1, 0, 0));
        forgets("DEPTH, as it is", x -> x.set(2, 0, 0));
        forgets("a CELL of a SKATER, as it is", x -> x.set(3, 0, 0));
        forgets("WAYS", x -> Due.tell(x, 0, "skater 0;"));
        forgets("empty WAYS", x -> Due.tell(x, 0, ""));
        forgets("the image gone back to", x -> x.image(false));
    }

    // "but THE LAW, LETTERS, WANTS (the taking of THE IMAGE does not)"; what is refused is not told
    private static void undoNotForgotten() {
        keeps("THE LAW", x -> Due.tell(x, 1, "cut 1;"));
        keeps("LETTERS", x -> Due.tell(x, 2, "letter 1 0 0;"));
        keeps("WANTS", x -> Due.tell(x, 3, ""));
        keeps("the image taken", x -> x.image(true));
        keeps("a fault of WAYS", x -> Due.tell(x, 0, "skater 1;"));
        keeps("no such text", x -> x.text(4));
        keeps("no such basin", x -> x.basin(9, 6));
        keeps("no such skater", x -> x.skater(10, 0));
        keeps("no such DEPTH", x -> x.set(2, 0, 10));
        keeps("no such MINUTES", x -> x.minutes(61));
        LeftSkate x = made(6, 6, 0);
        tell(x, 2, "letter 1 0 0;");
        tell(x, 3, "want 0 at 0;");
        x.minutes(1);
        tell(x, 1, "cut 7;");
        tell(x, 2, "letter 2 0 0;letter 4 0 0;");
        x.undo();
        due.is("THE LAW does not go back", x.cut(0, 0), 7);
        due.is("LETTERS do not go back", x.letter(0), 2);
        due.is("WANTS do not come back", x.look(11), 0);
    }

    // "(LETTERS told anew: WANTS are none.)"
    private static void lettersToldAnew() {
        String[] anew = {"letter 1 0 0;letter 2 0 0;", "letter 1 0 0;letter 2 0 0;letter 4 0 0;", ""};
        for (String letters : anew) {
            LeftSkate x = made(6, 6);
            tell(x, 2, "letter 1 0 0;letter 2 0 0;");
            tell(x, 3, "want 0 at 0;want 1 at 0;");
            due.is("two WANTS", x.look(11), 2);
            due.is("a fault", Due.tell(x, 2, letters + "letter 0 0 0;"), NONE);
            due.is("two WANTS yet", x.look(11), 2);
            due.is("two LETTERS yet", x.look(10), 2);
            tell(x, 2, letters);
            due.is("no WANTS", x.look(11), 0);
            due.is("no WANT", x.want(0, 0), NONE);
        }
    }

    // "true; false if there is none"
    private static void imageNone() {
        LeftSkate x = busy();
        Snapshot was = Snapshot.of(x);
        due.is("no image", x.image(false), false);
        due.same("no image to go back to", was, Snapshot.of(x));
        due.is("an image is taken", x.image(true), true);
        due.is("an image", x.image(false), true);
        due.is("and gone back to at once: nothing to undo", x.look(12), 0);
        LeftSkate y = busy();
        y.image(true);
        due.same("the image taken", was, Snapshot.of(y));
    }

    // "gone back to it may be more than once"
    private static void imageMoreThanOnce() {
        LeftSkate x = busy();
        Snapshot was = Snapshot.ofAllButUndo(x);
        x.image(true);
        for (int i = 0; i < 3; i++) {
            x.minutes(5 + i);
            x.set(2, 20 + i, 9);
            x.skater(4, 20);
            x.state(i);
            due.is("gone back to", x.image(false), true);
        }
        due.same("the image, three times", was, Snapshot.ofAllButUndo(x));
    }

    // "as it was when it was taken": another basin, other texts; a later image in its place
    private static void imageAsItWasTaken() {
        LeftSkate x = busy();
        Snapshot was = Snapshot.ofAllButUndo(x);
        x.image(true);
        x.basin(8, 7);
        x.skater(9, 55);
        Due.tell(x, 0, "skater 0 north 6;");
        Due.tell(x, 1, "cut 9;");
        Due.tell(x, 2, "letter 7 7 7;");
        Due.tell(x, 3, "want 0 at 37;");
        x.minutes(6);
        x.image(false);
        due.same("the image of another basin", was, Snapshot.ofAllButUndo(x));
        LeftSkate y = made(6, 6, 0);
        y.image(true);
        y.minutes(2);
        y.image(true);
        y.minutes(2);
        y.image(false);
        due.is("the later image", y.look(2), 2);
    }

    // "but the TAPE, fault() and what can be undone"
    private static void imageWithoutTapeFaultUndo() {
        LeftSkate x = made(6, 6, 0);
        Due.tell(x, 1, "cut");
        Due.feed(x, "letter 1 0 0;");
        x.minutes(2);
        x.image(true);
        due.is("the taking forgets nothing", x.look(12), 2);
        x.end(0);
        Due.tell(x, 1, "cut 1/0;");
        Due.feed(x, "letter 7 7 7;");
        x.image(false);
        due.is("the fault of now", x.fault(0), 2);
        due.is("its place of now", x.fault(1), 6);
        due.is("nothing to undo", x.undo(), false);
        due.is("the tape of now", x.text(2), 1);
        due.is("what was on it", x.letter(0), 511);
    }

    // "NONE for another what. (STATE as it is.)"
    private static void lookWhat() {
        LeftSkate x = busy();
        int[] wrong = {-1, 14, Integer.MIN_VALUE, Integer.MAX_VALUE};
        for (int what : wrong) {
            due.is("look(" + what + ")", x.look(what), NONE);
        }
        due.is("look(0)", x.look(0), 6);
        due.is("look(13)", x.look(13), Long.bitCount(x.goes(0)));
        int[] states = {NONE, NONE - 1, 0, Integer.MIN_VALUE, Integer.MAX_VALUE};
        for (int state : states) {
            x.state(state);
            due.is("STATE as it is", x.look(7), state);
        }
        LeftSkate y = made(8, 7);
        for (int cell = 0; cell < 56; cell++) {
            due.is("how many are SEEN", y.look(13), cell);
            y.set(2, cell, 1);
        }
        due.is("all are SEEN", y.look(13), 56);
    }
}
