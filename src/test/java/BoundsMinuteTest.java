/** "3. A minute" of the document, and promises 10 and 16: each sentence that names a bound, on both sides of it. */
public final class BoundsMinuteTest {
    private static final int NONE = LeftSkate.NONE;
    private static final Due due = new Due("BoundsMinuteTest");

    public static void main(String[] args) {
        oneToSixtyMinutes();
        notAboveMinute9999();
        howManyFell();
        whoHasStepsLeft();
        fallsAbove0();
        skaterBySkater();
        fallIs3Deeper();
        fallDoesNoStep();
        fallWithTheSkateLifted();
        restIsNothing();
        liftAheadOfTheStep();
        liftBehindTheLast();
        liftWithoutAnyStep();
        theLastOfSeveralMarks();
        noCutWhenLifted();
        atEachRim();
        liftedAtTheRim();
        nineAtMost();
        cutOf0();
        theCellWhereHeIsThen();
        cutsOfOneMinute();
        thawTo0AtLeast();
        thawAskedAhead();
        thawOfEachCell();
        thawLeavesTheRest();
        minuteIsOneMoreLast();
        bookOf150();
        bookFullWithinAMinute();
        bookOfFallsIsFull();
        bookLines();
        bookOfADeepCell();
        bookNoneSuch();
        due.end();
    }

    private static LeftSkate made(int w, int h, int... cells) {
        LeftSkate x = new LeftSkate();
        x.basin(w, h);
        for (int cell : cells) {
            x.skater(1, cell);
        }
        return x;
    }

    private static void ways(LeftSkate x, String text) {
        Due.tell(x, 0, text);
        due.is(text, x.fault(0), 0);
    }

    private static void law(LeftSkate x, String text) {
        Due.tell(x, 1, text);
        due.is(text, x.fault(0), 0);
    }

    private static void line(LeftSkate x, int i, int... answers) {
        for (int what = 0; what < answers.length; what++) {
            due.is("book(" + i + ", " + what + ")", x.book(i, what), answers[what]);
        }
    }

    // ---- promise 10

    // "MINUTES go by (1 .. 60)"
    private static void oneToSixtyMinutes() {
        LeftSkate x = made(6, 6, 0);
        ways(x, "skater 0 east 5;");
        int[] wrong = {0, -1, 61, 62, Integer.MIN_VALUE, Integer.MAX_VALUE};
        for (int n : wrong) {
            due.is("minutes(" + n + ")", x.minutes(n), NONE);
            due.is("nothing is done", x.look(2) + x.of(0, 3) + x.look(6) + x.look(12), 0);
        }
        due.is("minutes(1)", x.minutes(1), 0);
        due.is("MINUTE", x.look(2), 1);
        due.is("one step is done", x.of(0, 3), 1);
        due.is("minutes(60)", x.minutes(60), 0);
        due.is("MINUTE", x.look(2), 61);
        due.is("all steps are done", x.of(0, 3), 5);
    }

    // "NONE, and nothing is done, if .. MINUTE would be above 9999"
    private static void notAboveMinute9999() {
        LeftSkate x = made(6, 6, 0);
        for (int i = 0; i < 165; i++) {
            x.minutes(60);
        }
        x.minutes(40);
        due.is("MINUTE 9940", x.look(2), 9940);
        ways(x, "skater 0 east 5;");
        x.set(1, 0, 1000);
        Snapshot was = Snapshot.of(x);
        due.is("60 more", x.minutes(60), NONE);
        due.same("minutes above 9999", was, Snapshot.of(x));
        x.set(1, 0, 0);
        due.is("59 more", x.minutes(59), 0);
        due.is("MINUTE 9999", x.look(2), 9999);
        due.is("his way is done", x.of(0, 2), 0);
        due.is("one more", x.minutes(1), NONE);
        due.is("undone", x.undo(), true);
        due.is("one more than 9998", x.minutes(1), 0);
        due.is("MINUTE 9999 again", x.look(2), 9999);
    }

    // "how many SKATERS fell in them"
    private static void howManyFell() {
        for (int skaters = 0; skaters <= 6; skaters++) {
            LeftSkate x = made(6, 6);
            StringBuilder text = new StringBuilder();
            for (int s = 0; s < skaters; s++) {
                x.skater(1, s);
                text.append("skater ").append(s).append(" rest 1;");
            }
            ways(x, text.toString());
            due.is("nobody of " + skaters, x.minutes(1), 0);
            ways(x, text.toString());
            x.set(1, 0, 1000);
            due.is("all " + skaters, x.minutes(1), skaters);
        }
    }

    // ---- (a) who, and whether he falls

    // "SKATER by SKATER who has steps left"
    private static void whoHasStepsLeft() {
        LeftSkate x = made(6, 6, 0, 8, 16);
        ways(x, "skater 0 east 1;skater 2;");
        x.minutes(1);
        x.set(1, 0, 1000);
        due.is("nobody has steps left", x.minutes(5), 0);
        due.is("no draw", x.look(7), 0);
        due.is("nobody went", x.of(0, 1) + x.of(1, 1) + x.of(2, 1), 1 + 8 + 16);
        due.is("one line", x.look(6), 1);
        ways(x, "skater 1 east 1;");
        due.is("one has", x.minutes(1), 1);
        due.is("one draw", x.look(7), 1013904223);
    }

    // "if FALLS are above 0, a DRAW of 1000"
    private static void fallsAbove0() {
        LeftSkate x = made(6, 6, 0, 8);
        ways(x, "skater 0 rest 9;skater 1 rest 9;");
        x.minutes(2);
        due.is("FALLS 0: no draw", x.look(7), 0);
        x.set(1, 0, 1);
        x.minutes(1);
        due.is("FALLS 1: a draw of each", x.look(7), 1013904223 * 1664525 + 1013904223);
        x.set(1, 0, 0);
        x.minutes(1);
        due.is("FALLS 0 again", x.look(7), 1013904223 * 1664525 + 1013904223);
    }

    /** The draws that come behind a STATE, one by one. */
    private static int[] draws(int state, int n) {
        int[] draws = new int[n];
        long now = state & 0xffffffffL;
        for (int i = 0; i < n; i++) {
            now = (now * 1664525L + 1013904223L) & 0xffffffffL;
            draws[i] = (int) ((now >> 8) % 1000);
        }
        return draws;
    }

    // "SKATER by SKATER": the draws are theirs in this order, minute by minute
    private static void skaterBySkater() {
        for (int state = 1; state < 30; state++) {
            LeftSkate x = made(6, 6, 0, 8, 16);
            ways(x, "skater 2 rest 20;skater 0 rest 20;skater 1 rest 20;");
            x.state(state * 7654321);
            x.set(1, 0, 500);
            int[] draws = draws(state * 7654321, 6);
            int[] done = new int[3];
            for (int i = 0; i < 6; i++) {
                done[i % 3] += draws[i] < 500 ? 0 : 1;
            }
            int fell = 6 - done[0] - done[1] - done[2];
            due.is("how many fell", x.minutes(1) + x.minutes(1), fell);
            for (int s = 0; s < 3; s++) {
                due.is("done of SKATER " + s, x.of(s, 3), done[s]);
            }
        }
    }

    // "his CELL is 3 DEEPER (9 at most), LATEST is he"
    private static void fallIs3Deeper() {
        for (int depth = 0; depth <= 9; depth++) {
            LeftSkate x = made(6, 6, 45);
            ways(x, "skater 0 west 5;");
            law(x, "cut 1;");
            x.set(2, 45, depth);
            x.set(1, 0, 1000);
            due.is("he falls", x.minutes(1), 1);
            due.is("DEPTH " + depth + " and a fall", x.at(45, 0), Math.min(9, depth + 3));
            due.is("LATEST is he", x.at(45, 1), 0);
            due.is("lines", x.look(6), 1);
            line(x, 0, 0, 0, 45, Math.min(3, 9 - depth), 1);
        }
    }

    // "the step is not done"
    private static void fallDoesNoStep() {
        LeftSkate x = made(6, 6, 0);
        ways(x, "skater 0 lift east 1 down;");
        x.set(1, 0, 1000);
        x.minutes(3);
        due.is("not done", x.of(0, 3), 0);
        due.is("left", x.of(0, 2), 1);
        due.is("where he was", x.of(0, 1), 0);
        due.is("what stands ahead of the step is not done", x.of(0, 4), 1);
        x.set(1, 0, 0);
        x.minutes(1);
        due.is("done then", x.of(0, 3), 1);
        due.is("lifted, nothing is cut", x.at(1, 0), 0);
        due.is("down behind it", x.of(0, 4), 1);
    }

    private static void fallWithTheSkateLifted() {
        LeftSkate x = made(6, 6, 0);
        ways(x, "skater 0 lift east 2;");
        x.minutes(1);
        due.is("lifted", x.of(0, 4), 0);
        x.set(1, 0, 1000);
        due.is("he falls", x.minutes(1), 1);
        due.is("3 deeper", x.at(1, 0), 3);
        due.is("lifted yet", x.of(0, 4), 0);
    }

    // ---- the next step

    // "rest: nothing"
    private static void restIsNothing() {
        LeftSkate x = made(6, 6, 9);
        ways(x, "skater 0 rest 20;");
        x.minutes(20);
        due.is("rest: he stays", x.of(0, 1), 9);
        due.is("rest: no cut", x.at(9, 0), 0);
        due.is("rest: no LATEST", x.at(9, 1), NONE);
        due.is("rest: no line", x.look(6), 0);
        due.is("rest: it is a step", x.of(0, 3), 20);
        due.is("rest: none is left", x.of(0, 2), 0);
    }

    // "done ahead of the step that follows them"
    private static void liftAheadOfTheStep() {
        LeftSkate x = made(6, 6, 0);
        ways(x, "skater 0 east 1 lift east 1 rest 1 down rest 1 lift rest 1 down east 1;");
        int[] down = {1, 0, 0, 1, 0, 1};
        due.is("down at first", x.of(0, 4), 1);
        for (int step = 0; step < 6; step++) {
            x.minutes(1);
            due.is("the skate behind step " + step, x.of(0, 4), down[step]);
        }
        due.is("cut ahead of lift", x.at(1, 0), 2);
        due.is("not cut behind lift", x.at(2, 0), 0);
        due.is("cut behind down", x.at(3, 0), 2);
    }

    // "behind the last one with it"
    private static void liftBehindTheLast() {
        LeftSkate x = made(6, 6, 0);
        ways(x, "skater 0 east 2 lift;");
        x.minutes(1);
        due.is("down ahead of the last one", x.of(0, 4), 1);
        x.minutes(1);
        due.is("cut by the last one", x.at(2, 0), 2);
        due.is("lifted with the last one", x.of(0, 4), 0);
        ways(x, "skater 0 lift east 1 down;");
        x.minutes(1);
        due.is("not cut by the last one", x.at(3, 0), 0);
        due.is("down with the last one", x.of(0, 4), 1);
        ways(x, "skater 0 rest 1 lift;");
        x.set(1, 0, 1000);
        x.minutes(1);
        due.is("not done with a fall", x.of(0, 4), 1);
        x.set(1, 0, 0);
        x.minutes(1);
        due.is("lifted with a rest", x.of(0, 4), 0);
    }

    // "without any step not at all"
    private static void liftWithoutAnyStep() {
        LeftSkate x = made(6, 6, 0, 8);
        ways(x, "skater 0 lift;skater 1 down lift down lift;");
        due.is("down", x.of(0, 4) + x.of(1, 4), 2);
        x.minutes(9);
        due.is("down yet", x.of(0, 4) + x.of(1, 4), 2);
        due.is("no steps", x.of(0, 2) + x.of(1, 2) + x.of(0, 3) + x.of(1, 3), 0);
    }

    // several in a row are done one behind the other
    private static void theLastOfSeveralMarks() {
        LeftSkate x = made(6, 6, 0, 8);
        ways(x, "skater 0 lift down lift lift east 1 lift down;skater 1 lift down east 1 down lift;");
        x.minutes(1);
        due.is("lifted last", x.at(1, 0), 0);
        due.is("down last", x.at(9, 0), 2);
        due.is("down behind it", x.of(0, 4), 1);
        due.is("lifted behind it", x.of(1, 4), 0);
    }

    // "with his skate down the CELL where he is then is cut"
    private static void noCutWhenLifted() {
        LeftSkate x = made(6, 6, 0);
        ways(x, "skater 0 lift east 3 south 3;");
        x.minutes(6);
        due.is("he came there", x.of(0, 1), 27);
        due.is("no line", x.look(6), 0);
        due.is("no cut", x.look(13), 0);
        due.is("no LATEST", x.at(27, 1), NONE);
    }

    // "one CELL that way (at the rim he stays)"
    private static void atEachRim() {
        int[][] sizes = {{3, 3}, {8, 7}, {5, 4}};
        String[] words = {"north", "east", "south", "west"};
        int[] stepX = {0, 1, 0, -1};
        int[] stepY = {-1, 0, 1, 0};
        for (int[] size : sizes) {
            for (int way = 0; way < 4; way++) {
                for (int corner = 0; corner < 4; corner++) {
                    int px = corner % 2 == 0 ? 0 : size[0] - 1;
                    int py = corner / 2 == 0 ? 0 : size[1] - 1;
                    int toX = Math.max(0, Math.min(size[0] - 1, px + stepX[way]));
                    int toY = Math.max(0, Math.min(size[1] - 1, py + stepY[way]));
                    LeftSkate x = made(size[0], size[1], 8 * py + px);
                    ways(x, "skater 0 " + words[way] + " 1;");
                    x.minutes(1);
                    due.is("he is at", x.of(0, 1), 8 * toY + toX);
                    due.is("he has cut it", x.at(8 * toY + toX, 0), 2);
                    due.is("and nothing else", x.look(13), 1);
                    due.is("it is his", x.at(8 * toY + toX, 1), 0);
                    due.is("the step is done", x.of(0, 3), 1);
                }
            }
        }
    }

    private static void liftedAtTheRim() {
        LeftSkate x = made(6, 6, 5);
        ways(x, "skater 0 lift east 3 down;");
        x.minutes(3);
        due.is("he stays", x.of(0, 1), 5);
        due.is("nothing is cut", x.look(6), 0);
        ways(x, "skater 0 east 3;");
        x.minutes(3);
        due.is("three times cut", x.at(5, 0), 6);
        due.is("three lines", x.look(6), 3);
    }

    // "is cut DEEPER (9 at most"
    private static void nineAtMost() {
        int[] depths = {0, 1, 4, 5, 6, 8, 9};
        for (int depth : depths) {
            LeftSkate x = made(6, 6, 0);
            law(x, "cut 5;");
            ways(x, "skater 0 east 1;");
            x.set(2, 1, depth);
            x.minutes(1);
            due.is("DEPTH " + depth + " and a cut of 5", x.at(1, 0), Math.min(9, depth + 5));
            due.is("LATEST is he", x.at(1, 1), 0);
            due.is("a line", x.look(6), 1);
            line(x, 0, 0, 0, 1, Math.min(5, 9 - depth), 0);
        }
    }

    // "a cut of 0 changes nothing, LATEST neither"
    private static void cutOf0() {
        String[] laws = {"cut 0;", "cut 0-5;", "cut 0 when depth=0;cut 9;"};
        for (String text : laws) {
            LeftSkate x = made(6, 6, 0, 8);
            ways(x, "skater 1 north 1 east 1;");
            x.minutes(2);
            x.set(2, 1, 0);
            law(x, text);
            ways(x, "skater 0 east 1;");
            x.minutes(1);
            due.is("he is there", x.of(0, 1), 1);
            due.is("no deeper", x.at(1, 0), 0);
            due.is("LATEST as it was", x.at(1, 1), 1);
            due.is("no further line", x.look(6), 2);
        }
        LeftSkate y = made(6, 6, 0);
        law(y, "cut 1;");
        ways(y, "skater 0 east 1;");
        y.minutes(1);
        due.is("a cut of 1", y.at(1, 0), 1);
        due.is("a cut of 1: LATEST", y.at(1, 1), 0);
        due.is("a cut of 1: a line", y.look(6), 1);
    }

    // "the CELL where he is then"
    private static void theCellWhereHeIsThen() {
        LeftSkate x = made(6, 6, 9);
        x.set(2, 9, 5);
        x.set(2, 10, 1);
        law(x, "cut depth+1;");
        ways(x, "skater 0 east 1;");
        x.minutes(1);
        due.is("by the depth where he is then", x.at(10, 0), 3);
        due.is("not where he was", x.at(9, 0), 5);
    }

    // what an earlier SKATER cut in this minute is cut already
    private static void cutsOfOneMinute() {
        LeftSkate x = made(6, 6, 1, 0, 2);
        law(x, "cut 5 when crossed=1;cut depth+1;");
        ways(x, "skater 2 west 1;skater 1 south 1;skater 0 rest 1;");
        x.minutes(1);
        due.is("cut by 2", x.at(1, 1), 2);
        ways(x, "skater 1 north 1;skater 0 west 1;");
        x.minutes(1);
        due.is("0 came ahead of 1", x.at(0, 1), 1);
        due.is("0 had cut 1, and 1 crossed it", x.at(0, 0), 6);
        line(x, 2, 1, 0, 0, 1, 0);
        line(x, 3, 1, 1, 0, 5, 0);
    }

    // ---- (b) the thaw

    // "DEPTH is thaw less (0 at least)"
    private static void thawTo0AtLeast() {
        for (int thaw = 0; thaw <= 9; thaw++) {
            LeftSkate x = made(6, 6);
            law(x, "thaw " + thaw + ";");
            for (int depth = 0; depth <= 9; depth++) {
                x.set(2, depth % 6 + 8 * (depth / 6), depth);
            }
            x.minutes(1);
            for (int depth = 0; depth <= 9; depth++) {
                due.is("DEPTH " + depth + " thawed by " + thaw, x.at(depth % 6 + 8 * (depth / 6), 0), Math.max(0, depth - thaw));
            }
        }
    }

    // "CELL by CELL (row by row) .. all asked ahead of it"
    private static void thawAskedAhead() {
        LeftSkate x = made(6, 6);
        for (int cell = 0; cell < 6; cell++) {
            x.set(2, cell, 1);
            x.set(2, cell * 8, 1);
        }
        law(x, "thaw 1 when around=1;");
        // a hook of eleven cells loses an end of each arm a minute
        for (int left = 5; left >= 1; left--) {
            x.minutes(1);
            due.is("cells of the hook", x.look(13), 2 * left - 1);
            due.is("the end of the upper arm", x.at(left - 1, 0), 1);
            due.is("the end of the left arm", x.at(8 * (left - 1), 0), 1);
        }
        x.minutes(1);
        due.is("the corner alone stays", x.look(13), 1);
        LeftSkate y = made(6, 6);
        y.set(2, 9, 1);
        y.set(2, 10, 1);
        law(y, "thaw 1 when around=1;");
        y.minutes(1);
        due.is("both ends at once", y.look(13), 0);
    }

    private static void thawOfEachCell() {
        LeftSkate x = made(8, 7);
        law(x, "thaw 1 when edge=1;thaw 2;");
        for (int cell = 0; cell < 56; cell++) {
            x.set(2, cell, 5);
        }
        x.minutes(1);
        for (int cell = 0; cell < 56; cell++) {
            boolean edge = cell % 8 == 0 || cell % 8 == 7 || cell / 8 == 0 || cell / 8 == 6;
            due.is("thawed cell " + cell, x.at(cell, 0), edge ? 4 : 3);
        }
    }

    private static void thawLeavesTheRest() {
        LeftSkate x = made(6, 6, 0);
        ways(x, "skater 0 east 1 lift;");
        law(x, "cut 9;thaw 9;");
        x.minutes(1);
        due.is("gone in the minute of its cut", x.at(1, 0), 0);
        due.is("LATEST stays", x.at(1, 1), 0);
        due.is("the book has the cut alone", x.look(6), 1);
        line(x, 0, 0, 0, 1, 9, 0);
        due.is("no fall", x.look(7), 0);
    }

    // "(c) MINUTE is one more": behind the cuts and the thaw
    private static void minuteIsOneMoreLast() {
        LeftSkate x = made(6, 6, 0);
        ways(x, "skater 0 east 3;");
        law(x, "cut 4 when minute=1;cut 1;thaw 1 when minute=2;");
        x.minutes(1);
        due.is("cut in MINUTE 0", x.at(1, 0), 1);
        x.minutes(1);
        due.is("cut in MINUTE 1", x.at(2, 0), 4);
        due.is("no thaw in MINUTE 1", x.at(1, 0), 1);
        x.minutes(1);
        due.is("thaw in MINUTE 2", x.at(2, 0), 3);
        due.is("MINUTE 3", x.look(2), 3);
        line(x, 0, 0);
        line(x, 2, 2);
    }

    // ---- the book

    // "THE BOOK (150 lines; no more then)"
    private static void bookOf150() {
        LeftSkate x = made(6, 6, 0);
        law(x, "cut 1;thaw 1;");
        for (int i = 0; i < 2; i++) {
            ways(x, "skater 0 east 20 west 20 east 20;");
            x.minutes(60);
        }
        ways(x, "skater 0 north 20 south 20;");
        x.minutes(29);
        due.is("149 lines", x.look(6), 149);
        due.is("the 149th", x.book(148, 0), 148);
        due.is("no 150th", x.book(149, 0), NONE);
        x.minutes(1);
        due.is("150 lines", x.look(6), 150);
        due.is("the 150th", x.book(149, 0), 149);
        law(x, "cut 7;");
        x.minutes(1);
        due.is("150 lines yet", x.look(6), 150);
        due.is("no 151st", x.book(150, 0), NONE);
        due.is("the 150th yet", x.book(149, 0), 149);
        due.is("it is cut", x.at(x.of(0, 1), 0), 7);
        due.is("the first yet", x.book(0, 2), 1);
    }

    private static void bookFullWithinAMinute() {
        LeftSkate x = made(5, 4, 0, 8, 16, 24);
        StringBuilder text = new StringBuilder();
        for (int s = 0; s < 4; s++) {
            text.append("skater ").append(s).append(" east 20 west 20;");
        }
        ways(x, text.toString());
        x.minutes(37);
        due.is("148 lines", x.look(6), 148);
        Snapshot was = Snapshot.ofAllButUndo(x);
        x.minutes(1);
        due.is("two of four", x.look(6), 150);
        due.is("the 149th", x.book(148, 1), 0);
        due.is("the 150th", x.book(149, 1), 1);
        due.is("no 151st", x.book(150, 1), NONE);
        due.is("the others went", x.of(3, 3), 38);
        x.undo();
        due.same("a full book undone", was, Snapshot.ofAllButUndo(x));
        due.is("undone: no 149th", x.book(148, 1), NONE);
    }

    private static void bookOfFallsIsFull() {
        LeftSkate x = made(6, 6, 0, 1, 2, 3, 4, 5);
        ways(x, "skater 0 rest 1;skater 1 rest 1;skater 2 rest 1;skater 3 rest 1;skater 4 rest 1;");
        x.set(1, 0, 1000);
        due.is("150 falls", x.minutes(30), 150);
        due.is("150 lines", x.look(6), 150);
        due.is("five more fall", x.minutes(1), 5);
        due.is("150 lines yet", x.look(6), 150);
        due.is("STATE goes on", x.look(7) == stateBehind(155), true);
    }

    private static int stateBehind(int draws) {
        int state = 0;
        for (int i = 0; i < draws; i++) {
            state = state * 1664525 + 1013904223;
        }
        return state;
    }

    // "MINUTE, SKATER, CELL, by how much it got DEEPER (0: not), 1 if he fell, else 0"
    private static void bookLines() {
        LeftSkate x = made(8, 7, 0, 0, 0, 0, 0, 54);
        law(x, "cut hand*0+3 when minute=1;cut 1;");
        ways(x, "skater 5 east 1 south 1;skater 0 lift rest 2;");
        x.minutes(2);
        x.set(1, 0, 1000);
        ways(x, "skater 5 north 1;skater 0 east 1;");
        x.minutes(1);
        due.is("four lines", x.look(6), 4);
        line(x, 0, 0, 5, 55, 1, 0);
        line(x, 1, 1, 5, 55, 3, 0);
        line(x, 2, 2, 0, 0, 3, 1);
        line(x, 3, 2, 5, 55, 3, 1);
    }

    private static void bookOfADeepCell() {
        LeftSkate x = made(6, 6, 0);
        x.set(2, 0, 9);
        ways(x, "skater 0 north 1 rest 1;");
        x.minutes(1);
        line(x, 0, 0, 0, 0, 0, 0);
        x.set(1, 0, 1000);
        x.minutes(1);
        line(x, 1, 1, 0, 0, 0, 1);
        due.is("two lines", x.look(6), 2);
        due.is("9 deep", x.at(0, 0), 9);
    }

    // "NONE if there is none such, or another what"
    private static void bookNoneSuch() {
        LeftSkate x = made(6, 6, 0);
        due.is("a book without lines", x.book(0, 0), NONE);
        ways(x, "skater 0 east 1;");
        x.minutes(1);
        int[] wrong = {-1, 1, 149, 150, Integer.MIN_VALUE, Integer.MAX_VALUE};
        for (int i : wrong) {
            due.is("book(" + i + ", 0)", x.book(i, 0), NONE);
        }
        int[] whats = {-1, 5, Integer.MIN_VALUE, Integer.MAX_VALUE};
        for (int what : whats) {
            due.is("book(0, " + what + ")", x.book(0, what), NONE);
        }
        line(x, 0, 0, 0, 1, 2, 0);
        x.undo();
        due.is("the book undone", x.book(0, 0), NONE);
    }
}
