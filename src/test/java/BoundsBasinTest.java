import java.math.BigInteger;

/** The head of the document, its draws and "1. The basin": each sentence that names a bound, on both sides of it. */
public final class BoundsBasinTest {
    private static final int NONE = LeftSkate.NONE;
    private static final Due due = new Due("BoundsBasinTest");

    public static void main(String[] args) {
        calls512();
        stateAtFirst();
        stateWraps();
        drawIsOf24Bits();
        drawOfAThousand();
        widthBounds();
        heightBounds();
        smallestAndLargest();
        sixAndSixAtFirst();
        toldAnewAsAtFirst();
        toldAnewWhatStays();
        cellsOfABasin();
        cellsDoNotWrap();
        setsOfCells();
        depthBounds();
        latestAtFirst();
        latestIsKept();
        minuteBounds();
        sightBounds();
        seenFromTheSightOn();
        fallsBounds();
        sixSkaters();
        handBounds();
        wayAtFirst();
        due.end();
    }

    private static LeftSkate made(int w, int h) {
        LeftSkate x = new LeftSkate();
        x.basin(w, h);
        return x;
    }

    /** One skater with a step to do, at a STATE and with FALLS. */
    private static LeftSkate drawing(int state, int falls) {
        LeftSkate x = new LeftSkate();
        x.skater(1, 0);
        Due.tell(x, 0, "skater 0 rest 9;");
        x.state(state);
        x.set(1, 0, falls);
        return x;
    }

    private static BigInteger nextState(int state) {
        return BigInteger.valueOf(1664525).multiply(BigInteger.valueOf(state)).add(BigInteger.valueOf(1013904223));
    }

    /** The highest 24 of the 32 bits of the next STATE, modulo 1000. */
    private static int drawAt(int state) {
        BigInteger bits = nextState(state).mod(BigInteger.ONE.shiftLeft(32));
        return bits.shiftRight(8).mod(BigInteger.valueOf(1000)).intValue();
    }

    /** The first STATE from 0 on at which that is drawn. */
    private static int stateThatDraws(int draw) {
        int state = 0;
        while (drawAt(state) != draw) {
            state++;
        }
        return state;
    }

    // "An object is used for at most 512 calls after it has been made"
    private static void calls512() {
        LeftSkate x = new LeftSkate();
        for (int i = 0; i < 510; i++) {
            due.is("call " + (i + 1), x.state(i + 1), i);
        }
        due.is("the 511th call", x.skater(9, 45), 0);
        due.is("the 512th call", x.of(0, 1), 45);
    }

    // "STATE of draws (an int, 0 at first)"
    private static void stateAtFirst() {
        LeftSkate x = new LeftSkate();
        due.is("STATE at first", x.look(7), 0);
        due.is("STATE was 0", x.state(Integer.MAX_VALUE), 0);
        due.is("the greatest STATE", x.look(7), Integer.MAX_VALUE);
        due.is("STATE was the greatest", x.state(Integer.MIN_VALUE), Integer.MAX_VALUE);
        due.is("the least STATE", x.look(7), Integer.MIN_VALUE);
        due.is("STATE was the least", x.state(NONE), Integer.MIN_VALUE);
        due.is("a STATE that looks like NONE", x.look(7), NONE);
    }

    // "it becomes 1664525 times itself + 1013904223 (ints, which wrap)"
    private static void stateWraps() {
        int[] states = {0, 1, -1, Integer.MAX_VALUE, Integer.MIN_VALUE, 681, 682, 123456789};
        for (int state : states) {
            LeftSkate x = drawing(state, 1);
            x.minutes(1);
            due.is("the STATE behind " + state, x.look(7), nextState(state).intValue());
        }
    }

    // "then it is its highest 24 bits (without sign) modulo m"
    private static void drawIsOf24Bits() {
        boolean below0 = false;
        for (int i = 0; i < 40; i++) {
            int state = i * 123456789;
            int draw = drawAt(state);
            below0 |= nextState(state).intValue() < 0;
            due.is("FALLS as the draw of " + state, drawing(state, draw).minutes(1), 0);
            due.is("FALLS above the draw of " + state, drawing(state, draw + 1).minutes(1), 1);
        }
        due.is("some STATES are below 0", below0, true);
    }

    // "a DRAW of 1000": 0 .. 999
    private static void drawOfAThousand() {
        due.is("0 drawn, FALLS 1", drawing(stateThatDraws(0), 1).minutes(1), 1);
        due.is("1 drawn, FALLS 1", drawing(stateThatDraws(1), 1).minutes(1), 0);
        due.is("999 drawn, FALLS 999", drawing(stateThatDraws(999), 999).minutes(1), 0);
        due.is("999 drawn, FALLS 1000", drawing(stateThatDraws(999), 1000).minutes(1), 1);
        due.is("998 drawn, FALLS 999", drawing(stateThatDraws(998), 999).minutes(1), 1);
    }

    // "W 3 .. 8"
    private static void widthBounds() {
        LeftSkate x = new LeftSkate();
        for (int w = -1; w < 12; w++) {
            int had = x.look(0);
            due.is("basin(" + w + ", 5)", x.basin(w, 5), w >= 3 && w <= 8);
            due.is("W behind basin(" + w + ", 5)", x.look(0), w >= 3 && w <= 8 ? w : had);
        }
        due.is("W of the least int", x.basin(Integer.MIN_VALUE, 5), false);
        due.is("W of the greatest int", x.basin(Integer.MAX_VALUE, 5), false);
        due.is("W of 8 bits and 6", x.basin(256 + 6, 5), false);
    }

    // "H 3 .. 7"
    private static void heightBounds() {
        LeftSkate x = new LeftSkate();
        for (int h = -1; h < 12; h++) {
            int had = x.look(1);
            due.is("basin(5, " + h + ")", x.basin(5, h), h >= 3 && h <= 7);
            due.is("H behind basin(5, " + h + ")", x.look(1), h >= 3 && h <= 7 ? h : had);
        }
        due.is("H of the least int", x.basin(5, Integer.MIN_VALUE), false);
        due.is("H of the greatest int", x.basin(5, Integer.MAX_VALUE), false);
    }

    // both bounds at once
    private static void smallestAndLargest() {
        LeftSkate x = new LeftSkate();
        due.is("basin(3, 3)", x.basin(3, 3), true);
        due.is("3 by 3, its last cell", x.at(18, 0), 0);
        due.is("3 by 3, beyond", x.at(27, 0), NONE - 1);
        due.is("basin(8, 7)", x.basin(8, 7), true);
        due.is("8 by 7, its last cell", x.at(55, 0), 0);
        due.is("8 by 7, beyond", x.at(56, 0), NONE - 1);
        due.is("basin(8, 8)", x.basin(8, 8), false);
        due.is("basin(2, 2)", x.basin(2, 2), false);
        due.is("both stay", x.look(0) * 10 + x.look(1), 87);
    }

    // "6 and 6 at first"
    private static void sixAndSixAtFirst() {
        LeftSkate x = new LeftSkate();
        due.is("W at first", x.look(0), 6);
        due.is("H at first", x.look(1), 6);
        due.is("the last cell at first", x.at(45, 0), 0);
        due.is("beyond the rim at first", x.at(46, 0), NONE - 1);
        due.is("below the rim at first", x.at(53, 0), NONE - 1);
    }

    // "told anew: all is as at first but W, H, STATE, the TAPE, fault() and THE IMAGE"
    private static void toldAnewAsAtFirst() {
        LeftSkate x = lived();
        due.is("told anew, the same size", x.basin(6, 6), true);
        LeftSkate fresh = new LeftSkate();
        fresh.state(x.look(7));
        Due.tell(fresh, 0, "skater 9");
        due.same("the same size told anew", Snapshot.of(fresh), Snapshot.of(x));
        due.is("told anew: nothing to undo", x.undo(), false);
        x.skater(4, 9);
        due.is("told anew: a new SKATER has no way", x.of(0, 2), 0);
        due.is("told anew: and has done none", x.of(0, 3), 0);
        due.is("told anew: his skate is down", x.of(0, 4), 1);
        due.is("told anew: no law", x.cut(0, 9), 2);
        LeftSkate y = made(6, 6);
        y.skater(1, 0);
        Due.tell(y, 0, "skater 0 lift east 3;");
        y.minutes(2);
        y.basin(6, 6);
        y.skater(1, 0);
        due.is("of an earlier SKATER's steps none are done", y.of(0, 3), 0);
        due.is("none are left", y.of(0, 2), 0);
        due.is("his skate is not lifted", y.of(0, 4), 1);
    }

    /** All of it told, some of it happened, the latest text with a fault, ten bytes on the tape. */
    private static LeftSkate lived() {
        LeftSkate x = new LeftSkate();
        x.skater(3, 8);
        x.skater(5, 0);
        x.state(5);
        x.set(1, 0, 500);
        x.set(0, 0, 2);
        x.set(2, 45, 7);
        Due.tell(x, 0, "skater 0 lift east 5;skater 1 south 5 lift;");
        Due.tell(x, 1, "cut 3;thaw 1 when minute=1;");
        Due.tell(x, 2, "letter 1 0 0;letter 0 2 0;");
        Due.tell(x, 3, "want 0 at 0;want 1 at 27;");
        x.minutes(4);
        Due.tell(x, 0, "skater 9");
        Due.feed(x, "letter 7 0 0;");
        return x;
    }

    private static void toldAnewWhatStays() {
        LeftSkate x = lived();
        int state = x.look(7);
        x.image(true);
        x.basin(4, 5);
        due.is("told anew: W is told", x.look(0), 4);
        due.is("told anew: H is told", x.look(1), 5);
        due.is("told anew: STATE stays", x.look(7), state);
        due.is("told anew: STATE has drawn", state != 5, true);
        due.is("told anew: the fault stays", x.fault(0), 2);
        due.is("told anew: its place stays", x.fault(1), 7);
        due.is("told anew: the tape has no more", x.end(14), false);
        due.is("told anew: the tape stays", x.text(2), 1);
        due.is("told anew: what was on the tape", x.letter(0), 7);
        due.is("told anew: the image stays", x.image(false), true);
        due.same("the image gone back to", Snapshot.of(withoutFault()), Snapshot.of(x));
    }

    /** As lived(), but the latest text has no fault. */
    private static LeftSkate withoutFault() {
        LeftSkate x = lived();
        x.image(true);
        x.text(9);
        x.image(false);
        return x;
    }

    // "CELLS x 0 .. W - 1, y 0 .. H - 1, told by 8 y + x"
    private static void cellsOfABasin() {
        int[][] sizes = {{3, 3}, {8, 7}, {8, 3}, {3, 7}, {5, 4}};
        for (int[] size : sizes) {
            LeftSkate x = made(size[0], size[1]);
            for (int cell = -9; cell < 80; cell++) {
                boolean is = cell >= 0 && cell % 8 < size[0] && cell / 8 < size[1];
                due.is(size[0] + " by " + size[1] + ", cell " + cell, x.at(cell, 0), is ? 0 : NONE - 1);
            }
            due.is("the least int is no cell", x.at(Integer.MIN_VALUE, 0), NONE - 1);
            due.is("the greatest int is no cell", x.at(Integer.MAX_VALUE, 0), NONE - 1);
        }
    }

    // a row's end is not beside the next row's beginning, though 8 follows 7
    private static void cellsDoNotWrap() {
        LeftSkate x = made(8, 7);
        x.skater(1, 7);
        x.skater(1, 8);
        x.set(2, 8, 1);
        due.is("around of 7 by 8", x.at(7, 4), 0);
        x.set(2, 7, 1);
        x.set(2, 8, 0);
        due.is("around of 8 by 7", x.at(8, 4), 0);
        due.is("heard from 7", x.heard(0, 1), 1L << 6 | 1L << 7 | 1L << 15);
        due.is("heard from 8", x.heard(1, 1), 1L | 1L << 8 | 1L << 9 | 1L << 16);
        due.is("7 and 8 can be parted", x.parts(7, 8), 2);
        due.is("from 7 to 8", x.route(0, 1L << 8, 0), 8);
        due.is("no box begins at 6", x.read(6), NONE - 1);
    }

    // "as a set CELL c counts 2 to the c (a long)"
    private static void setsOfCells() {
        LeftSkate x = made(8, 7);
        x.skater(1, 55);
        int[] cells = {0, 30, 31, 32, 33, 55};
        long all = 0;
        for (int cell : cells) {
            x.set(2, cell, 1);
            all += BigInteger.TWO.pow(cell).longValue();
            due.is("the cells seen with " + cell, x.goes(0), all);
            due.is("a route over " + cell, x.route(0, BigInteger.TWO.pow(cell).longValue(), 10), cell);
        }
        due.is("heard from 55", x.heard(0, 0), 36028797018963968L);
        due.is("cell 56 of a set", x.route(0, 1L << 56, 0), NONE);
        due.is("cell 63 of a set", x.route(0, 1L << 63, 0), NONE);
        due.is("cell 31 of a set is not all above it", x.route(0, 1L << 31, 11), NONE);
    }

    // "DEPTH 0 .. 9"
    private static void depthBounds() {
        LeftSkate x = new LeftSkate();
        for (int depth = -2; depth < 13; depth++) {
            boolean can = depth >= 0 && depth <= 9;
            due.is("set(2, 9, " + depth + ")", x.set(2, 9, depth), can);
            due.is("DEPTH behind it", x.at(9, 0), can ? depth : depth < 0 ? 0 : 9);
        }
        due.is("DEPTH of the least int", x.set(2, 9, Integer.MIN_VALUE), false);
        due.is("DEPTH of the greatest int", x.set(2, 9, Integer.MAX_VALUE), false);
    }

    // "LATEST: the SKATER who cut it last (none at first"
    private static void latestAtFirst() {
        LeftSkate x = new LeftSkate();
        x.skater(1, 0);
        due.is("LATEST at first", x.at(1, 1), NONE);
        x.set(2, 1, 9);
        due.is("LATEST of what nobody cut", x.at(1, 1), NONE);
        Due.tell(x, 0, "skater 0 east 1;");
        x.set(2, 1, 0);
        x.minutes(1);
        due.is("LATEST of what SKATER 0 cut", x.at(1, 1), 0);
        due.is("LATEST where he came from", x.at(0, 1), NONE);
    }

    // "kept when it has thawed)"
    private static void latestIsKept() {
        LeftSkate x = new LeftSkate();
        x.skater(1, 0);
        x.skater(1, 45);
        Due.tell(x, 0, "skater 1 west 1;");
        Due.tell(x, 1, "thaw 1;");
        x.minutes(2);
        due.is("thawed", x.at(44, 0), 0);
        due.is("LATEST is kept", x.at(44, 1), 1);
        x.set(2, 44, 5);
        due.is("LATEST is kept when DEPTH is set", x.at(44, 1), 1);
    }

    // "MINUTE 0 .. 9999 (0 at first)"
    private static void minuteBounds() {
        LeftSkate x = new LeftSkate();
        due.is("MINUTE at first", x.look(2), 0);
        for (int i = 0; i < 166; i++) {
            x.minutes(60);
        }
        x.minutes(38);
        due.is("MINUTE 9998", x.look(2), 9998);
        due.is("two more", x.minutes(2), NONE);
        due.is("MINUTE 9998 yet", x.look(2), 9998);
        due.is("one more", x.minutes(1), 0);
        due.is("MINUTE 9999", x.look(2), 9999);
        due.is("none more", x.minutes(1), NONE);
        due.is("MINUTE 9999 yet", x.look(2), 9999);
    }

    // "SIGHT 1 .. 9 (1 at first)"
    private static void sightBounds() {
        LeftSkate x = new LeftSkate();
        due.is("SIGHT at first", x.look(4), 1);
        for (int sight = -2; sight < 13; sight++) {
            boolean can = sight >= 1 && sight <= 9;
            due.is("set(0, 0, " + sight + ")", x.set(0, 0, sight), can);
            due.is("SIGHT behind it", x.look(4), can ? sight : sight < 1 ? 1 : 9);
        }
        due.is("SIGHT of the least int", x.set(0, 0, Integer.MIN_VALUE), false);
        due.is("SIGHT of the greatest int", x.set(0, 0, Integer.MAX_VALUE), false);
    }

    // "a CELL is SEEN, if its DEPTH is that at least"
    private static void seenFromTheSightOn() {
        LeftSkate x = new LeftSkate();
        for (int sight = 1; sight <= 9; sight++) {
            x.set(0, 0, sight);
            for (int depth = 0; depth <= 9; depth++) {
                x.set(2, 9, depth);
                due.is("SEEN: SIGHT " + sight + ", DEPTH " + depth, x.at(9, 2), depth >= sight ? 1 : 0);
            }
            due.is("how many are SEEN by " + sight, x.look(13), 1);
            due.is("around by " + sight, x.at(8, 4), 1);
        }
    }

    // "FALLS 0 .. 1000 (0 at first)"
    private static void fallsBounds() {
        LeftSkate x = new LeftSkate();
        due.is("FALLS at first", x.look(5), 0);
        int[] falls = {1, 0, -1, 999, 1000, 1001, Integer.MIN_VALUE, Integer.MAX_VALUE};
        int[] then = {1, 0, 0, 999, 1000, 1000, 1000, 1000};
        for (int i = 0; i < falls.length; i++) {
            due.is("set(1, 0, " + falls[i] + ")", x.set(1, 0, falls[i]), falls[i] == then[i]);
            due.is("FALLS behind it", x.look(5), then[i]);
        }
    }

    // "SKATERS 0 .. 5 as they come"
    private static void sixSkaters() {
        LeftSkate x = new LeftSkate();
        due.is("SKATERS at first", x.look(3), 0);
        due.is("nobody is SKATER 0", x.of(0, 1), NONE - 1);
        for (int s = 0; s < 6; s++) {
            due.is("SKATER " + s, x.skater(0, 9), s);
            due.is("his CELL", x.of(s, 1), 9);
            due.is("nobody is the next", x.of(s + 1, 1), NONE - 1);
        }
        due.is("a seventh", x.skater(0, 0), NONE);
        due.is("six SKATERS", x.look(3), 6);
        due.is("nobody is SKATER 6", x.of(6, 1), NONE - 1);
    }

    // "HAND 0 .. 9"
    private static void handBounds() {
        int came = 0;
        LeftSkate x = new LeftSkate();
        int[] hands = {-1, 10, Integer.MIN_VALUE, Integer.MAX_VALUE, 0, 9, 1, 8};
        for (int hand : hands) {
            boolean can = hand >= 0 && hand <= 9;
            due.is("HAND " + hand, x.skater(hand, 0), can ? came : NONE);
            due.is("HAND of it", x.of(came, 0), can ? hand : NONE - 1);
            came += can ? 1 : 0;
        }
    }

    // "a WAY: steps (none at first), how many of them are done"
    private static void wayAtFirst() {
        LeftSkate x = new LeftSkate();
        x.skater(1, 9);
        x.minutes(60);
        due.is("no steps are left", x.of(0, 2), 0);
        due.is("no steps are done", x.of(0, 3), 0);
        due.is("he stays", x.of(0, 1), 9);
        due.is("he cuts nothing", x.look(6), 0);
        Due.tell(x, 0, "skater 0 east 2;");
        x.minutes(1);
        due.is("one is left", x.of(0, 2), 1);
        due.is("one is done", x.of(0, 3), 1);
        x.minutes(1);
        due.is("none is left", x.of(0, 2), 0);
        due.is("two are done", x.of(0, 3), 2);
        x.minutes(1);
        due.is("no more are done", x.of(0, 3), 2);
    }
}
