/** "2. Texts" of the document, and promises 6 to 9: each sentence that names a bound, on both sides of it. */
public final class BoundsTextTest {
    private static final int NONE = LeftSkate.NONE;
    private static final int WAYS = 0;
    private static final int LAW = 1;
    private static final int LETTERS = 2;
    private static final int WANTS = 3;
    private static final Due due = new Due("BoundsTextTest");

    public static void main(String[] args) {
        tapeOf400();
        tapeHighestFirst();
        tapeEnds();
        noSuchText();
        tapeIsEmptyThen();
        faultOfTheLatest();
        emptyAtFirst();
        emptyTexts();
        stepsOfOneWord();
        sixtySteps();
        skaterOnce();
        skatersThatAre();
        whoIsNotTold();
        allBeginAnew();
        sixteenLines();
        eachOfSixteenLines();
        partsByNumbers();
        nineOpen();
        notTakesOneC();
        andAheadOfOr();
        comparisons();
        faultsBehindAComparison();
        whatALawMayNot();
        intsWrap();
        towards0();
        eightLetters();
        rows();
        rowsNotAll0();
        tenWants();
        lettersThatAre();
        boxesOnTheBasin();
        keywords();
        keywordsOfThatText();
        fourDigits();
        signs();
        blanks();
        theEnd();
        theEndOfAFullTape();
        firstByPlace();
        leastAtOnePlace();
        aFaultLeavesTheText();
        firstLineThatIsSo();
        noneIsSo();
        held();
        edge();
        minute();
        hand();
        crossed();
        around();
        due.end();
    }

    private static LeftSkate made(int w, int h, int skaters) {
        LeftSkate x = new LeftSkate();
        x.basin(w, h);
        for (int s = 0; s < skaters; s++) {
            x.skater(s + 1, 0);
        }
        return x;
    }

    private static int cutBy(LeftSkate x, String law, int cell) {
        due.lines(x, LAW, law, 1);
        return x.cut(0, cell);
    }

    // ---- promises 6 to 9

    // "NONE, and nothing comes, if there would be more than 400"
    private static void tapeOf400() {
        LeftSkate x = new LeftSkate();
        for (int has = 20; has <= 400; has += 20) {
            due.is("feed", x.feed(0, 0, 0, 0, 0), has);
        }
        due.is("feed behind 400", x.feed(0, 0, 0, 0, 0), NONE);
        due.is("400 are there", x.end(400), true);
        due.is("401 are not there", x.end(401), false);
        x.end(381);
        due.is("feed behind 381", x.feed(0, 0, 0, 0, 0), NONE);
        due.is("381 are there", x.end(382), false);
        x.end(380);
        due.is("feed behind 380", x.feed(0, 0, 0, 0, 0), 400);
    }

    // "Twenty bytes come behind the TAPE, of each number the highest first"
    private static void tapeHighestFirst() {
        LeftSkate x = new LeftSkate();
        Due.feed(x, "letter");
        // " 1 2" " 4;l" "ette" "r 1 " "0 0;"
        due.is("feed", x.feed(0x20312032, 0x20343b6c, 0x65747465, 0x72203120, 0x3020303b), 26);
        due.is("two letters", x.text(LETTERS), 2);
        due.is("the first", x.letter(0), 1 + 16 + 256);
        due.is("the second", x.letter(1), 1);
        // bytes above 127 are no letters, nor faults of another place
        x.feed(0x6c657474, 0x65722031, 0x20302030, 0x3b80ffc3, 0xdfffffff);
        due.is("a byte above 127", x.text(LETTERS), NONE);
        due.is("its fault", x.fault(0), 1);
        due.is("its place", x.fault(1), 13);
    }

    // "false, changing nothing, if it has not so many, or n is below 0"
    private static void tapeEnds() {
        LeftSkate x = new LeftSkate();
        due.is("end(0) of an empty tape", x.end(0), true);
        due.is("end(1) of an empty tape", x.end(1), false);
        Due.feed(x, "letter 1 0 0;");
        int[] wrong = {14, 20, 400, 401, Integer.MAX_VALUE, -1, Integer.MIN_VALUE};
        for (int n : wrong) {
            due.is("end(" + n + ") of 13", x.end(n), false);
        }
        due.is("end(13) of 13", x.end(13), true);
        due.is("nothing was changed", x.text(LETTERS), 1);
        Due.feed(x, "letter 1 0 0;;");
        due.is("end(13) of 14", x.end(13), true);
        due.is("the last one is gone", x.end(14), false);
        due.is("without the last one", x.text(LETTERS), 1);
        Due.feed(x, "rubbish");
        due.is("end(0) of 7", x.end(0), true);
        due.is("nothing is left", x.text(LETTERS), 0);
    }

    // "NONE: no such one (fault() tells 0)"
    private static void noSuchText() {
        int[] wrong = {-1, 4, Integer.MIN_VALUE, Integer.MAX_VALUE};
        for (int k : wrong) {
            LeftSkate x = made(6, 6, 1);
            due.fault(x, LAW, "cut;", 1, 3);
            Due.feed(x, "skater 0 east 1;");
            due.is("text(" + k + ")", x.text(k), NONE);
            due.is("its fault", x.fault(0), 0);
            due.is("its place", x.fault(1), NONE);
            due.is("no text is told", x.look(8) + x.look(9) + x.look(10) + x.look(11), 0);
        }
        LeftSkate x = made(6, 6, 1);
        due.lines(x, LETTERS, "letter 1 0 0;", 1);
        for (int k = 0; k <= 3; k++) {
            due.is("text(" + k + ") there is", Due.tell(x, k, ""), 0);
        }
    }

    // "The TAPE, empty then, is TEXT k"
    private static void tapeIsEmptyThen() {
        LeftSkate x = made(6, 6, 1);
        String[] texts = {"skater 0 east 1;", "cut 1;", "letter 1 0 0;", "want 0 at 0;"};
        for (int k = 0; k <= 3; k++) {
            due.lines(x, k, texts[k], 1);
            due.is("the tape behind text " + k, x.end(1), false);
            due.fault(x, k, "x" + texts[k], 1, 0);
            due.is("the tape behind a fault of text " + k, x.end(1), false);
            due.is("it is empty", x.feed(0, 0, 0, 0, 0), 20);
            x.end(0);
        }
    }

    // "Of the latest text(): what 0 the FAULT (0 without one), 1 its place (NONE). NONE for another what."
    private static void faultOfTheLatest() {
        LeftSkate x = made(6, 6, 1);
        due.is("fault(0) at first", x.fault(0), 0);
        due.is("fault(1) at first", x.fault(1), NONE);
        due.fault(x, LAW, "cut 1/0;", 2, 6);
        x.minutes(1);
        x.undo();
        x.set(0, 0, 0);
        Due.feed(x, "cut");
        due.is("fault(0) behind other calls", x.fault(0), 2);
        due.is("fault(1) behind other calls", x.fault(1), 6);
        int[] wrong = {-1, 2, Integer.MIN_VALUE, Integer.MAX_VALUE};
        for (int what : wrong) {
            due.is("fault(" + what + ")", x.fault(what), NONE);
        }
        x.end(0);
        due.lines(x, LAW, "cut 1;", 1);
    }

    // ---- the texts

    // "TEXTS (empty at first)"
    private static void emptyAtFirst() {
        LeftSkate x = made(6, 6, 1);
        for (int what = 8; what <= 11; what++) {
            due.is("look(" + what + ") at first", x.look(what), 0);
        }
        due.is("no steps", x.of(0, 2), 0);
        due.is("cut by no law", x.cut(0, 0), 2);
        due.is("thaw by no law", x.at(0, 3), 0);
        due.is("no letter", x.letter(0), NONE);
        due.is("no want", x.want(0, 0), NONE);
    }

    private static void emptyTexts() {
        LeftSkate x = made(6, 6, 2);
        String[] texts = {"skater 0 east 1;", "cut 1;", "letter 1 0 0;", "want 0 at 0;"};
        String[] empty = {"", " ", "\n", " \n \n  "};
        for (int k = 0; k <= 3; k++) {
            for (String nothing : empty) {
                due.lines(x, k, texts[k], 1);
                due.lines(x, k, nothing, 0);
                due.is("none are told", x.look(8 + k), 0);
            }
            due.lines(x, k, texts[k], 1);
        }
    }

    // "N 1 .. 20"
    private static void stepsOfOneWord() {
        LeftSkate x = made(6, 6, 1);
        String[] words = {"north", "east", "south", "west", "rest"};
        for (String word : words) {
            String ahead = "skater 0 " + word + " ";
            due.fault(x, WAYS, ahead + "0;", 2, ahead.length());
            due.lines(x, WAYS, ahead + "1;", 1);
            due.is("1 step", x.of(0, 2), 1);
            due.lines(x, WAYS, ahead + "20;", 1);
            due.is("20 steps", x.of(0, 2), 20);
            due.fault(x, WAYS, ahead + "21;", 2, ahead.length());
            due.fault(x, WAYS, ahead + "9999;", 2, ahead.length());
            due.fault(x, WAYS, ahead + ";", 1, ahead.length());
        }
    }

    // "60 steps of one at most"; "4 (at the NUMBER) steps above 60"
    private static void sixtySteps() {
        LeftSkate x = made(6, 6, 2);
        String sixty = "lift north 20 down rest 20 lift south 20 down ";
        due.lines(x, WAYS, "skater 0 " + sixty + ";", 1);
        due.is("60 steps", x.of(0, 2), 60);
        due.lines(x, WAYS, "skater 1 " + sixty + "; skater 0 " + sixty + ";", 2);
        due.is("60 steps of each", x.of(0, 2) + x.of(1, 2), 120);
        due.fault(x, WAYS, "skater 0 " + sixty + "rest 1;", 4, 60);
        due.fault(x, WAYS, "skater 1 " + sixty + ";skater 0 " + sixty + "east 1;", 4, 116);
        due.fault(x, WAYS, "skater 0 rest 20 rest 20 rest 2 rest 19;", 4, 37);
        due.lines(x, WAYS, "skater 0 rest 20 rest 20 rest 2 rest 18;", 1);
        due.is("60 steps of four words", x.of(0, 2), 60);
        due.lines(x, WAYS, "skater 0 " + "rest 1 ".repeat(20) + "rest 20 rest 20;", 1);
        due.is("60 steps of many words", x.of(0, 2), 60);
    }

    // "a SKATER once at most"; "(at the NUMBER) a SKATER told twice"
    private static void skaterOnce() {
        LeftSkate x = made(6, 6, 6);
        due.lines(x, WAYS, "skater 5;skater 0;skater 4;skater 1;skater 3;skater 2;", 6);
        due.is("six are told", x.look(8), 6);
        due.fault(x, WAYS, "skater 5;skater 5;", 3, 16);
        due.fault(x, WAYS, "skater 0;skater 1;skater 00;", 3, 25);
        due.fault(x, WAYS, "skater 0 east 1;skater 1;skater 0 east 1;", 3, 32);
        due.is("six are told yet", x.look(8), 6);
    }

    // "2 (at the NUMBER) a SKATER .. that there is not"
    private static void skatersThatAre() {
        for (int skaters = 0; skaters <= 6; skaters++) {
            LeftSkate x = made(6, 6, skaters);
            for (int s = 0; s < skaters; s++) {
                due.lines(x, WAYS, "skater " + s + ";", 1);
            }
            due.fault(x, WAYS, "skater " + skaters + ";", 2, 7);
            due.fault(x, WAYS, "skater 9999;", 2, 7);
        }
    }

    // "who is not told has none then"
    private static void whoIsNotTold() {
        LeftSkate x = made(6, 6, 3);
        due.lines(x, WAYS, "skater 0 east 3;skater 1 east 4;skater 2 east 5;", 3);
        x.minutes(1);
        due.lines(x, WAYS, "skater 1 rest 2;", 1);
        int[] left = {0, 2, 0};
        for (int s = 0; s < 3; s++) {
            due.is("left of SKATER " + s, x.of(s, 2), left[s]);
            due.is("done of SKATER " + s, x.of(s, 3), 0);
        }
        due.is("one is told", x.look(8), 1);
        due.lines(x, WAYS, "", 0);
        due.is("nobody is told", x.of(1, 2), 0);
    }

    // "With it all begin with their skate down, with none done, where they are."
    private static void allBeginAnew() {
        LeftSkate x = made(6, 6, 2);
        due.lines(x, WAYS, "skater 0 lift east 3;skater 1 south 1 lift;", 2);
        x.minutes(2);
        due.is("both lifted", x.of(0, 4) + x.of(1, 4), 0);
        due.lines(x, WAYS, "skater 0 east 1;", 1);
        int[] cells = {2, 8};
        for (int s = 0; s < 2; s++) {
            due.is("the skate of SKATER " + s, x.of(s, 4), 1);
            due.is("done of SKATER " + s, x.of(s, 3), 0);
            due.is("the CELL of SKATER " + s, x.of(s, 1), cells[s]);
        }
        x.minutes(1);
        due.is("he cuts", x.at(3, 0), 2);
        // what stood behind the last step of another text is gone, of one with a FAULT, too
        String[] ahead = {"skater 1 east 1 lift;", "skater 1 lift;", "skater 1 east 1 lift"};
        for (String text : ahead) {
            LeftSkate y = made(6, 6, 2);
            Due.tell(y, WAYS, text);
            due.lines(y, WAYS, "skater 1 south 1;", 1);
            y.minutes(1);
            due.is("he cuts behind " + text, y.at(8, 0), 2);
            due.is("his skate behind " + text, y.of(1, 4), 1);
        }
    }

    // "3 (at its KEYWORD) the 17th line of THE LAW"
    private static void sixteenLines() {
        LeftSkate x = made(6, 6, 1);
        due.lines(x, LAW, "cut 1;thaw 2;".repeat(8), 16);
        due.is("16 lines", x.look(9), 16);
        due.lines(x, LAW, "cut 1 when 1=2;".repeat(15) + "cut 7;", 16);
        due.is("the 16th counts", x.cut(0, 0), 7);
        due.fault(x, LAW, "cut 1;thaw 2;".repeat(8) + "cut 3;", 3, 104);
        due.fault(x, LAW, "cut 1;".repeat(16) + " thaw", 3, 97);
        due.is("16 lines yet", x.look(9), 16);
    }

    // "E of the first line with that word": each line keeps its word, its E and its B, the 16th as well as the first
    private static void eachOfSixteenLines() {
        String[] words = {"cut", "thaw"};
        for (int first = 0; first < 2; first++) {
            StringBuilder law = new StringBuilder();
            for (int line = 0; line < 16; line++) {
                int depth = line % 8;
                int value = line / 8 == first ? 9 - depth : (depth + 3) % 8;
                law.append(words[line / 8 ^ first]).append(' ').append(value).append(" when depth=").append(depth).append(';');
            }
            LeftSkate x = made(6, 6, 1);
            due.lines(x, LAW, law.toString(), 16);
            for (int depth = 0; depth <= 9; depth++) {
                x.set(2, 9, depth);
                due.is(words[0] + " by DEPTH " + depth + " of " + law, x.cut(0, 9), depth > 7 ? 2 : 9 - depth);
                due.is(words[1] + " by DEPTH " + depth + " of " + law, x.at(9, 3), depth > 7 ? 0 : (depth + 3) % 8);
            }
        }
    }

    // "T = U {* U | / NUMBER}"; "2 (at the NUMBER) a part by 0"
    private static void partsByNumbers() {
        LeftSkate x = made(6, 6, 1);
        String[] none = {"0", "00", "000", "0000"};
        for (String zero : none) {
            due.fault(x, LAW, "cut 6/" + zero + ";", 2, 6);
            due.fault(x, LAW, "thaw 6 when depth/" + zero + "=1;", 2, 18);
        }
        due.fault(x, LAW, "cut 6/00000;", 1, 6);
        due.fault(x, LAW, "cut 6/edge;", 1, 6);
        due.fault(x, LAW, "cut 6/;", 1, 6);
        due.fault(x, LAW, "cut 6/2/0;", 2, 8);
        due.fault(x, LAW, "cut 6*0/0;", 2, 8);
        due.is("6/1", cutBy(x, "cut 6/1;", 0), 6);
        due.is("9999/9999", cutBy(x, "cut 9999/9999;", 0), 1);
        due.is("9998/9999", cutBy(x, "cut 9998/9999;", 0), 0);
        due.is("0/1", cutBy(x, "cut 0/1;", 0), 0);
    }

    // "(at it) the 9th ( or not that is open"
    private static void nineOpen() {
        LeftSkate x = made(6, 6, 1);
        due.is("8 (", cutBy(x, "cut 1 when " + "(".repeat(8) + "1=1" + ")".repeat(8) + ";", 0), 1);
        due.is("8 not", cutBy(x, "cut 1 when " + "not ".repeat(8) + "1=1;", 0), 1);
        due.is("4 of each", cutBy(x, "cut 1 when not(not(not(not(1=1))));", 0), 1);
        due.fault(x, LAW, "cut 1 when " + "(".repeat(9) + "1=1" + ")".repeat(9) + ";", 3, 19);
        due.fault(x, LAW, "cut 1 when " + "not ".repeat(9) + "1=1;", 3, 43);
        due.fault(x, LAW, "cut 1 when not(not(not(not((1=1)))));", 3, 27);
        due.fault(x, LAW, "cut 1 when not(not(not(not(not 1=1))));", 3, 27);
        due.is("closed ones do not count", cutBy(x, "cut 1 when ((((((((1=1)))))))) and not not((((((1=1))))));", 0), 1);
        due.is("7 open, 2 behind one another", cutBy(x, "cut 1 when (((((((not 1=2 and not 1=2 and (1=1))))))));", 0), 1);
        due.fault(x, LAW, "cut 1 when ((((((((1=1 and not 1=2))))))));", 3, 27);
    }

    // "C = .. | not C": no more than the one behind it, which ends with it
    private static void notTakesOneC() {
        LeftSkate x = made(6, 6, 1);
        due.is("not, and", cutBy(x, "cut 1 when not 1=2 and 1=1;", 0), 1);
        due.is("not, and what is not", cutBy(x, "cut 1 when not 1=2 and 1=2;", 0), 2);
        due.is("not, or", cutBy(x, "cut 1 when not 1=1 or 1=1;", 0), 1);
        due.is("not of both", cutBy(x, "cut 1 when not(1=1 or 1=1);", 0), 2);
        due.is("8 not, then others", cutBy(x, "cut 1 when " + "not ".repeat(8) + "1=1 and " + "not ".repeat(8) + "1=1;", 0), 1);
    }

    // "B = A {or A}. A = C {and C}"
    private static void andAheadOfOr() {
        LeftSkate x = made(6, 6, 1);
        String[] so = {"1=1 or 1=1 and 1=2", "1=2 and 1=1 or 1=1", "1=2 or 1=2 or 1=1", "1=1 and 1=1 and 1=1", "1=2 and 1=2 or 1=1 and 1=1"};
        String[] notSo = {"(1=1 or 1=1) and 1=2", "1=2 and (1=1 or 1=1)", "1=2 or 1=2 or 1=2", "1=1 and 1=1 and 1=2", "1=2 and 1=1 or 1=1 and 1=2"};
        for (int i = 0; i < so.length; i++) {
            due.is(so[i], cutBy(x, "cut 1 when " + so[i] + ";", 0), 1);
            due.is(notSo[i], cutBy(x, "cut 1 when " + notSo[i] + ";", 0), 2);
        }
    }

    // "C = E (< | = | >) E": below, the same, above
    private static void comparisons() {
        LeftSkate x = made(6, 6, 1);
        char[] signs = {'<', '=', '>'};
        for (int depth = 4; depth <= 6; depth++) {
            x.set(2, 9, depth);
            for (int i = 0; i < 3; i++) {
                due.is(depth + " " + signs[i] + " 5", cutBy(x, "cut 1 when depth" + signs[i] + "5;", 9), depth - 5 == i - 1 ? 1 : 2);
            }
        }
        due.is("0-9999 < 0-9998", cutBy(x, "cut 1 when 0-9999<0-9998;", 0), 1);
    }

    // a fault of the E behind <, = or > is told as one ahead of it, wherever the C stands
    private static void faultsBehindAComparison() {
        LeftSkate x = made(6, 6, 1);
        char[] signs = {'<', '=', '>'};
        for (char sign : signs) {
            due.fault(x, LAW, "cut 1 when 1/0" + sign + "1;", 2, 13);
            due.fault(x, LAW, "cut 1 when 1" + sign + "1/0;", 2, 15);
            due.fault(x, LAW, "cut 1 when 1" + sign + "1*2/0 and 1=1;", 2, 17);
            due.fault(x, LAW, "cut 1 when not 1" + sign + "1/0;", 2, 19);
            due.fault(x, LAW, "cut 1 when (1" + sign + "1/0);", 2, 16);
            due.fault(x, LAW, "cut 1 when 1=1 or 1" + sign + "1/0;", 2, 22);
            due.fault(x, LAW, "cut 1 when 1" + sign + ";", 1, 13);
            due.fault(x, LAW, "cut 1 when 1" + sign + "and 1=1;", 1, 13);
            due.fault(x, LAW, "cut 1 when 1" + sign + "or 1=1;", 1, 13);
            due.fault(x, LAW, "cut 1 when (1" + sign + ");", 1, 14);
            due.fault(x, LAW, "cut 1 when 1" + sign, 1, 13);
        }
        due.is("none of them is THE LAW", x.look(9), 0);
    }

    // what the grammar has no place for
    private static void whatALawMayNot() {
        LeftSkate x = made(6, 6, 1);
        due.fault(x, LAW, "cut;", 1, 3);
        due.fault(x, LAW, "cut -1;", 1, 4);
        due.fault(x, LAW, "cut (1);", 1, 4);
        due.fault(x, LAW, "cut 1 1;", 1, 6);
        due.fault(x, LAW, "cut 1+-1;", 1, 6);
        due.fault(x, LAW, "cut 1 when;", 1, 10);
        due.fault(x, LAW, "cut 1 when 1;", 1, 12);
        due.fault(x, LAW, "cut 1 when ();", 1, 12);
        due.fault(x, LAW, "cut 1 when (1)=1;", 1, 13);
        due.fault(x, LAW, "cut 1 when 1=1);", 1, 14);
        due.fault(x, LAW, "cut 1 when (1=1;", 1, 15);
        due.fault(x, LAW, "cut 1 when 1<=1;", 1, 13);
        due.fault(x, LAW, "cut 1 when 1=1=1;", 1, 14);
        due.fault(x, LAW, "cut 1 when 1=1 or;", 1, 17);
        due.fault(x, LAW, "cut 1 when and 1=1;", 1, 11);
        due.fault(x, LAW, "cut 1 when not;", 1, 14);
        due.fault(x, LAW, "cut 1 when 1=1 when 1=1;", 1, 15);
        due.fault(x, LAW, "when 1=1;", 1, 0);
        due.fault(x, LAW, ";", 1, 0);
        due.fault(x, LAW, "cut 1;;", 1, 6);
    }

    // "Ints, which wrap"
    private static void intsWrap() {
        LeftSkate x = made(6, 6, 1);
        // 2147483647: 9999 * 9999 * 21 is 2099580021, 9999 * 4790 more are 2147475231
        String most = "9999*9999*21+9999*4790+8416";
        due.is("the greatest int", cutBy(x, "cut 1 when " + most + ">0;", 0), 1);
        due.is("one above the greatest int", cutBy(x, "cut 1 when " + most + "+1<0;", 0), 1);
        due.is("one above the greatest int, and one back", cutBy(x, "cut 1 when " + most + "+1-1>0;", 0), 1);
        due.is("below the least int", cutBy(x, "cut 1 when 0-" + most.replace('+', '-') + "-2>0;", 0), 1);
        due.is("the least int", cutBy(x, "cut 1 when 0-" + most.replace('+', '-') + "-1<0;", 0), 1);
        due.is("times", cutBy(x, "cut 5 when 9999*9999*9999=" + plain(9999 * 9999 * 9999) + ";", 0), 5);
    }

    /** An int below 0 as the law can tell it. */
    private static String plain(int below0) {
        int rest = -(below0 + 9999 * 9999 * (below0 / (9999 * 9999) * -1));
        return "0-9999*9999*" + below0 / (9999 * 9999) * -1 + "-9999*" + rest / 9999 + "-" + rest % 9999;
    }

    // "/ goes towards 0"
    private static void towards0() {
        LeftSkate x = made(6, 6, 1);
        // 9999 * 9999 * 9999 as an int is below 0, and no multiple of 7
        int n = 9999 * 9999 * 9999;
        due.is("it is below 0 and has a rest", n < 0 && n % 7 != 0, true);
        due.is("n / 7 * 7 is above n", cutBy(x, "cut 1 when 9999*9999*9999/7*7>9999*9999*9999;", 0), 1);
        due.is("n / 7 * 7 - 7 is below n", cutBy(x, "cut 1 when 9999*9999*9999/7*7-7<9999*9999*9999;", 0), 1);
        due.is("7/8 is 0", cutBy(x, "cut 7/8;", 0), 0);
        due.is("15/8 is 1", cutBy(x, "cut 15/8;", 0), 1);
        due.is("16/8 is 2", cutBy(x, "cut 16/8*2/2;", 0), 2);
        due.is("0-7/8 is 0", cutBy(x, "cut 1 when 0-7/8=0;", 0), 1);
    }

    // "(8 at most"; "3 (at its KEYWORD) .. the 9th LETTER"
    private static void eightLetters() {
        LeftSkate x = made(6, 6, 1);
        due.lines(x, LETTERS, "letter 1 0 0;".repeat(7) + "letter 7 7 7;", 8);
        due.is("the eighth", x.letter(7), 511);
        due.is("no ninth", x.letter(8), NONE);
        due.fault(x, LETTERS, "letter 1 0 0;".repeat(8) + " letter 1 0 0;", 3, 105);
        due.fault(x, LETTERS, "letter 1 0 0;".repeat(8) + "letter", 3, 104);
        due.is("eight yet", x.look(10), 8);
        due.is("the eighth yet", x.letter(7), 511);
    }

    // "ROW 0 .. 7: of three CELLS beside one another the left one counts 1, then 2, 4; the upper one first"
    private static void rows() {
        LeftSkate x = made(6, 6, 1);
        for (int cell = 0; cell < 9; cell++) {
            int[] row = new int[3];
            row[cell / 3] = 1 << cell % 3;
            due.lines(x, LETTERS, "letter " + row[0] + " " + row[1] + " " + row[2] + ";", 1);
            due.is("the letter of cell " + cell + " alone", x.letter(0), 1 << cell);
            x.set(2, 8 * (cell / 3) + cell % 3, 1);
            due.is("it is read", x.read(0), 0);
            x.set(2, 8 * (cell / 3) + cell % 3, 0);
        }
        due.lines(x, LETTERS, "letter 7 7 7;", 1);
        due.is("all of them", x.letter(0), 511);
        due.fault(x, LETTERS, "letter 8 7 7;", 2, 7);
        due.fault(x, LETTERS, "letter 7 8 7;", 2, 9);
        due.fault(x, LETTERS, "letter 7 7 8;", 2, 11);
        due.fault(x, LETTERS, "letter 7 7 9999;", 2, 11);
        due.fault(x, LETTERS, "letter 7 7;", 1, 10);
        due.fault(x, LETTERS, "letter 7 7 7 7;", 1, 13);
        due.fault(x, LETTERS, "letter 777;", 2, 7);
    }

    // "not all 0)"; "(at the NUMBER) .. a third ROW with which all are 0"
    private static void rowsNotAll0() {
        LeftSkate x = made(6, 6, 1);
        due.fault(x, LETTERS, "letter 0 0 0;", 3, 11);
        due.fault(x, LETTERS, "letter 00 000 0000", 3, 14);
        due.fault(x, LETTERS, "letter 1 0 0;letter 0 0 0;", 3, 24);
        due.lines(x, LETTERS, "letter 1 0 0;letter 0 1 0;letter 0 0 1;", 3);
    }

    // "(10 at most"; "3 (at its KEYWORD) .. the 11th WANT"
    private static void tenWants() {
        LeftSkate x = made(6, 6, 1);
        Due.tell(x, LETTERS, "letter 1 0 0;letter 2 0 0;");
        due.lines(x, WANTS, "want 0 at 0;".repeat(9) + "want 1 at 27;", 10);
        due.is("the tenth", x.want(9, 1), 27);
        due.is("no eleventh", x.want(10, 1), NONE);
        due.fault(x, WANTS, "want 0 at 0;".repeat(10) + "\nwant 0 at 0;", 3, 121);
        due.fault(x, WANTS, "want 0 at 0;".repeat(10) + "want", 3, 120);
        due.is("ten yet", x.look(11), 10);
    }

    // "2 (at the NUMBER) .. a LETTER that there is not"
    private static void lettersThatAre() {
        LeftSkate x = made(6, 6, 1);
        for (int letters = 0; letters <= 8; letters++) {
            Due.tell(x, LETTERS, "letter 1 0 0;".repeat(letters));
            for (int i = 0; i < letters; i++) {
                due.lines(x, WANTS, "want " + i + " at 0;", 1);
            }
            due.fault(x, WANTS, "want " + letters + " at 0;", 2, 5);
            due.fault(x, WANTS, "want 9999 at 0;", 2, 5);
        }
    }

    // "the CELL: its box's upper left; the whole box on THE BASIN"; "2 .. a CELL that can't be"
    private static void boxesOnTheBasin() {
        int[][] sizes = {{3, 3}, {8, 7}, {3, 7}, {8, 3}, {5, 4}};
        for (int[] size : sizes) {
            LeftSkate x = made(size[0], size[1], 0);
            Due.tell(x, LETTERS, "letter 1 0 0;");
            for (int cell = 0; cell < 70; cell++) {
                if (cell % 8 <= size[0] - 3 && cell / 8 <= size[1] - 3) {
                    due.lines(x, WANTS, "want 0 at " + cell + ";", 1);
                } else {
                    due.fault(x, WANTS, "want 0 at " + cell + ";", 2, 10);
                }
            }
            due.fault(x, WANTS, "want 0 at 9999;", 2, 10);
        }
    }

    // ---- tokens

    // "letters as many as stand together are KEYWORDS .. or none"
    private static void keywords() {
        LeftSkate x = made(6, 6, 1);
        due.lines(x, WAYS, "skater0east2lift;", 1);
        due.fault(x, WAYS, "skater0eastlift2;", 1, 7);
        due.fault(x, WAYS, "skater 0 eas 2;", 1, 9);
        due.fault(x, WAYS, "skater 0 easts 2;", 1, 9);
        due.fault(x, WAYS, "skater 0 ea st 2;", 1, 9);
        due.fault(x, WAYS, "skater 0 East 2;", 1, 9);
        due.fault(x, WAYS, "SKATER 0 east 2;", 1, 0);
        due.fault(x, WAYS, "xskater 0;", 1, 0);
        due.fault(x, WAYS, "skateraskater 0;", 1, 0);
        due.fault(x, WAYS, "skatera 0;", 1, 0);
        due.fault(x, WAYS, "skaterz 0;", 1, 0);
        due.fault(x, WAYS, "skaterA 0;", 1, 0);
        due.fault(x, WAYS, "skaterZ 0;", 1, 0);
        // the signs beside a, z, A and Z are no letters
        due.fault(x, WAYS, "skater` 0;", 1, 6);
        due.fault(x, WAYS, "skater{ 0;", 1, 6);
        due.fault(x, WAYS, "skater@ 0;", 1, 6);
        due.fault(x, WAYS, "skater[ 0;", 1, 6);
        due.fault(x, LAW, "cut 1 when not1=2 andedge=0;", 1, 18);
        due.lines(x, LAW, "cut 1 when not(1=2)and(edge=0);", 1);
    }

    // "KEYWORDS (those told here for that text)"
    private static void keywordsOfThatText() {
        LeftSkate x = made(6, 6, 1);
        Due.tell(x, LETTERS, "letter 1 0 0;");
        String[] texts = {"skater 0;", "cut 1;", "letter 1 0 0;", "want 0 at 0;"};
        for (int k = 0; k <= 3; k++) {
            for (int other = 0; other <= 3; other++) {
                if (other == k) {
                    due.lines(x, k, texts[other], 1);
                } else {
                    due.fault(x, k, texts[other], 1, 0);
                }
            }
        }
        due.fault(x, WAYS, "skater 0 depth 1;", 1, 9);
        due.fault(x, LAW, "cut north;", 1, 4);
        due.fault(x, LAW, "cut 1 at 0;", 1, 6);
        due.fault(x, WANTS, "want 0 when 0;", 1, 7);
    }

    // "digits as many as stand together NUMBERS of 1 to 4 digits or none"
    private static void fourDigits() {
        LeftSkate x = made(6, 6, 1);
        due.lines(x, WAYS, "skater 0000 east 0001 east 001 east 01 east 1;", 1);
        due.is("four steps", x.of(0, 2), 4);
        due.fault(x, WAYS, "skater 00000;", 1, 7);
        due.fault(x, WAYS, "skater 0 east 00001;", 1, 14);
        due.fault(x, WAYS, "skater 0 east 1 1;", 1, 16);
        due.fault(x, WAYS, "skater 0 east 0x1;", 2, 14);
        due.fault(x, WAYS, "skater 0 east 1x1;", 1, 15);
        due.fault(x, LETTERS, "letter 1 00000 1;", 1, 9);
        due.fault(x, LAW, "cut 10000;", 1, 4);
        due.fault(x, LAW, "cut 1+99999999999999999999;", 1, 6);
        due.is("9999", cutBy(x, "cut 9999-9990;", 0), 9);
        Due.tell(x, LETTERS, "letter 1 0 0;");
        due.fault(x, WANTS, "want 00000 at 0;", 1, 5);
        due.fault(x, WANTS, "want 0 at 00027;", 1, 10);
        due.lines(x, WANTS, "want 0 at 0027;", 1);
        // the signs beside 0 and 9 are no digits
        due.fault(x, WAYS, "skater 0 east 1:;", 1, 15);
        due.fault(x, LAW, "cut 9:;", 1, 5);
    }

    // "; + - * / ( ) < = > ."
    private static void signs() {
        due.is("all the signs", cutBy(made(6, 6, 1), "cut 1+2*3-4/2when(1<2)and 1=1 and 2>1;", 0), 5);
        for (int sign = 0; sign < 256; sign++) {
            LeftSkate x = made(6, 6, 1);
            char c = (char) sign;
            boolean isLetter = c >= 'a' && c <= 'z' || c >= 'A' && c <= 'Z';
            if (c == ';' || c == ' ' || c == '\n') {
                due.lines(x, WAYS, "skater 0" + c + (c == ';' ? "" : ";"), 1);
            } else if (c >= '0' && c <= '9') {
                due.is("a digit more", Due.tell(x, WAYS, "skater 0" + c + ";"), c == '0' ? 1 : NONE);
            } else {
                due.fault(x, WAYS, "skater 0" + c + ";", 1, 8);
                due.fault(x, LETTERS, c + "letter 1 0 0;", 1, 0);
                due.fault(x, LAW, "cut" + c + "1;", 1, isLetter ? 0 : 3);
            }
        }
    }

    // "Blanks (32, 10) between"
    private static void blanks() {
        LeftSkate x = made(6, 6, 1);
        due.lines(x, LAW, "\n cut\n\n1 \n+  2 when\n(\n1 =\n1 )\n; \n thaw 1 ;\n ", 2);
        int[] wrong = {9, 11, 12, 13, 31, 33, 0, 160};
        for (int sign : wrong) {
            due.fault(x, LAW, "cut 1;" + (char) sign + "thaw 1;", 1, 6);
            due.fault(x, LAW, "cut 1;" + (char) sign, 1, 6);
        }
        due.fault(x, LAW, "c ut 1;", 1, 0);
        due.fault(x, LAW, "cut 1 2;", 1, 6);
        due.fault(x, LAW, "cut 1 when 1= =1;", 1, 14);
    }

    // ---- faults

    // "1 what can't stand there (the end: the text's length)"
    private static void theEnd() {
        LeftSkate x = made(6, 6, 1);
        Due.tell(x, LETTERS, "letter 1 0 0;");
        String[][] begun = {
            {"skater", "skater 0", "skater 0 ", "skater 0 east", "skater 0 east 1", "skater 0 lift", "skater 0; skater", "skater 0 east 1 \n "},
            {"cut", "cut 1", "cut 1+", "cut 1 *", "cut 1/", "cut 1/2", "cut 1 when", "cut 1 when not", "cut 1 when (", "cut 1 when (1",
                "cut 1 when (1=", "cut 1 when (1=1", "cut 1 when (1=1)", "cut 1 when 1=1 and", "cut 1 when 1=1 or\n", "cut 1;thaw", "thaw "},
            {"letter", "letter 1", "letter 1 0", "letter 1 0 0", "letter 1 0 0; letter", "letter 1 0 0 "},
            {"want", "want 0", "want 0 at", "want 0 at 0", "want 0 at 0; want", "want 0 at 0\n"}};
        for (int k = 0; k <= 3; k++) {
            for (String text : begun[k]) {
                due.fault(x, k, text, 1, text.length());
            }
        }
    }

    private static void theEndOfAFullTape() {
        LeftSkate x = made(6, 6, 1);
        String blanks = " ".repeat(394);
        due.lines(x, LAW, blanks + "cut 1;", 1);
        due.fault(x, LAW, "cut 1;" + blanks.substring(1) + ")", 1, 400 - 1);
        due.fault(x, LAW, "cut 1 " + blanks, 1, 400);
        due.fault(x, LAW, blanks + " cut 1", 1, 400);
        due.fault(x, LAW, blanks + "  cut ", 1, 400);
        due.fault(x, LETTERS, "letter 1 0 0;" + " ".repeat(381) + "letter", 1, 400);
        due.fault(x, WAYS, "skater 0;" + " ".repeat(387) + "lift", 1, 396);
        due.fault(x, LAW, "cut " + "1".repeat(396), 1, 4);
        due.fault(x, LAW, "c".repeat(400), 1, 0);
        due.fault(x, LAW, "cut 1" + "+1".repeat(197) + "+", 1, 400);
        due.lines(x, LAW, "cut 1" + "+1".repeat(197) + ";", 1);
        due.is("198, held to 9", x.cut(0, 0), 9);
        due.lines(x, LAW, "cut 1" + "-1".repeat(197) + ";", 1);
        due.is("below 0, held to 0", x.cut(0, 0), 0);
    }

    // "FAULTS, the first by its place"
    private static void firstByPlace() {
        LeftSkate x = made(6, 6, 2);
        due.fault(x, WAYS, "skater 0 east 21;skater 0;", 2, 14);
        due.fault(x, WAYS, "skater 0;skater 0 east 21;", 3, 16);
        due.fault(x, WAYS, "skater 0 rest 20 rest 20 rest 20 rest 1 x;", 4, 38);
        due.fault(x, WAYS, "skater 0 x rest 20 rest 20 rest 20 rest 1;", 1, 9);
        due.fault(x, LAW, "cut 1/0 x;", 2, 6);
        due.fault(x, LAW, "cut x 1/0;", 1, 4);
        due.fault(x, LETTERS, "letter 9 0 0 x", 2, 7);
        due.fault(x, LETTERS, "letter 0 0 0 x", 3, 11);
        due.fault(x, LETTERS, "letter 0 8 0;", 2, 9);
        due.fault(x, LETTERS, "letter 1 0 0;".repeat(8) + "letter 9 0 0;", 3, 104);
        due.fault(x, LETTERS, "letter 1 0 0;".repeat(7) + "letter 9 0 0;letter", 2, 98);
        Due.tell(x, LETTERS, "letter 1 0 0;");
        due.fault(x, WANTS, "want 1 at 99;", 2, 5);
        due.fault(x, WANTS, "want 0 at 99 x", 2, 10);
        due.fault(x, WANTS, "want 0 x 99;", 1, 7);
    }

    // "at one place the least"
    private static void leastAtOnePlace() {
        LeftSkate x = made(6, 6, 2);
        // 1 ahead of 3: no KEYWORD of a 17th line, a 9th LETTER, an 11th WANT
        due.fault(x, LAW, "cut 1;".repeat(16) + "x", 1, 96);
        due.fault(x, LAW, "cut 1;".repeat(16) + ";", 1, 96);
        due.fault(x, LETTERS, "letter 1 0 0;".repeat(8) + "1", 1, 104);
        Due.tell(x, LETTERS, "letter 1 0 0;");
        due.fault(x, WANTS, "want 0 at 0;".repeat(10) + "letter", 1, 120);
        // 2 ahead of 3 and 4: a third ROW beyond its bounds, N beyond 20 above 60
        due.fault(x, LETTERS, "letter 0 0 8;", 2, 11);
        due.fault(x, WAYS, "skater 0 rest 20 rest 20 rest 20 rest 21;", 2, 38);
        due.fault(x, WAYS, "skater 0 rest 20 rest 20 rest 20 rest 0;", 2, 38);
        // 1 ahead of 2 and 4: five digits are no NUMBER
        due.fault(x, WAYS, "skater 0 rest 20 rest 20 rest 20 rest 00001;", 1, 38);
        due.fault(x, WAYS, "skater 0;skater 00000;", 1, 16);
    }

    // "or a FAULT (it stays as it was)"
    private static void aFaultLeavesTheText() {
        String[] texts = {"skater 1 east 3;skater 0 lift south 2;", "cut 4;thaw 1 when edge=1;", "letter 1 0 0;letter 0 7 0;", "want 1 at 9;want 0 at 0;"};
        String[] wrong = {"skater 0 north 1;skater 0", "cut 8;thaw 3;cut", "letter 7 7 7;letter 8", "want 0 at 8;want 2"};
        for (int k = 0; k <= 3; k++) {
            LeftSkate x = made(4, 4, 2);
            for (int i = 0; i <= 3; i++) {
                if (k != 3 || i != 3) {
                    due.lines(x, i, texts[i], 2);
                }
            }
            Due.tell(x, 3, texts[3]);
            x.minutes(1);
            due.is("a fault of text " + k, Due.tell(x, k, wrong[k]), NONE);
            int kind = x.fault(0);
            int place = x.fault(1);
            Snapshot was = Snapshot.of(x);
            due.is("the same fault again", Due.tell(x, k, wrong[k]), NONE);
            due.same("a fault of text " + k, was, Snapshot.of(x));
            due.is("it has a kind", kind, k == 0 ? 3 : k == 1 ? 1 : 2);
            due.is("it has a place", place, wrong[k].length() - (k == 1 ? 0 : 1));
            stayed(x);
        }
    }

    private static void stayed(LeftSkate x) {
        due.is("ways stay", x.of(1, 2) * 10 + x.of(0, 2), 21);
        due.is("skates stay", x.of(1, 4) * 10 + x.of(0, 4), 10);
        due.is("the law stays", x.cut(0, 0) * 10 + x.at(0, 3), 41);
        due.is("letters stay", x.letter(0) * 1000 + x.letter(1), 1056);
        due.is("wants stay", x.want(0, 0) * 100 + x.want(0, 1) * 10 + x.want(1, 1), 190);
        due.is("undo stays", x.undo(), true);
    }

    // ---- the law, asked

    // "E of the first line with that word whose B is so, or that has none"
    private static void firstLineThatIsSo() {
        LeftSkate x = made(6, 6, 1);
        due.lines(x, LAW, "thaw 7 when edge=0;cut 3 when edge=1 and depth=0;cut 4 when edge=1;cut 5;thaw 6;cut 8;", 6);
        due.is("the first that is so", x.cut(0, 0), 3);
        x.set(2, 0, 1);
        due.is("the second", x.cut(0, 0), 4);
        due.is("one that has none", x.cut(0, 9), 5);
        due.is("thaw: the first", x.at(9, 3), 7);
        due.is("thaw: one that has none", x.at(0, 3), 6);
        due.lines(x, LAW, "cut 8;cut 3 when 1=1;", 2);
        due.is("none of those behind one that has none", x.cut(0, 0), 8);
    }

    // "(none: cut 2, thaw 0)"
    private static void noneIsSo() {
        LeftSkate x = made(6, 6, 1);
        due.lines(x, LAW, "thaw 5;", 1);
        due.is("no cut", x.cut(0, 0), 2);
        due.lines(x, LAW, "cut 5;", 1);
        due.is("no thaw", x.at(0, 3), 0);
        due.lines(x, LAW, "cut 5 when depth>0;thaw 5 when depth>0;", 2);
        due.is("no cut is so", x.cut(0, 9), 2);
        due.is("no thaw is so", x.at(9, 3), 0);
        x.set(2, 9, 1);
        due.is("a cut is so", x.cut(0, 9), 5);
        due.is("a thaw is so", x.at(9, 3), 5);
    }

    // "held to 0 .. 9"
    private static void held() {
        LeftSkate x = made(6, 6, 1);
        String[] values = {"0-1", "0", "1", "8", "9", "10", "9999", "0-9999", "9999*9999*22", "9999*9999*30"};
        int[] held = {0, 0, 1, 8, 9, 9, 9, 0, 0, 0};
        for (int i = 0; i < values.length; i++) {
            due.lines(x, LAW, "cut " + values[i] + ";thaw " + values[i] + ";", 2);
            due.is("cut " + values[i], x.cut(0, 0), held[i]);
            due.is("thaw " + values[i], x.at(0, 3), held[i]);
        }
    }

    // "edge: 1, if x or y is the first or the last one, else 0"
    private static void edge() {
        int[][] sizes = {{3, 3}, {8, 7}, {5, 4}};
        for (int[] size : sizes) {
            LeftSkate x = made(size[0], size[1], 1);
            due.lines(x, LAW, "cut edge;thaw edge+1;", 2);
            for (int cell = 0; cell < 56; cell++) {
                int px = cell % 8;
                int py = cell / 8;
                if (px < size[0] && py < size[1]) {
                    boolean edge = px == 0 || py == 0 || px == size[0] - 1 || py == size[1] - 1;
                    due.is("cut edge of " + cell, x.cut(0, cell), edge ? 1 : 0);
                    due.is("thaw edge of " + cell, x.at(cell, 3), edge ? 2 : 1);
                }
            }
        }
    }

    // "minute: MINUTE"
    private static void minute() {
        LeftSkate x = made(6, 6, 1);
        due.lines(x, LAW, "cut minute;thaw minute;", 2);
        for (int minute = 0; minute <= 10; minute++) {
            due.is("cut minute " + minute, x.cut(0, 0), Math.min(9, minute));
            due.is("thaw minute " + minute, x.at(0, 3), Math.min(9, minute));
            x.minutes(1);
        }
        for (int i = 0; i < 166; i++) {
            x.minutes(60);
        }
        x.minutes(28);
        due.lines(x, LAW, "cut 7 when minute=9999;cut 1;", 2);
        due.is("cut minute 9999", x.cut(0, 0), 7);
    }

    // "hand: his HAND (thaw: 0)"
    private static void hand() {
        LeftSkate x = made(6, 6, 0);
        int[] hands = {0, 9, 5};
        for (int s = 0; s < 3; s++) {
            x.skater(hands[s], 0);
        }
        due.lines(x, LAW, "cut hand;thaw hand+1;", 2);
        for (int s = 0; s < 3; s++) {
            due.is("the hand of " + s, x.cut(s, 0), hands[s]);
        }
        due.is("thaw has no hand", x.at(0, 3), 1);
    }

    // "crossed: 1, if LATEST is another SKATER, else 0 (thaw: 0)"
    private static void crossed() {
        LeftSkate x = made(6, 6, 3);
        due.lines(x, LAW, "cut crossed+3;thaw crossed;", 2);
        due.is("nobody's cell", x.cut(0, 1), 3);
        due.lines(x, WAYS, "skater 0 east 1;", 1);
        x.minutes(1);
        due.is("his own", x.cut(0, 1), 3);
        due.is("another's", x.cut(1, 1), 4);
        due.is("another's", x.cut(2, 1), 4);
        due.is("thaw is never crossed", x.at(1, 3), 0);
        due.lines(x, LAW, "cut crossed+3;thaw crossed+1;", 2);
        due.is("crossed is 0 for a thaw, not less", x.at(1, 3), 1);
        due.is("of a CELL that nobody cut, too", x.at(9, 3), 1);
        due.lines(x, WAYS, "skater 2 east 1;", 1);
        x.minutes(1);
        due.is("not his own any more", x.cut(0, 1), 4);
        due.is("his own now", x.cut(2, 1), 3);
        x.set(2, 1, 0);
        due.is("of what has no DEPTH, too", x.cut(0, 1), 4);
    }

    // "around: how many of the four CELLS beside it are SEEN"
    private static void around() {
        LeftSkate x = made(4, 4, 1);
        due.lines(x, LAW, "cut around;thaw around;", 2);
        int[] beside = {1, 8, 10, 17};
        due.is("around, none", x.cut(0, 9), 0);
        int seen = 0;
        for (int cell : beside) {
            x.set(2, cell, 2);
            seen++;
            due.is("around, one more", x.cut(0, 9), seen);
            due.is("thaw: around, one more", x.at(9, 3), seen);
        }
        for (int cell : new int[] {0, 2, 16, 18, 9, 11, 25}) {
            x.set(2, cell, 9);
        }
        due.is("around: not aslant, not itself, not far", x.cut(0, 9), 4);
        x.set(0, 0, 3);
        due.is("around: not SEEN", x.cut(0, 9), 0);
        due.is("around a corner", x.cut(0, 3), 2);
        due.is("around the rim", x.cut(0, 26), 2);
    }
}
