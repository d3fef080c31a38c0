import java.util.Arrays;

/** A frozen basin as a newspaper: skaters cut letters into its ice, and the tower reads them. */
public final class LeftSkate {
    public static final int NONE = -1;

    /** What is answered where NONE is an answer of its own. */
    private static final int ABSENT = -2;

    private static final int ROW = 8;
    private static final int CELLS = 64;
    private static final int FIRST_SIZE = 6;
    private static final int DEEPEST = 9;
    private static final int FALL_DEPTH = 3;
    private static final int MOST_SKATERS = 6;
    private static final int MOST_STEPS = 60;
    private static final int LAST_MINUTE = 9999;
    private static final int MOST_AHEAD = 99;
    private static final int BOX = 3;
    private static final int BOX_CELLS = 9;
    private static final int BOOK_LINES = 150;
    private static final int TAPE_BYTES = 400;
    private static final int FED_BYTES = 20;
    private static final int KEPT_MINUTES = 6;
    private static final int MOST_TOURED = 9;
    private static final int MILLION = 1000000;

    private static final int NORTH = 0;
    private static final int EAST = 1;
    private static final int SOUTH = 2;
    private static final int WEST = 3;
    private static final int REST = 4;
    private static final int WAYS_OUT = 4;
    private static final int[] STEP_X = {0, 1, 0, -1};
    private static final int[] STEP_Y = {-1, 0, 1, 0};

    private final World now = new World();
    /** THE IMAGE, once it was taken. */
    private final World kept = new World();
    private boolean hasKept = false;
    /** What is thought of happens here, so that nothing of it stays. */
    private final Moment thought = new Moment();
    private final Moment[] past = new Moment[KEPT_MINUTES];
    private int pastCount = 0;
    private final Tape tape = new Tape();
    /** A text is read into these first: one with a fault changes nothing. */
    private final Ways newWays = new Ways();
    private final Law newLaw = new Law();
    private final Paper newPaper = new Paper();
    private final Router router = new Router();
    private final Bars bars = new Bars();
    private final int[] chances = new int[DEEPEST + 1];

    public LeftSkate() {
        for (int i = 0; i < KEPT_MINUTES; i++) {
            past[i] = new Moment();
        }
        now.restart(FIRST_SIZE, FIRST_SIZE);
    }

    // ---- what is told

    public int state(int v) {
        int was = now.moment.draws;
        now.moment.draws = v;
        forgetPast();
        return was;
    }

    public boolean basin(int w, int h) {
        if (w < 3 || w > 8 || h < 3 || h > 7) {
            return false;
        }
        now.restart(w, h);
        forgetPast();
        return true;
    }

    public int skater(int hand, int cell) {
        if (hand < 0 || hand > 9 || !now.isCell(cell) || now.skaters >= MOST_SKATERS) {
            return NONE;
        }
        forgetPast();
        return now.join(hand, cell);
    }

    public boolean set(int what, int who, int v) {
        boolean done = tell(what, who, v);
        if (done) {
            forgetPast();
        }
        return done;
    }

    private boolean tell(int what, int who, int v) {
        if (what == 0 && v >= 1 && v <= DEEPEST) {
            now.sight = v;
            return true;
        }
        if (what == 1 && v >= 0 && v <= 1000) {
            now.falls = v;
            return true;
        }
        if (what == 2 && now.isCell(who) && v >= 0 && v <= DEEPEST) {
            now.moment.depth[who] = v;
            return true;
        }
        if (what == 3 && now.isSkater(who) && now.isCell(v)) {
            now.moment.place[who] = v;
            return true;
        }
        return false;
    }

    public int feed(int a, int b, int c, int d, int e) {
        if (tape.length + FED_BYTES > TAPE_BYTES) {
            return NONE;
        }
        tape.put(a);
        tape.put(b);
        tape.put(c);
        tape.put(d);
        tape.put(e);
        return tape.length;
    }

    public boolean end(int n) {
        if (n < 0 || n > tape.length) {
            return false;
        }
        tape.length = n;
        return true;
    }

    public int text(int k) {
        tape.begin();
        int lines = NONE;
        if (k == 0 && newWays.parse(tape, now.skaters)) {
            lines = takeWays();
        } else if (k == 1 && newLaw.parse(tape)) {
            now.law.copy(newLaw);
            lines = now.law.lines;
        } else if (k == 2 && newPaper.parseLetters(tape)) {
            now.paper.copy(newPaper);
            lines = now.paper.letters;
        } else if (k == 3 && newPaper.parseWants(tape, now)) {
            now.paper.copy(newPaper);
            lines = now.paper.wants;
        }
        tape.length = 0;
        return lines;
    }

    private int takeWays() {
        now.ways.copy(newWays);
        now.beginWays();
        forgetPast();
        return now.ways.told;
    }

    public int fault(int what) {
        if (what == 0) {
            return tape.faultKind;
        }
        return what == 1 ? tape.faultPlace : NONE;
    }

    // ---- what happens

    public int minutes(int n) {
        if (n < 1 || n > 60 || now.moment.minute + n > LAST_MINUTE) {
            return NONE;
        }
        int fell = 0;
        for (int i = 0; i < n; i++) {
            keepPast();
            fell += now.pass(now.moment, true);
        }
        return fell;
    }

    private void forgetPast() {
        pastCount = 0;
    }

    private void keepPast() {
        if (pastCount >= KEPT_MINUTES) {
            Moment oldest = past[0];
            for (int i = 1; i < KEPT_MINUTES; i++) {
                past[i - 1] = past[i];
            }
            past[KEPT_MINUTES - 1] = oldest;
            pastCount = KEPT_MINUTES - 1;
        }
        past[pastCount].copy(now.moment);
        pastCount++;
    }

    // ---- what is

    public int of(int skater, int what) {
        if (!now.isSkater(skater)) {
            return ABSENT;
        }
        Moment m = now.moment;
        switch (what) {
            case 0: return now.hands[skater];
            case 1: return m.place[skater];
            case 2: return now.ways.count[skater] - m.done[skater];
            case 3: return m.done[skater];
            case 4: return m.down[skater];
            case 5: return now.crossings(skater);
            default: return ABSENT;
        }
    }

    public int at(int cell, int what) {
        if (!now.isCell(cell)) {
            return ABSENT;
        }
        Moment m = now.moment;
        switch (what) {
            case 0: return m.depth[cell];
            case 1: return m.latest[cell];
            case 2: return now.isSeen(m, cell) ? 1 : 0;
            case 3: return now.thawOf(m, cell);
            case 4: return now.seenAround(m, cell);
            default: return ABSENT;
        }
    }

    public int cut(int skater, int cell) {
        if (!now.isSkater(skater) || !now.isCell(cell)) {
            return NONE;
        }
        return now.cutOf(now.moment, skater, cell);
    }

    public int letter(int i) {
        return now.paper.isLetter(i) ? now.paper.shapes[i] : NONE;
    }

    public int want(int i, int what) {
        if (!now.paper.isWant(i)) {
            return NONE;
        }
        switch (what) {
            case 0: return now.paper.wantLetters[i];
            case 1: return now.paper.wantCells[i];
            case 2: return now.isReadSo(now.moment, i) ? 1 : 0;
            default: return NONE;
        }
    }

    public int book(int i, int what) {
        if (i < 0 || i >= now.moment.lines || i >= BOOK_LINES) {
            return NONE;
        }
        int line = now.bookLines[i];
        switch (what) {
            case 0: return line >> 14;
            case 1: return line >> 11 & 7;
            case 2: return line >> 5 & 63;
            case 3: return line >> 1 & 15;
            case 4: return line & 1;
            default: return NONE;
        }
    }

    public int read(int cell) {
        return now.isBox(cell) ? now.readBox(now.moment, cell) : ABSENT;
    }

    // ---- in thought

    public long goes(int n) {
        if (n < 0 || n > MOST_AHEAD) {
            return NONE;
        }
        think(n);
        return now.seenCells(thought);
    }

    public int wants(int n) {
        if (n < 0 || n > MOST_AHEAD) {
            return NONE;
        }
        think(n);
        return Integer.bitCount(now.wantsRead(thought));
    }

    private void think(int n) {
        thought.copy(now.moment);
        for (int i = 0; i < n; i++) {
            now.pass(thought, false);
        }
    }

    public int spoilt(int what) {
        if (what != 0 && what != 1) {
            return NONE;
        }
        int readNow = now.wantsRead(now.moment);
        if (readNow == 0) {
            return NONE;
        }
        thought.copy(now.moment);
        for (int minute = 1; minute <= MOST_AHEAD; minute++) {
            now.pass(thought, false);
            int lost = readNow & ~now.wantsRead(thought);
            if (lost != 0) {
                return what == 0 ? minute : leastOf(lost);
            }
        }
        return NONE;
    }

    private static int leastOf(int set) {
        for (int i = 0; i < 32; i++) {
            if ((set >> i & 1) == 1) {
                return i;
            }
        }
        return NONE;
    }

    public int route(int skater, long cells, int what) {
        if (!now.isSkater(skater) || !now.areCells(cells) || !router.take(cells)) {
            return NONE;
        }
        int from = now.moment.place[skater];
        if (what == 0) {
            return router.lead(from, router.all());
        }
        int i = what - 10;
        return i >= 0 && i < router.count ? router.stop(from, i) : NONE;
    }

    public int soonest(long cells, int what) {
        if (now.skaters == 0 || !now.areCells(cells) || !router.take(cells)) {
            return NONE;
        }
        int i = what - 10;
        if (what != 0 && (i < 0 || i >= router.count)) {
            return NONE;
        }
        router.begin(now.moment.place, now.skaters);
        return what == 0 ? router.longest() : router.taker(i);
    }

    public int beneath(int letter, int cell) {
        if (!now.paper.isLetter(letter) || !now.isBox(cell)) {
            return NONE;
        }
        int above = now.paper.shapes[letter];
        int seen = now.seenBox(now.moment, cell);
        int may = 0;
        for (int i = 0; i < now.paper.letters; i++) {
            if ((now.paper.shapes[i] | above) == seen) {
                may |= 1 << i;
            }
        }
        return may;
    }

    public int lookAt(int letters) {
        int size = Integer.bitCount(letters);
        if ((letters & ~now.paper.allLetters()) != 0 || size < 2) {
            return NONE;
        }
        int best = NONE;
        int least = size + 1;
        for (int c = 0; c < BOX_CELLS; c++) {
            int have = now.paper.having(letters, c);
            int greater = Math.max(have, size - have);
            if (greater < least) {
                least = greater;
                best = c;
            }
        }
        return best;
    }

    public int who(int cell, int what) {
        if (!now.isBox(cell) || what != 0 && what != 1) {
            return ABSENT;
        }
        int most = 0;
        int first = NONE;
        int some = 0;
        for (int s = 0; s < now.skaters; s++) {
            int written = now.writtenBy(s, cell);
            if (written > 0) {
                some |= 1 << s;
            }
            if (written > most) {
                most = written;
                first = s;
            }
        }
        return what == 0 ? first : some;
    }

    public int holds(int d, int what) {
        if (d < 1 || d > BOX_CELLS || what != 0 && what != 1) {
            return NONE;
        }
        int best = 0;
        for (int letters = 1; letters <= now.paper.allLetters(); letters++) {
            if (Integer.bitCount(letters) > Integer.bitCount(best) && now.paper.differ(letters, d)) {
                best = letters;
            }
        }
        return what == 0 ? Integer.bitCount(best) : best;
    }

    public int parts(int a, int b) {
        if (!now.isCell(a) || !now.isCell(b) || distance(a, b) < 2) {
            return NONE;
        }
        return bars.between(now, a, b);
    }

    public int yet(int cell, int n, int p) {
        if (!now.isCell(cell) || n < 1 || n > MOST_AHEAD || p < 0 || p > 1000) {
            return NONE;
        }
        Arrays.fill(chances, 0);
        chances[now.moment.depth[cell]] = MILLION;
        for (int i = 0; i < n; i++) {
            loseOne(p);
        }
        int seen = 0;
        for (int d = now.sight; d <= DEEPEST; d++) {
            seen += chances[d];
        }
        return seen;
    }

    private void loseOne(int p) {
        // upwards, so that what comes down in this minute does not go on in it
        for (int d = 1; d <= DEEPEST; d++) {
            int goes = chances[d] * p / 1000;
            chances[d] -= goes;
            chances[d - 1] += goes;
        }
    }

    public long heard(int skater, int n) {
        if (!now.isSkater(skater) || n < 0 || n > 9) {
            return NONE;
        }
        int from = now.moment.place[skater];
        long may = 0;
        for (int c = 0; c < CELLS; c++) {
            if (now.isCell(c) && distance(from, c) <= n) {
                may |= 1L << c;
            }
        }
        return may;
    }

    // ---- back

    public boolean undo() {
        if (pastCount <= 0) {
            return false;
        }
        pastCount--;
        now.moment.copy(past[pastCount]);
        return true;
    }

    public boolean image(boolean taken) {
        if (taken) {
            kept.copy(now);
            hasKept = true;
            return true;
        }
        if (!hasKept) {
            return false;
        }
        now.copy(kept);
        forgetPast();
        return true;
    }

    public int look(int what) {
        switch (what) {
            case 0: return now.w;
            case 1: return now.h;
            case 2: return now.moment.minute;
            case 3: return now.skaters;
            case 4: return now.sight;
            case 5: return now.falls;
            case 6: return now.moment.lines;
            case 7: return now.moment.draws;
            case 8: return now.ways.told;
            case 9: return now.law.lines;
            case 10: return now.paper.letters;
            case 11: return now.paper.wants;
            case 12: return pastCount;
            case 13: return Long.bitCount(now.seenCells(now.moment));
            default: return NONE;
        }
    }

    private static int distance(int a, int b) {
        return Math.abs(a % ROW - b % ROW) + Math.abs(a / ROW - b / ROW);
    }

    /** The bytes that are fed, and the tokens in them, one at a time. */
    private static final class Tape {
        private static final int END = 0;
        private static final int WORD = 1;
        private static final int NUMBER = 2;
        private static final int SIGN = 3;
        private static final int BLANK = 4;
        private static final int NOTHING = 5;
        private static final int MOST_DIGITS = 4;

        final int[] bytes = new int[TAPE_BYTES];
        int length = 0;
        int place = 0;
        int after = 0;
        int kind = END;
        int value = 0;
        int faultKind = 0;
        int faultPlace = NONE;

        void put(int number) {
            for (int shift = 24; shift >= 0 && length < TAPE_BYTES; shift -= 8) {
                bytes[length] = number >> shift & 255;
                length++;
            }
        }

        void begin() {
            faultKind = 0;
            faultPlace = NONE;
            after = 0;
            next();
        }

        void next() {
            int from = after;
            while (from < length && kindOf(bytes[from]) == BLANK) {
                from++;
            }
            place = from;
            kind = from < length ? kindOf(bytes[from]) : END;
            value = kind == SIGN ? bytes[from] : 0;
            after = kind == SIGN ? from + 1 : from;
            while (kind != SIGN && after < length && kindOf(bytes[after]) == kind) {
                value = kind == NUMBER ? value * 10 + bytes[after] - '0' : 0;
                after++;
            }
            if (kind == NUMBER && after - place > MOST_DIGITS) {
                kind = NOTHING;
            }
        }

        private static int kindOf(int c) {
            if (c >= 'a' && c <= 'z' || c >= 'A' && c <= 'Z') {
                return WORD;
            }
            if (c >= '0' && c <= '9') {
                return NUMBER;
            }
            return c == ' ' || c == '\n' ? BLANK : SIGN;
        }

        boolean isEnd() {
            return kind == END;
        }

        boolean isNumber() {
            return kind == NUMBER;
        }

        boolean isSign(char c) {
            return kind == SIGN && value == c;
        }

        boolean isWord(String word) {
            if (kind != WORD || after - place != word.length()) {
                return false;
            }
            for (int i = 0; i < word.length(); i++) {
                if (bytes[place + i] != word.charAt(i)) {
                    return false;
                }
            }
            return true;
        }

        /** The number that stands here; NONE, and a fault, if there is none between the bounds. */
        int number(int low, int high) {
            if (kind != NUMBER) {
                fail(1);
                return NONE;
            }
            if (value < low || value > high) {
                fail(2);
                return NONE;
            }
            return value;
        }

        boolean fail(int fault) {
            faultKind = fault;
            faultPlace = place;
            return false;
        }
    }

    /** The ways of the skaters, step by step. */
    private static final class Ways {
        private static final int KEEP = 0;
        private static final int LIFT = 1;
        private static final int DOWN = 2;
        private static final int MARK = 8;

        /** Each a way, and MARK times what happens to the skate ahead of it. */
        final int[] steps = new int[MOST_SKATERS * MOST_STEPS];
        final int[] count = new int[MOST_SKATERS];
        /** What happens to the skate behind the last step. */
        final int[] tail = new int[MOST_SKATERS];
        /** 1 of each who is told in the text that is being read. */
        final int[] isTold = new int[MOST_SKATERS];
        int told = 0;

        void clear() {
            Arrays.fill(count, 0);
            Arrays.fill(tail, KEEP);
            Arrays.fill(isTold, 0);
            told = 0;
        }

        void copy(Ways other) {
            System.arraycopy(other.steps, 0, steps, 0, steps.length);
            System.arraycopy(other.count, 0, count, 0, MOST_SKATERS);
            System.arraycopy(other.tail, 0, tail, 0, MOST_SKATERS);
            told = other.told;
        }

        int wayOf(int skater, int step) {
            return steps[skater * MOST_STEPS + step] % MARK;
        }

        /** 1 if the skate is down at that step, when it was `down` ahead of it. */
        int downAt(int skater, int step, int down) {
            return marked(steps[skater * MOST_STEPS + step] / MARK, down);
        }

        int downBehind(int skater, int down) {
            return marked(tail[skater], down);
        }

        private static int marked(int mark, int down) {
            if (mark == KEEP) {
                return down;
            }
            return mark == DOWN ? 1 : 0;
        }

        boolean parse(Tape tape, int skaters) {
            clear();
            for (int i = 0; i < TAPE_BYTES && !tape.isEnd(); i++) {
                if (!parseLine(tape, skaters)) {
                    return false;
                }
            }
            return true;
        }

        private boolean parseLine(Tape tape, int skaters) {
            if (!tape.isWord("skater")) {
                return tape.fail(1);
            }
            tape.next();
            int who = tape.number(0, skaters - 1);
            if (who < 0 || who >= MOST_SKATERS) {
                return false;
            }
            if (isTold[who] == 1) {
                return tape.fail(3);
            }
            isTold[who] = 1;
            tape.next();
            for (int i = 0; i < TAPE_BYTES && !tape.isSign(';'); i++) {
                if (!parsePart(tape, who)) {
                    return false;
                }
            }
            tape.next();
            told++;
            return true;
        }

        private boolean parsePart(Tape tape, int who) {
            int mark = markTold(tape);
            if (mark != KEEP) {
                tail[who] = mark;
                tape.next();
                return true;
            }
            int way = wayTold(tape);
            if (way == NONE) {
                return tape.fail(1);
            }
            tape.next();
            int n = tape.number(1, 20);
            if (n == NONE) {
                return false;
            }
            if (count[who] + n > MOST_STEPS) {
                return tape.fail(4);
            }
            append(who, way, n);
            tape.next();
            return true;
        }

        private void append(int who, int way, int n) {
            for (int i = 0; i < n; i++) {
                steps[who * MOST_STEPS + count[who]] = way + MARK * tail[who];
                tail[who] = KEEP;
                count[who]++;
            }
        }

        private static int markTold(Tape tape) {
            if (tape.isWord("lift")) {
                return LIFT;
            }
            return tape.isWord("down") ? DOWN : KEEP;
        }

        private static int wayTold(Tape tape) {
            if (tape.isWord("north")) {
                return NORTH;
            }
            if (tape.isWord("east")) {
                return EAST;
            }
            if (tape.isWord("south")) {
                return SOUTH;
            }
            if (tape.isWord("west")) {
                return WEST;
            }
            return tape.isWord("rest") ? REST : NONE;
        }
    }

    /** The law of ice, kept as code for a stack: what is asked stands ahead of what is done with it. */
    private static final class Law {
        private static final int CUT = 0;
        private static final int THAW = 1;
        private static final int MOST_LINES = 16;
        private static final int MOST_OPEN = 8;
        private static final int STACK = 64;

        private static final int DEPTH = 0;
        private static final int EDGE = 1;
        private static final int MINUTE = 2;
        private static final int HAND = 3;
        private static final int CROSSED = 4;
        private static final int AROUND = 5;
        private static final int FACTS = 6;

        private static final int PUT = 0;
        private static final int FACT = 1;
        private static final int NOT = 2;
        private static final int PART = 3;
        private static final int TIMES = 4;
        private static final int PLUS = 5;
        private static final int MINUS = 6;
        private static final int LESS = 7;
        private static final int SAME = 8;
        private static final int MORE = 9;
        private static final int AND = 10;
        private static final int OR = 11;
        private static final int CODES = 16;

        final int[] code = new int[TAPE_BYTES];
        int size = 0;
        final int[] words = new int[MOST_LINES];
        final int[] starts = new int[MOST_LINES];
        /** Where the value of a line ends and its condition begins. */
        final int[] splits = new int[MOST_LINES];
        final int[] ends = new int[MOST_LINES];
        int lines = 0;
        int thaws = 0;
        final int[] stack = new int[STACK];

        void clear() {
            size = 0;
            lines = 0;
            thaws = 0;
        }

        void copy(Law other) {
            System.arraycopy(other.code, 0, code, 0, TAPE_BYTES);
            System.arraycopy(other.words, 0, words, 0, MOST_LINES);
            System.arraycopy(other.starts, 0, starts, 0, MOST_LINES);
            System.arraycopy(other.splits, 0, splits, 0, MOST_LINES);
            System.arraycopy(other.ends, 0, ends, 0, MOST_LINES);
            size = other.size;
            lines = other.lines;
            thaws = other.thaws;
        }

        boolean parse(Tape tape) {
            clear();
            for (int i = 0; i < TAPE_BYTES && !tape.isEnd(); i++) {
                if (!parseLine(tape)) {
                    return false;
                }
            }
            return true;
        }

        private boolean parseLine(Tape tape) {
            boolean isThaw = tape.isWord("thaw");
            if (!isThaw && !tape.isWord("cut")) {
                return tape.fail(1);
            }
            if (lines >= MOST_LINES) {
                return tape.fail(3);
            }
            tape.next();
            words[lines] = isThaw ? THAW : CUT;
            starts[lines] = size;
            if (!parseSum(tape)) {
                return false;
            }
            splits[lines] = size;
            if (tape.isWord("when")) {
                tape.next();
                if (!parseCondition(tape, 0)) {
                    return false;
                }
            }
            ends[lines] = size;
            if (!tape.isSign(';')) {
                return tape.fail(1);
            }
            tape.next();
            lines++;
            thaws += isThaw ? 1 : 0;
            return true;
        }

        private boolean parseCondition(Tape tape, int open) {
            boolean or = false;
            boolean and = false;
            for (int i = 0; i < TAPE_BYTES; i++) {
                if (!parseClause(tape, open)) {
                    return false;
                }
                emitIf(and, AND);
                and = tape.isWord("and");
                if (!and) {
                    emitIf(or, OR);
                    or = tape.isWord("or");
                }
                if (!and && !or) {
                    return true;
                }
                tape.next();
            }
            return true;
        }

        private boolean parseClause(Tape tape, int open) {
            boolean not = tape.isWord("not");
            boolean opens = tape.isSign('(');
            if ((not || opens) && open >= MOST_OPEN) {
                return tape.fail(3);
            }
            if (not) {
                tape.next();
                boolean fits = parseClause(tape, open + 1);
                emitIf(fits, NOT);
                return fits;
            }
            if (opens) {
                tape.next();
                if (!parseCondition(tape, open + 1)) {
                    return false;
                }
                if (!tape.isSign(')')) {
                    return tape.fail(1);
                }
                tape.next();
                return true;
            }
            if (!parseSum(tape)) {
                return false;
            }
            int comparison = comparisonTold(tape);
            if (comparison == NONE) {
                return tape.fail(1);
            }
            tape.next();
            boolean fits = parseSum(tape);
            emitIf(fits, comparison);
            return fits;
        }

        private static int comparisonTold(Tape tape) {
            if (tape.isSign('<')) {
                return LESS;
            }
            if (tape.isSign('=')) {
                return SAME;
            }
            return tape.isSign('>') ? MORE : NONE;
        }

        /** Products are joined at once, sums when the next product has ended. */
        private boolean parseSum(Tape tape) {
            boolean times = false;
            boolean parts = false;
            int pending = NONE;
            for (int i = 0; i < TAPE_BYTES; i++) {
                if (parts) {
                    int by = tape.number(1, 9999);
                    if (by == NONE) {
                        return false;
                    }
                    emit(PART, by);
                } else {
                    int fact = factTold(tape);
                    if (fact == NONE && !tape.isNumber()) {
                        return tape.fail(1);
                    }
                    emit(fact == NONE ? PUT : FACT, fact == NONE ? tape.value : fact);
                    emitIf(times, TIMES);
                }
                tape.next();
                times = tape.isSign('*');
                parts = tape.isSign('/');
                if (!times && !parts) {
                    emitIf(pending != NONE, pending);
                    pending = tape.isSign('+') ? PLUS : tape.isSign('-') ? MINUS : NONE;
                    if (pending == NONE) {
                        return true;
                    }
                }
                tape.next();
            }
            return true;
        }

        private static int factTold(Tape tape) {
            if (tape.isWord("depth")) {
                return DEPTH;
            }
            if (tape.isWord("edge")) {
                return EDGE;
            }
            if (tape.isWord("minute")) {
                return MINUTE;
            }
            if (tape.isWord("hand")) {
                return HAND;
            }
            if (tape.isWord("crossed")) {
                return CROSSED;
            }
            return tape.isWord("around") ? AROUND : NONE;
        }

        private void emit(int op, int number) {
            if (size < TAPE_BYTES) {
                code[size] = op + CODES * number;
                size++;
            }
        }

        private void emitIf(boolean so, int op) {
            if (so) {
                emit(op, 0);
            }
        }

        /** What the first line with that word says whose condition is so. */
        int answer(int word, int[] facts, int otherwise) {
            for (int i = 0; i < lines; i++) {
                if (words[i] != word) {
                    continue;
                }
                boolean always = splits[i] == ends[i];
                if (always || value(splits[i], ends[i], facts) != 0) {
                    return value(starts[i], splits[i], facts);
                }
            }
            return otherwise;
        }

        private int value(int from, int to, int[] facts) {
            int top = 0;
            for (int i = from; i < to; i++) {
                int op = code[i] % CODES;
                int number = code[i] / CODES;
                if (op == PUT || op == FACT) {
                    if (top >= STACK) {
                        return 0;
                    }
                    stack[top] = op == PUT ? number : facts[number];
                    top++;
                } else if (op == NOT || op == PART) {
                    if (top < 1 || op == PART && number == 0) {
                        return 0;
                    }
                    stack[top - 1] = op == PART ? stack[top - 1] / number : 1 - stack[top - 1];
                } else {
                    if (top < 2) {
                        return 0;
                    }
                    top--;
                    stack[top - 1] = joined(op, stack[top - 1], stack[top]);
                }
            }
            return top > 0 ? stack[0] : 0;
        }

        private static int joined(int op, int a, int b) {
            switch (op) {
                case TIMES: return a * b;
                case PLUS: return a + b;
                case MINUS: return a - b;
                case LESS: return a < b ? 1 : 0;
                case SAME: return a == b ? 1 : 0;
                case MORE: return a > b ? 1 : 0;
                case AND: return a & b;
                case OR: return a | b;
                default: return 0;
            }
        }
    }

    /** The letters, and which of them is wanted where. */
    private static final class Paper {
        private static final int MOST_LETTERS = 8;
        private static final int MOST_WANTS = 10;

        final int[] shapes = new int[MOST_LETTERS];
        int letters = 0;
        final int[] wantLetters = new int[MOST_WANTS];
        final int[] wantCells = new int[MOST_WANTS];
        int wants = 0;

        void clear() {
            letters = 0;
            wants = 0;
        }

        void copy(Paper other) {
            System.arraycopy(other.shapes, 0, shapes, 0, MOST_LETTERS);
            System.arraycopy(other.wantLetters, 0, wantLetters, 0, MOST_WANTS);
            System.arraycopy(other.wantCells, 0, wantCells, 0, MOST_WANTS);
            letters = other.letters;
            wants = other.wants;
        }

        boolean isLetter(int i) {
            return i >= 0 && i < letters;
        }

        boolean isWant(int i) {
            return i >= 0 && i < wants;
        }

        int allLetters() {
            return (1 << letters) - 1;
        }

        /** How many letters of the set have that cell of the box. */
        int having(int set, int cell) {
            int have = 0;
            for (int i = 0; i < letters; i++) {
                have += set >> i & shapes[i] >> cell & 1;
            }
            return have;
        }

        /** Whether any two letters of the set differ in d cells at least. */
        boolean differ(int set, int d) {
            for (int i = 0; i < letters; i++) {
                for (int j = 0; j < i; j++) {
                    boolean both = (set >> i & set >> j & 1) == 1;
                    if (both && Integer.bitCount(shapes[i] ^ shapes[j]) < d) {
                        return false;
                    }
                }
            }
            return true;
        }

        boolean parseLetters(Tape tape) {
            clear();
            for (int i = 0; i < TAPE_BYTES && !tape.isEnd(); i++) {
                if (!parseLetter(tape)) {
                    return false;
                }
            }
            return true;
        }

        private boolean parseLetter(Tape tape) {
            if (!tape.isWord("letter")) {
                return tape.fail(1);
            }
            if (letters >= MOST_LETTERS) {
                return tape.fail(3);
            }
            int shape = 0;
            for (int row = 0; row < BOX; row++) {
                tape.next();
                int told = tape.number(0, 7);
                if (told == NONE) {
                    return false;
                }
                shape |= told << BOX * row;
            }
            if (shape == 0) {
                return tape.fail(3);
            }
            tape.next();
            if (!tape.isSign(';')) {
                return tape.fail(1);
            }
            tape.next();
            shapes[letters] = shape;
            letters++;
            return true;
        }

        /** The letters are those of the world, so that a copy of all changes the wants alone. */
        boolean parseWants(Tape tape, World world) {
            copy(world.paper);
            wants = 0;
            for (int i = 0; i < TAPE_BYTES && !tape.isEnd(); i++) {
                if (!parseWant(tape, world)) {
                    return false;
                }
            }
            return true;
        }

        private boolean parseWant(Tape tape, World world) {
            if (!tape.isWord("want")) {
                return tape.fail(1);
            }
            if (wants >= MOST_WANTS) {
                return tape.fail(3);
            }
            tape.next();
            int letter = tape.number(0, letters - 1);
            if (letter == NONE) {
                return false;
            }
            tape.next();
            if (!tape.isWord("at")) {
                return tape.fail(1);
            }
            tape.next();
            int cell = tape.number(0, CELLS - 1);
            if (cell == NONE) {
                return false;
            }
            if (!world.isBox(cell)) {
                return tape.fail(2);
            }
            tape.next();
            if (!tape.isSign(';')) {
                return tape.fail(1);
            }
            tape.next();
            wantLetters[wants] = letter;
            wantCells[wants] = cell;
            wants++;
            return true;
        }
    }

    /** All that a minute can change. */
    private static final class Moment {
        final int[] depth = new int[CELLS];
        final int[] latest = new int[CELLS];
        final int[] place = new int[MOST_SKATERS];
        final int[] done = new int[MOST_SKATERS];
        final int[] down = new int[MOST_SKATERS];
        int minute = 0;
        int draws = 0;
        /** How many lines the book has; those behind it are left from what was undone. */
        int lines = 0;

        /** Draws stay: a basin that is told anew keeps them. */
        void clear() {
            Arrays.fill(depth, 0);
            Arrays.fill(latest, NONE);
            minute = 0;
            lines = 0;
        }

        void copy(Moment other) {
            System.arraycopy(other.depth, 0, depth, 0, CELLS);
            System.arraycopy(other.latest, 0, latest, 0, CELLS);
            System.arraycopy(other.place, 0, place, 0, MOST_SKATERS);
            System.arraycopy(other.done, 0, done, 0, MOST_SKATERS);
            System.arraycopy(other.down, 0, down, 0, MOST_SKATERS);
            minute = other.minute;
            draws = other.draws;
            lines = other.lines;
        }

        int drawOf1000() {
            draws = draws * 1664525 + 1013904223;
            return (draws >>> 8) % 1000;
        }
    }

    /** The basin with all that is and was told: what an image keeps. */
    private static final class World {
        int w = FIRST_SIZE;
        int h = FIRST_SIZE;
        int sight = 1;
        int falls = 0;
        int skaters = 0;
        final int[] hands = new int[MOST_SKATERS];
        final Moment moment = new Moment();
        /** Of each line the minute, then 3 bits for the skater, 6 the cell, 4 by how much, 1 if he fell. */
        final int[] bookLines = new int[BOOK_LINES];
        final Ways ways = new Ways();
        final Law law = new Law();
        final Paper paper = new Paper();
        final int[] facts = new int[Law.FACTS];
        final int[] melting = new int[CELLS];

        void restart(int newW, int newH) {
            w = newW;
            h = newH;
            sight = 1;
            falls = 0;
            skaters = 0;
            moment.clear();
            ways.clear();
            law.clear();
            paper.clear();
        }

        void copy(World other) {
            w = other.w;
            h = other.h;
            sight = other.sight;
            falls = other.falls;
            skaters = other.skaters;
            System.arraycopy(other.hands, 0, hands, 0, MOST_SKATERS);
            moment.copy(other.moment);
            System.arraycopy(other.bookLines, 0, bookLines, 0, BOOK_LINES);
            ways.copy(other.ways);
            law.copy(other.law);
            paper.copy(other.paper);
        }

        int join(int hand, int cell) {
            int who = skaters;
            hands[who] = hand;
            moment.place[who] = cell;
            moment.done[who] = 0;
            moment.down[who] = 1;
            skaters++;
            return who;
        }

        void beginWays() {
            Arrays.fill(moment.done, 0);
            Arrays.fill(moment.down, 1);
        }

        // ---- where

        boolean isCell(int cell) {
            return cell >= 0 && cell < CELLS && cell % ROW < w && cell / ROW < h;
        }

        boolean isBox(int cell) {
            return isCell(cell) && cell % ROW <= w - BOX && cell / ROW <= h - BOX;
        }

        boolean isSkater(int skater) {
            return skater >= 0 && skater < skaters;
        }

        boolean areCells(long set) {
            for (int c = 0; c < CELLS; c++) {
                if ((set >> c & 1) == 1 && !isCell(c)) {
                    return false;
                }
            }
            return true;
        }

        /** The cell beside it that way; NONE beyond the rim. */
        int beside(int cell, int way) {
            int x = cell % ROW + STEP_X[way];
            int y = cell / ROW + STEP_Y[way];
            return x < 0 || y < 0 || x >= w || y >= h ? NONE : ROW * y + x;
        }

        // ---- the sight

        boolean isSeen(Moment m, int cell) {
            return m.depth[cell] >= sight;
        }

        int seenAround(Moment m, int cell) {
            int seen = 0;
            for (int way = 0; way < WAYS_OUT; way++) {
                int next = beside(cell, way);
                if (next != NONE && isSeen(m, next)) {
                    seen++;
                }
            }
            return seen;
        }

        long seenCells(Moment m) {
            long seen = 0;
            for (int c = 0; c < CELLS; c++) {
                if (isCell(c) && isSeen(m, c)) {
                    seen |= 1L << c;
                }
            }
            return seen;
        }

        int seenBox(Moment m, int cell) {
            int seen = 0;
            for (int i = 0; i < BOX_CELLS; i++) {
                if (isSeen(m, inBox(cell, i))) {
                    seen |= 1 << i;
                }
            }
            return seen;
        }

        private static int inBox(int cell, int i) {
            return cell + i / BOX * ROW + i % BOX;
        }

        int readBox(Moment m, int cell) {
            int seen = seenBox(m, cell);
            for (int i = 0; i < paper.letters; i++) {
                if (paper.shapes[i] == seen) {
                    return i;
                }
            }
            return NONE;
        }

        boolean isReadSo(Moment m, int want) {
            return readBox(m, paper.wantCells[want]) == paper.wantLetters[want];
        }

        int wantsRead(Moment m) {
            int read = 0;
            for (int i = 0; i < paper.wants; i++) {
                if (isReadSo(m, i)) {
                    read |= 1 << i;
                }
            }
            return read;
        }

        int writtenBy(int skater, int cell) {
            int written = 0;
            for (int i = 0; i < BOX_CELLS; i++) {
                int c = inBox(cell, i);
                if (isSeen(moment, c) && moment.latest[c] == skater) {
                    written++;
                }
            }
            return written;
        }

        // ---- the law

        private void fillFacts(Moment m, int cell) {
            int x = cell % ROW;
            int y = cell / ROW;
            boolean edge = x == 0 || y == 0 || x == w - 1 || y == h - 1;
            facts[Law.DEPTH] = m.depth[cell];
            facts[Law.EDGE] = edge ? 1 : 0;
            facts[Law.MINUTE] = m.minute;
            facts[Law.HAND] = 0;
            facts[Law.CROSSED] = 0;
            facts[Law.AROUND] = seenAround(m, cell);
        }

        int cutOf(Moment m, int skater, int cell) {
            fillFacts(m, cell);
            facts[Law.HAND] = hands[skater];
            facts[Law.CROSSED] = isOther(m.latest[cell], skater) ? 1 : 0;
            return held(law.answer(Law.CUT, facts, 2));
        }

        int thawOf(Moment m, int cell) {
            fillFacts(m, cell);
            return held(law.answer(Law.THAW, facts, 0));
        }

        private static boolean isOther(int latest, int skater) {
            return latest != NONE && latest != skater;
        }

        private static int held(int v) {
            return Math.max(0, Math.min(DEEPEST, v));
        }

        // ---- a minute

        /** A minute goes by; how many fell. In thought nobody falls and the book stays. */
        int pass(Moment m, boolean real) {
            int fell = 0;
            for (int s = 0; s < skaters; s++) {
                if (m.done[s] >= ways.count[s]) {
                    continue;
                }
                if (real && falls > 0 && m.drawOf1000() < falls) {
                    deepen(m, s, FALL_DEPTH, 1, true);
                    fell++;
                } else {
                    step(m, s, real);
                }
            }
            thaw(m);
            m.minute++;
            return fell;
        }

        private void step(Moment m, int s, boolean real) {
            int step = m.done[s];
            m.down[s] = ways.downAt(s, step, m.down[s]);
            m.place[s] = cellBehind(m.place[s], ways.wayOf(s, step));
            if (ways.wayOf(s, step) != REST && m.down[s] == 1) {
                int cut = cutOf(m, s, m.place[s]);
                if (cut > 0) {
                    deepen(m, s, cut, 0, real);
                }
            }
            m.done[s]++;
            if (m.done[s] == ways.count[s]) {
                m.down[s] = ways.downBehind(s, m.down[s]);
            }
        }

        /** Where a step that way ends. */
        private int cellBehind(int cell, int way) {
            if (way == REST) {
                return cell;
            }
            int next = beside(cell, way);
            return next == NONE ? cell : next;
        }

        private void deepen(Moment m, int s, int by, int fell, boolean real) {
            int cell = m.place[s];
            int was = m.depth[cell];
            m.depth[cell] = Math.min(DEEPEST, was + by);
            m.latest[cell] = s;
            if (real && m.lines < BOOK_LINES) {
                bookLines[m.lines] = m.minute << 14 | s << 11 | cell << 5 | m.depth[cell] - was << 1 | fell;
                m.lines++;
            }
        }

        private void thaw(Moment m) {
            if (law.thaws == 0) {
                return;
            }
            for (int c = 0; c < CELLS; c++) {
                // where nothing is left nothing can thaw: the law need not be asked
                melting[c] = m.depth[c] > 0 ? thawOf(m, c) : 0;
            }
            for (int c = 0; c < CELLS; c++) {
                m.depth[c] = Math.max(0, m.depth[c] - melting[c]);
            }
        }

        int crossings(int s) {
            int cell = moment.place[s];
            int down = moment.down[s];
            int crossed = 0;
            for (int step = moment.done[s]; step < ways.count[s]; step++) {
                int way = ways.wayOf(s, step);
                down = ways.downAt(s, step, down);
                cell = cellBehind(cell, way);
                if (way != REST && down == 1 && isOther(moment.latest[cell], s)) {
                    crossed++;
                }
            }
            return crossed;
        }
    }

    /** Shortest routes over a set of cells, for one skater or shared among all. */
    private static final class Router {
        private static final int SETS = 1 << MOST_TOURED;
        /** More than any steps, and than any takers read as digits. */
        private static final int NEVER = 100000000;

        final int[] cells = new int[MOST_TOURED];
        int count = 0;
        /** For each set and each of its cells the fewest steps over the set beginning there. */
        final int[] tours = new int[SETS * MOST_TOURED];
        int skaters = 0;
        final int[] places = new int[MOST_SKATERS];
        /** For each set the fewest steps of the skater who is looked at. */
        final int[] costs = new int[SETS];
        /** For each set what is least if it is shared among the skaters looked at so far. */
        final int[] least = new int[SETS];
        /** For each set the digits 1 of its cells, the first cell's highest. */
        final int[] digits = new int[SETS];

        /** False if there are too many cells. */
        boolean take(long set) {
            if (Long.bitCount(set) > MOST_TOURED) {
                return false;
            }
            count = 0;
            for (int c = 0; c < CELLS && count < MOST_TOURED; c++) {
                if ((set >> c & 1) == 1) {
                    cells[count] = c;
                    count++;
                }
            }
            fillTours();
            return true;
        }

        int all() {
            return (1 << count) - 1;
        }

        private void fillTours() {
            for (int set = 1; set <= all(); set++) {
                for (int first = 0; first < count; first++) {
                    if ((set >> first & 1) == 1) {
                        tours[set * MOST_TOURED + first] = lead(cells[first], set & ~(1 << first));
                    }
                }
            }
        }

        /** The fewest steps over the set from a cell that need not be in it. */
        int lead(int from, int set) {
            int first = firstStop(from, set);
            return first == NONE ? 0 : distance(from, cells[first]) + tours[set * MOST_TOURED + first];
        }

        private int firstStop(int from, int set) {
            int best = NONE;
            int least = NEVER;
            for (int i = 0; i < count; i++) {
                if ((set >> i & 1) == 1) {
                    int steps = distance(from, cells[i]) + tours[set * MOST_TOURED + i];
                    if (steps < least) {
                        least = steps;
                        best = i;
                    }
                }
            }
            return best;
        }

        /** The i-th cell of the route. */
        int stop(int from, int i) {
            int cell = from;
            int set = all();
            for (int k = 0; k <= i; k++) {
                int first = firstStop(cell, set);
                if (first == NONE) {
                    return NONE;
                }
                cell = cells[first];
                set &= ~(1 << first);
            }
            return cell;
        }

        void begin(int[] from, int howMany) {
            skaters = Math.min(howMany, MOST_SKATERS);
            System.arraycopy(from, 0, places, 0, skaters);
        }

        /** The least that the longest route can be when all cells are shared out. */
        int longest() {
            Arrays.fill(least, NEVER);
            least[0] = 0;
            for (int s = 0; s < skaters; s++) {
                fillCosts(s);
                // from the greatest set down: what a smaller one holds is of the skaters ahead of this one
                for (int set = all(); set >= lastNeeded(s); set--) {
                    least[set] = leastLongest(set);
                }
            }
            return least[all()];
        }

        /** Who goes to the i-th cell: of the ways to share the takers, read as digits, are to be the least number. */
        int taker(int i) {
            int steps = longest();
            fillDigits();
            Arrays.fill(least, NEVER);
            least[0] = 0;
            for (int s = 0; s < skaters; s++) {
                fillCosts(s);
                for (int set = all(); set >= lastNeeded(s); set--) {
                    least[set] = leastTakers(s, set, steps);
                }
            }
            int digit = digits[1 << i];
            return digit > 0 ? least[all()] / digit % MOST_SKATERS : NONE;
        }

        /** Behind the last skater none but the whole set is asked for. */
        private int lastNeeded(int s) {
            return s == skaters - 1 ? all() : 0;
        }

        private void fillCosts(int s) {
            for (int set = 0; set <= all(); set++) {
                costs[set] = lead(places[s], set);
            }
        }

        private void fillDigits() {
            digits[0] = 0;
            int digit = 1;
            for (int i = count - 1; i >= 0; i--) {
                digits[1 << i] = digit;
                digit *= MOST_SKATERS;
            }
            for (int set = 1; set <= all(); set++) {
                int rest = set & set - 1;
                digits[set] = digits[rest] + digits[set & ~rest];
            }
        }

        private int leastLongest(int set) {
            int best = Math.max(costs[0], least[set]);
            // what is left of part - 1 in the set is the next part below it
            for (int part = set; part > 0; part = part - 1 & set) {
                best = Math.min(best, Math.max(costs[part], least[set & ~part]));
            }
            return best;
        }

        private int leastTakers(int s, int set, int steps) {
            int best = least[set];
            for (int part = set; part > 0; part = part - 1 & set) {
                if (costs[part] <= steps) {
                    best = Math.min(best, least[set & ~part] + s * digits[part]);
                }
            }
            return best;
        }
    }

    /** How few cells part two: as many as there are ways between them that share no cell. */
    private static final class Bars {
        private static final int NODES = 2 * CELLS;

        /** 1 where one of the ways goes from a cell in that direction. */
        final int[] flow = new int[CELLS * WAYS_OUT];
        /** 1 where one of the ways goes through. */
        final int[] through = new int[CELLS];
        /** Twice a cell is its entry, one more its exit; of each from which it was found. */
        final int[] foundFrom = new int[NODES];
        final int[] queue = new int[NODES];
        int queued = 0;

        int between(World world, int a, int b) {
            Arrays.fill(flow, 0);
            Arrays.fill(through, 0);
            int ways = 0;
            for (int i = 0; i < WAYS_OUT && findsWay(world, a, b); i++) {
                addWay(a, b);
                ways++;
            }
            return ways;
        }

        private boolean findsWay(World world, int a, int b) {
            Arrays.fill(foundFrom, NONE);
            queued = 0;
            find(2 * a + 1, 2 * a + 1);
            for (int i = 0; i < queued && foundFrom[2 * b] == NONE; i++) {
                if (queue[i] % 2 == 1) {
                    leave(world, queue[i] / 2);
                } else {
                    enter(world, queue[i] / 2);
                }
            }
            return foundFrom[2 * b] != NONE;
        }

        private void find(int node, int from) {
            if (foundFrom[node] == NONE && queued < NODES) {
                foundFrom[node] = from;
                queue[queued] = node;
                queued++;
            }
        }

        private void leave(World world, int cell) {
            if (through[cell] == 1) {
                find(2 * cell, 2 * cell + 1);
            }
            for (int way = 0; way < WAYS_OUT; way++) {
                int next = world.beside(cell, way);
                if (next != NONE && flow[cell * WAYS_OUT + way] == 0) {
                    find(2 * next, 2 * cell + 1);
                }
            }
        }

        private void enter(World world, int cell) {
            if (through[cell] == 0) {
                find(2 * cell + 1, 2 * cell);
            }
            for (int way = 0; way < WAYS_OUT; way++) {
                int next = world.beside(cell, way);
                // a way that comes from there may be taken back
                if (next != NONE && flow[next * WAYS_OUT + back(way)] == 1) {
                    find(2 * next + 1, 2 * cell);
                }
            }
        }

        private static int back(int way) {
            return (way + 2) % WAYS_OUT;
        }

        private void addWay(int a, int b) {
            int node = 2 * b;
            for (int i = 0; i < NODES && node != 2 * a + 1; i++) {
                int from = foundFrom[node];
                turn(from, node);
                node = from;
            }
        }

        private void turn(int from, int to) {
            int fromCell = from / 2;
            int toCell = to / 2;
            if (fromCell == toCell) {
                through[toCell] = to % 2;
            } else if (from % 2 == 1) {
                flow[fromCell * WAYS_OUT + direction(fromCell, toCell)] = 1;
            } else {
                flow[toCell * WAYS_OUT + direction(toCell, fromCell)] = 0;
            }
        }

        private static int direction(int from, int to) {
            if (to / ROW != from / ROW) {
                return to < from ? NORTH : SOUTH;
            }
            return to < from ? WEST : EAST;
        }
    }
}
