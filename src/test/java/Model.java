import java.util.ArrayList;
import java.util.Arrays;
import java.util.LinkedHashMap;
import java.util.List;
import java.util.Map;

/**
 * The document once more, as slow and as literal as it goes, to be held against LeftSkate: texts are trees,
 * what is in thought is done on a copy of all, routes and bars are found by trying everything.
 */
final class Model {
    static final int NONE = -1;

    /** A fault of a text at a place. */
    static final class Fault extends RuntimeException {
        final int kind;
        final int place;

        Fault(int kind, int place) {
            this.kind = kind;
            this.place = place;
        }
    }

    record Token(String text, int place) {
        boolean isNumber() {
            return text.matches("[0-9]{1,4}");
        }
    }

    interface Expression {
        int of(Map<String, Integer> facts);
    }

    interface Condition {
        boolean holds(Map<String, Integer> facts);
    }

    record Line(String word, Expression value, Condition when) {
    }

    /** A step: north, east, south, west or rest; and the words that stand between it and the step ahead of it. */
    record Step(String way, List<String> ahead) {
    }

    static final class Way {
        final List<Step> steps = new ArrayList<>();
        final List<String> behind = new ArrayList<>();
    }

    static final class Skater {
        int hand;
        int cell;
        int done;
        boolean down = true;

        Skater copy() {
            Skater s = new Skater();
            s.hand = hand;
            s.cell = cell;
            s.done = done;
            s.down = down;
            return s;
        }
    }

    /** All that is and was told, but the tape, the fault, the image and what can be undone. */
    static final class World {
        int w = 6;
        int h = 6;
        int sight = 1;
        int falls;
        int minute;
        int state;
        int[] depth = new int[64];
        int[] latest = new int[64];
        List<Skater> skaters = new ArrayList<>();
        Map<Integer, Way> ways = new LinkedHashMap<>();
        List<Line> law = new ArrayList<>();
        List<Integer> letters = new ArrayList<>();
        List<int[]> wants = new ArrayList<>();
        List<int[]> book = new ArrayList<>();

        World() {
            Arrays.fill(latest, NONE);
        }

        World copy() {
            World c = new World();
            c.w = w;
            c.h = h;
            c.sight = sight;
            c.falls = falls;
            c.minute = minute;
            c.state = state;
            c.depth = depth.clone();
            c.latest = latest.clone();
            for (Skater s : skaters) {
                c.skaters.add(s.copy());
            }
            c.ways = new LinkedHashMap<>(ways);
            c.law = new ArrayList<>(law);
            c.letters = new ArrayList<>(letters);
            c.wants = new ArrayList<>(wants);
            c.book = new ArrayList<>(book);
            return c;
        }

        boolean isCell(int c) {
            return c >= 0 && c % 8 < w && c / 8 < h;
        }

        boolean isBox(int c) {
            return isCell(c) && isCell(c + 18) && c % 8 + 2 < w;
        }

        boolean seen(int c) {
            return depth[c] >= sight;
        }

        List<Integer> beside(int c) {
            List<Integer> list = new ArrayList<>();
            for (int d = 0; d < 64; d++) {
                if (isCell(d) && distance(c, d) == 1) {
                    list.add(d);
                }
            }
            return list;
        }

        int around(int c) {
            int n = 0;
            for (int d : beside(c)) {
                n += seen(d) ? 1 : 0;
            }
            return n;
        }

        int asked(String word, int c, int who) {
            Map<String, Integer> facts = new LinkedHashMap<>();
            facts.put("depth", depth[c]);
            facts.put("edge", beside(c).size() < 4 ? 1 : 0);
            facts.put("minute", minute);
            facts.put("hand", who == NONE ? 0 : skaters.get(who).hand);
            facts.put("crossed", who != NONE && latest[c] != NONE && latest[c] != who ? 1 : 0);
            facts.put("around", around(c));
            for (Line line : law) {
                if (line.word().equals(word) && line.when().holds(facts)) {
                    int v = line.value().of(facts);
                    return v < 0 ? 0 : v > 9 ? 9 : v;
                }
            }
            return word.equals("cut") ? 2 : 0;
        }

        int box(int c) {
            int shape = 0;
            for (int y = 0; y < 3; y++) {
                for (int x = 0; x < 3; x++) {
                    if (seen(c + 8 * y + x)) {
                        shape += 1 << 3 * y + x;
                    }
                }
            }
            return shape;
        }

        int read(int c) {
            return letters.indexOf(box(c));
        }

        boolean wantRead(int i) {
            return read(wants.get(i)[1]) == wants.get(i)[0];
        }

        int wantsRead() {
            int n = 0;
            for (int i = 0; i < wants.size(); i++) {
                n += wantRead(i) ? 1 : 0;
            }
            return n;
        }

        long seenSet() {
            long set = 0;
            for (int c = 0; c < 64; c++) {
                if (isCell(c) && seen(c)) {
                    set += 1L << c;
                }
            }
            return set;
        }

        Way way(int who) {
            return ways.getOrDefault(who, new Way());
        }

        int after(int c, String way) {
            int x = c % 8 + (way.equals("east") ? 1 : way.equals("west") ? -1 : 0);
            int y = c / 8 + (way.equals("south") ? 1 : way.equals("north") ? -1 : 0);
            return x < 0 || y < 0 || x >= w || y >= h ? c : 8 * y + x;
        }

        int draw(int m) {
            state = 1664525 * state + 1013904223;
            return (int) ((state & 0xffffffffL) >> 8) % m;
        }

        void deeper(int who, int by, int fell) {
            int c = skaters.get(who).cell;
            int was = depth[c];
            depth[c] = Math.min(9, was + by);
            latest[c] = who;
            if (book.size() < 150) {
                book.add(new int[] {minute, who, c, depth[c] - was, fell});
            }
        }

        int minute(boolean thought) {
            int fell = 0;
            for (int i = 0; i < skaters.size(); i++) {
                Skater s = skaters.get(i);
                Way way = way(i);
                if (s.done == way.steps.size()) {
                    continue;
                }
                if (!thought && falls > 0 && draw(1000) < falls) {
                    deeper(i, 3, 1);
                    fell++;
                    continue;
                }
                Step step = way.steps.get(s.done++);
                for (String word : step.ahead()) {
                    s.down = word.equals("down");
                }
                if (!step.way().equals("rest")) {
                    s.cell = after(s.cell, step.way());
                    int cut = s.down ? asked("cut", s.cell, i) : 0;
                    if (cut != 0) {
                        deeper(i, cut, 0);
                    }
                }
                if (s.done == way.steps.size()) {
                    for (String word : way.behind) {
                        s.down = word.equals("down");
                    }
                }
            }
            int[] left = depth.clone();
            for (int c = 0; c < 64; c++) {
                if (isCell(c)) {
                    left[c] = Math.max(0, depth[c] - asked("thaw", c, NONE));
                }
            }
            depth = left;
            minute++;
            return fell;
        }

        World thought(int n) {
            World t = copy();
            for (int i = 0; i < n; i++) {
                t.minute(true);
            }
            return t;
        }
    }

    static int distance(int a, int b) {
        return Math.abs(a % 8 - b % 8) + Math.abs(a / 8 - b / 8);
    }

    World is = new World();
    World image;
    List<World> past = new ArrayList<>();
    String tape = "";
    int faultKind;
    int faultPlace = NONE;

    // ---- texts

    private List<Token> tokens = new ArrayList<>();
    private int next;

    private static List<Token> tokensOf(String s) {
        List<Token> list = new ArrayList<>();
        java.util.regex.Matcher m = java.util.regex.Pattern.compile("[A-Za-z]+|[0-9]+|[^ \n]", java.util.regex.Pattern.DOTALL).matcher(s);
        while (m.find()) {
            list.add(new Token(m.group(), m.start()));
        }
        list.add(new Token("", s.length()));
        return list;
    }

    private Token token() {
        return tokens.get(next);
    }

    private boolean ends() {
        return token().text().isEmpty();
    }

    private boolean stands(String text) {
        return token().text().equals(text);
    }

    private Fault fault(int kind, Token at) {
        return new Fault(kind, at.place());
    }

    private void must(String text) {
        if (!stands(text)) {
            throw fault(1, token());
        }
        next++;
    }

    private boolean may(String text) {
        if (stands(text)) {
            next++;
            return true;
        }
        return false;
    }

    private int number(int low, int high) {
        if (!token().isNumber()) {
            throw fault(1, token());
        }
        int n = Integer.parseInt(token().text());
        if (n < low || n > high) {
            throw fault(2, token());
        }
        next++;
        return n;
    }

    private Map<Integer, Way> parseWays() {
        Map<Integer, Way> told = new LinkedHashMap<>();
        while (!ends()) {
            must("skater");
            Token at = token();
            int who = number(0, is.skaters.size() - 1);
            if (told.containsKey(who)) {
                throw fault(3, at);
            }
            Way way = new Way();
            told.put(who, way);
            while (!may(";")) {
                if (stands("lift") || stands("down")) {
                    way.behind.add(token().text());
                    next++;
                    continue;
                }
                String to = token().text();
                if (!List.of("north", "east", "south", "west", "rest").contains(to)) {
                    throw fault(1, token());
                }
                next++;
                Token count = token();
                int n = number(1, 20);
                if (way.steps.size() + n > 60) {
                    throw fault(4, count);
                }
                for (int i = 0; i < n; i++) {
                    way.steps.add(new Step(to, new ArrayList<>(way.behind)));
                    way.behind.clear();
                }
            }
        }
        return told;
    }

    private List<Line> parseLaw() {
        List<Line> lines = new ArrayList<>();
        while (!ends()) {
            if (!stands("cut") && !stands("thaw")) {
                throw fault(1, token());
            }
            if (lines.size() == 16) {
                throw fault(3, token());
            }
            String word = token().text();
            next++;
            Expression value = parseE();
            Condition when = may("when") ? parseB(0) : facts -> true;
            must(";");
            lines.add(new Line(word, value, when));
        }
        return lines;
    }

    private Condition parseB(int open) {
        Condition all = parseA(open);
        while (may("or")) {
            Condition left = all;
            Condition right = parseA(open);
            all = facts -> left.holds(facts) || right.holds(facts);
        }
        return all;
    }

    private Condition parseA(int open) {
        Condition all = parseC(open);
        while (may("and")) {
            Condition left = all;
            Condition right = parseC(open);
            all = facts -> left.holds(facts) && right.holds(facts);
        }
        return all;
    }

    private Condition parseC(int open) {
        if ((stands("(") || stands("not")) && open == 8) {
            throw fault(3, token());
        }
        if (may("not")) {
            Condition c = parseC(open + 1);
            return facts -> !c.holds(facts);
        }
        if (may("(")) {
            Condition b = parseB(open + 1);
            must(")");
            return b;
        }
        Expression left = parseE();
        String sign = token().text();
        if (!List.of("<", "=", ">").contains(sign)) {
            throw fault(1, token());
        }
        next++;
        Expression right = parseE();
        return facts -> {
            int order = Integer.compare(left.of(facts), right.of(facts));
            return sign.equals("<") ? order < 0 : sign.equals("=") ? order == 0 : order > 0;
        };
    }

    private Expression parseE() {
        Expression all = parseT();
        while (stands("+") || stands("-")) {
            boolean plus = stands("+");
            next++;
            Expression left = all;
            Expression right = parseT();
            all = facts -> plus ? left.of(facts) + right.of(facts) : left.of(facts) - right.of(facts);
        }
        return all;
    }

    private Expression parseT() {
        Expression all = parseU();
        while (stands("*") || stands("/")) {
            boolean times = stands("*");
            next++;
            Expression left = all;
            if (times) {
                Expression right = parseU();
                all = facts -> left.of(facts) * right.of(facts);
            } else {
                Token at = token();
                int by = number(0, 9999);
                if (by == 0) {
                    throw fault(2, at);
                }
                all = facts -> left.of(facts) / by;
            }
        }
        return all;
    }

    private Expression parseU() {
        String text = token().text();
        if (List.of("depth", "edge", "minute", "hand", "crossed", "around").contains(text)) {
            next++;
            return facts -> facts.get(text);
        }
        int n = number(0, 9999);
        return facts -> n;
    }

    private List<Integer> parseLetters() {
        List<Integer> shapes = new ArrayList<>();
        while (!ends()) {
            Token word = token();
            must("letter");
            if (shapes.size() == 8) {
                throw fault(3, word);
            }
            int first = number(0, 7);
            int second = number(0, 7);
            Token last = token();
            int third = number(0, 7);
            if (first + second + third == 0) {
                throw fault(3, last);
            }
            must(";");
            shapes.add(first + 8 * second + 64 * third);
        }
        return shapes;
    }

    private List<int[]> parseWants() {
        List<int[]> list = new ArrayList<>();
        while (!ends()) {
            Token word = token();
            must("want");
            if (list.size() == 10) {
                throw fault(3, word);
            }
            int letter = number(0, is.letters.size() - 1);
            must("at");
            Token at = token();
            int cell = number(0, 9999);
            if (!is.isBox(cell)) {
                throw fault(2, at);
            }
            must(";");
            list.add(new int[] {letter, cell});
        }
        return list;
    }

    int text(int k) {
        faultKind = 0;
        faultPlace = NONE;
        tokens = tokensOf(tape);
        next = 0;
        tape = "";
        try {
            switch (k) {
                case 0:
                    is.ways = parseWays();
                    for (Skater s : is.skaters) {
                        s.done = 0;
                        s.down = true;
                    }
                    past.clear();
                    return is.ways.size();
                case 1:
                    is.law = parseLaw();
                    return is.law.size();
                case 2:
                    is.letters = parseLetters();
                    is.wants = new ArrayList<>();
                    return is.letters.size();
                case 3:
                    is.wants = parseWants();
                    return is.wants.size();
                default:
                    return NONE;
            }
        } catch (Fault f) {
            faultKind = f.kind;
            faultPlace = f.place;
            return NONE;
        }
    }

    int feed(int... numbers) {
        if (tape.length() + 20 > 400) {
            return NONE;
        }
        StringBuilder b = new StringBuilder(tape);
        for (int n : numbers) {
            for (int shift = 24; shift >= 0; shift -= 8) {
                b.append((char) (n >>> shift & 255));
            }
        }
        tape = b.toString();
        return tape.length();
    }

    boolean end(int n) {
        if (n < 0 || n > tape.length()) {
            return false;
        }
        tape = tape.substring(0, n);
        return true;
    }

    // ---- what is told and what happens

    int state(int v) {
        int was = is.state;
        is.state = v;
        past.clear();
        return was;
    }

    boolean basin(int w, int h) {
        if (w < 3 || w > 8 || h < 3 || h > 7) {
            return false;
        }
        int state = is.state;
        is = new World();
        is.w = w;
        is.h = h;
        is.state = state;
        past.clear();
        return true;
    }

    int skater(int hand, int cell) {
        if (hand < 0 || hand > 9 || !is.isCell(cell) || is.skaters.size() == 6) {
            return NONE;
        }
        Skater s = new Skater();
        s.hand = hand;
        s.cell = cell;
        is.skaters.add(s);
        past.clear();
        return is.skaters.size() - 1;
    }

    boolean set(int what, int who, int v) {
        if (what == 0 && v >= 1 && v <= 9) {
            is.sight = v;
        } else if (what == 1 && v >= 0 && v <= 1000) {
            is.falls = v;
        } else if (what == 2 && is.isCell(who) && v >= 0 && v <= 9) {
            is.depth[who] = v;
        } else if (what == 3 && isSkater(who) && is.isCell(v)) {
            is.skaters.get(who).cell = v;
        } else {
            return false;
        }
        past.clear();
        return true;
    }

    int minutes(int n) {
        if (n < 1 || n > 60 || is.minute + n > 9999) {
            return NONE;
        }
        int fell = 0;
        for (int i = 0; i < n; i++) {
            past.add(is.copy());
            if (past.size() > 6) {
                past.remove(0);
            }
            fell += is.minute(false);
        }
        return fell;
    }

    boolean undo() {
        if (past.isEmpty()) {
            return false;
        }
        World now = is;
        is = past.remove(past.size() - 1);
        is.law = now.law;
        is.letters = now.letters;
        is.wants = now.wants;
        return true;
    }

    boolean image(boolean taken) {
        if (taken) {
            image = is.copy();
        } else if (image != null) {
            is = image.copy();
            past.clear();
        } else {
            return false;
        }
        return true;
    }

    // ---- answers

    boolean isSkater(int s) {
        return s >= 0 && s < is.skaters.size();
    }

    int fault(int what) {
        return what == 0 ? faultKind : what == 1 ? faultPlace : NONE;
    }

    int of(int who, int what) {
        if (!isSkater(who) || what < 0 || what > 5) {
            return NONE - 1;
        }
        Skater s = is.skaters.get(who);
        return List.of(s.hand, s.cell, is.way(who).steps.size() - s.done, s.done, s.down ? 1 : 0, crossed(who)).get(what);
    }

    private int crossed(int who) {
        // where he alone cuts nothing that counts: LATEST is as it is now
        World alone = is.copy();
        Skater s = alone.skaters.get(who);
        int n = 0;
        while (s.done < alone.way(who).steps.size()) {
            Step step = alone.way(who).steps.get(s.done++);
            if (!step.ahead().isEmpty()) {
                s.down = step.ahead().get(step.ahead().size() - 1).equals("down");
            }
            s.cell = alone.after(s.cell, step.way());
            int latest = alone.latest[s.cell];
            if (s.down && !step.way().equals("rest") && latest != NONE && latest != who) {
                n++;
            }
        }
        return n;
    }

    int at(int c, int what) {
        if (!is.isCell(c) || what < 0 || what > 4) {
            return NONE - 1;
        }
        return List.of(is.depth[c], is.latest[c], is.seen(c) ? 1 : 0, is.asked("thaw", c, NONE), is.around(c)).get(what);
    }

    int cut(int s, int c) {
        return isSkater(s) && is.isCell(c) ? is.asked("cut", c, s) : NONE;
    }

    int letter(int i) {
        return i >= 0 && i < is.letters.size() ? is.letters.get(i) : NONE;
    }

    int want(int i, int what) {
        if (i < 0 || i >= is.wants.size() || what < 0 || what > 2) {
            return NONE;
        }
        return what == 2 ? is.wantRead(i) ? 1 : 0 : is.wants.get(i)[what];
    }

    int book(int i, int what) {
        return i < 0 || i >= is.book.size() || what < 0 || what > 4 ? NONE : is.book.get(i)[what];
    }

    int read(int c) {
        return is.isBox(c) ? is.read(c) : NONE - 1;
    }

    long goes(int n) {
        return n < 0 || n > 99 ? NONE : is.thought(n).seenSet();
    }

    int wants(int n) {
        return n < 0 || n > 99 ? NONE : is.thought(n).wantsRead();
    }

    int spoilt(int what) {
        for (int n = 1; n <= 99 && is.wantsRead() > 0; n++) {
            World then = is.thought(n);
            for (int i = 0; i < is.wants.size(); i++) {
                if (is.wantRead(i) && !then.wantRead(i)) {
                    return what == 0 ? n : what == 1 ? i : NONE;
                }
            }
        }
        return NONE;
    }

    /** The cells of a set, or null if one can't be. */
    private List<Integer> cells(long set) {
        List<Integer> list = new ArrayList<>();
        for (int c = 0; c < 64; c++) {
            if ((set & 1L << c) != 0) {
                if (!is.isCell(c)) {
                    return null;
                }
                list.add(c);
            }
        }
        return list.size() > 9 ? null : list;
    }

    private int best;
    private List<Integer> bestOrder;

    private void tryOrders(int from, List<Integer> left, List<Integer> order, int steps) {
        if (left.isEmpty()) {
            if (steps < best) {
                best = steps;
                bestOrder = new ArrayList<>(order);
            }
            return;
        }
        for (int i = 0; i < left.size(); i++) {
            List<Integer> rest = new ArrayList<>(left);
            int c = rest.remove(i);
            order.add(c);
            tryOrders(c, rest, order, steps + distance(from, c));
            order.remove(order.size() - 1);
        }
    }

    private int shortest(int from, List<Integer> cells) {
        best = Integer.MAX_VALUE;
        tryOrders(from, cells, new ArrayList<>(), 0);
        return best;
    }

    int route(int s, long set, int what) {
        List<Integer> cells = cells(set);
        if (!isSkater(s) || cells == null) {
            return NONE;
        }
        int steps = shortest(is.skaters.get(s).cell, cells);
        if (what == 0) {
            return steps;
        }
        return what >= 10 && what - 10 < cells.size() ? bestOrder.get(what - 10) : NONE;
    }

    int soonest(long set, int what) {
        List<Integer> cells = cells(set);
        if (cells == null || is.skaters.isEmpty()) {
            return NONE;
        }
        int n = is.skaters.size();
        int ways = 1;
        for (int i = 0; i < cells.size(); i++) {
            ways *= n;
        }
        Map<List<Integer>, Integer> known = new java.util.HashMap<>();
        int least = Integer.MAX_VALUE;
        int[] first = null;
        for (int way = 0; way < ways; way++) {
            int[] who = new int[cells.size()];
            int left = way;
            // the first cell counts most, so that the ways come in the order of the document
            for (int i = cells.size() - 1; i >= 0; i--) {
                who[i] = left % n;
                left /= n;
            }
            int longest = 0;
            for (int s = 0; s < n; s++) {
                List<Integer> mine = new ArrayList<>();
                mine.add(s);
                for (int i = 0; i < who.length; i++) {
                    if (who[i] == s) {
                        mine.add(cells.get(i));
                    }
                }
                Integer steps = known.get(mine);
                if (steps == null) {
                    steps = shortest(is.skaters.get(s).cell, mine.subList(1, mine.size()));
                    known.put(mine, steps);
                }
                longest = Math.max(longest, steps);
            }
            if (longest < least) {
                least = longest;
                first = who;
            }
        }
        if (what == 0) {
            return least;
        }
        return what >= 10 && what - 10 < cells.size() ? first[what - 10] : NONE;
    }

    int beneath(int letter, int c) {
        if (letter(letter) == NONE || !is.isBox(c)) {
            return NONE;
        }
        int set = 0;
        for (int i = 0; i < is.letters.size(); i++) {
            if ((is.letters.get(i) | is.letters.get(letter)) == is.box(c)) {
                set += 1 << i;
            }
        }
        return set;
    }

    int lookAt(int set) {
        List<Integer> members = new ArrayList<>();
        for (int i = 0; i < 32; i++) {
            if ((set >>> i & 1) == 1) {
                if (i >= is.letters.size()) {
                    return NONE;
                }
                members.add(i);
            }
        }
        if (members.size() < 2) {
            return NONE;
        }
        int least = 99;
        int first = NONE;
        for (int c = 0; c < 9; c++) {
            int have = 0;
            int haveNot = 0;
            for (int i : members) {
                if ((is.letters.get(i) & 1 << c) != 0) {
                    have++;
                } else {
                    haveNot++;
                }
            }
            if (Math.max(have, haveNot) < least) {
                least = Math.max(have, haveNot);
                first = c;
            }
        }
        return first;
    }

    int who(int c, int what) {
        if (!is.isBox(c) || what < 0 || what > 1) {
            return NONE - 1;
        }
        int[] counts = new int[6];
        for (int d = 0; d < 64; d++) {
            boolean in = d % 8 >= c % 8 && d % 8 < c % 8 + 3 && d / 8 >= c / 8 && d / 8 < c / 8 + 3;
            if (in && is.seen(d) && is.latest[d] != NONE) {
                counts[is.latest[d]]++;
            }
        }
        int most = NONE;
        int all = 0;
        for (int s = 5; s >= 0; s--) {
            all += counts[s] > 0 ? 1 << s : 0;
            if (counts[s] > 0 && (most == NONE || counts[s] >= counts[most])) {
                most = s;
            }
        }
        return what == 0 ? most : all;
    }

    int holds(int d, int what) {
        if (d < 1 || d > 9 || what < 0 || what > 1) {
            return NONE;
        }
        int n = is.letters.size();
        for (int size = n; size > 0; size--) {
            for (int set = 0; set < 1 << n; set++) {
                if (Integer.bitCount(set) != size) {
                    continue;
                }
                boolean good = true;
                for (int i = 0; i < n; i++) {
                    for (int j = 0; j < n; j++) {
                        boolean both = i != j && (set & 1 << i) != 0 && (set & 1 << j) != 0;
                        good &= !both || Integer.bitCount(is.letters.get(i) ^ is.letters.get(j)) >= d;
                    }
                }
                if (good) {
                    return what == 0 ? size : set;
                }
            }
        }
        return 0;
    }

    int parts(int a, int b) {
        if (!is.isCell(a) || !is.isCell(b) || distance(a, b) <= 1) {
            return NONE;
        }
        List<Integer> others = new ArrayList<>();
        for (int c = 0; c < 64; c++) {
            if (is.isCell(c) && c != a && c != b) {
                others.add(c);
            }
        }
        for (int n = 1; n < 4; n++) {
            if (canPart(a, b, others, 0, n, 0L)) {
                return n;
            }
        }
        return 4;
    }

    private boolean canPart(int a, int b, List<Integer> others, int from, int n, long barred) {
        if (n == 0) {
            return !leads(a, b, barred);
        }
        for (int i = from; i < others.size(); i++) {
            if (canPart(a, b, others, i + 1, n - 1, barred | 1L << others.get(i))) {
                return true;
            }
        }
        return false;
    }

    private boolean leads(int a, int b, long barred) {
        long all = 0;
        long notLeft = 0;
        long notRight = 0;
        for (int c = 0; c < 64; c++) {
            if (is.isCell(c)) {
                all |= 1L << c;
                notLeft |= c % 8 > 0 ? 1L << c : 0;
                notRight |= c % 8 < is.w - 1 ? 1L << c : 0;
            }
        }
        long reached = 1L << a;
        long grown = 0;
        while (grown != reached) {
            grown = reached;
            reached |= (grown << 8 | grown >>> 8 | (grown & notLeft) >>> 1 | (grown & notRight) << 1) & all & ~barred;
        }
        return (reached & 1L << b) != 0;
    }

    int yet(int c, int n, int p) {
        if (!is.isCell(c) || n < 1 || n > 99 || p < 0 || p > 1000) {
            return NONE;
        }
        long[] now = new long[10];
        now[is.depth[c]] = 1000000;
        for (int i = 0; i < n; i++) {
            long[] then = new long[10];
            then[0] = now[0];
            for (int d = 1; d < 10; d++) {
                long down = Math.floorDiv(now[d] * p, 1000L);
                then[d - 1] += down;
                then[d] += now[d] - down;
            }
            now = then;
        }
        long seen = 0;
        for (int d = is.sight; d < 10; d++) {
            seen += now[d];
        }
        return (int) seen;
    }

    long heard(int s, int n) {
        if (!isSkater(s) || n < 0 || n > 9) {
            return NONE;
        }
        long set = 1L << is.skaters.get(s).cell;
        for (int i = 0; i < n; i++) {
            long then = set;
            for (int c = 0; c < 64; c++) {
                if ((set & 1L << c) != 0) {
                    for (int d : is.beside(c)) {
                        then |= 1L << d;
                    }
                }
            }
            set = then;
        }
        return set;
    }

    int look(int what) {
        List<Integer> all = List.of(is.w, is.h, is.minute);
        if (what >= 0 && what < 3) {
            return all.get(what);
        }
        return switch (what) {
            case 3 -> is.skaters.size();
            case 4 -> is.sight;
            case 5 -> is.falls;
            case 6 -> is.book.size();
            case 7 -> is.state;
            case 8 -> is.ways.size();
            case 9 -> is.law.size();
            case 10 -> is.letters.size();
            case 11 -> is.wants.size();
            case 12 -> past.size();
            case 13 -> Long.bitCount(is.seenSet());
            default -> NONE;
        };
    }
}
