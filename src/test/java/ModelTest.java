import java.util.ArrayList;
import java.util.List;
import java.util.Random;

/** Long runs of calls, most of them sound and some of them wrong, each answer held against the model's. */
public final class ModelTest {
    /** An object answers 512 calls as promised: a text takes up to 30 of them, all that enlivens it some 180. */
    private static final int CALLS = 480;
    private static final int ENLIVENING = 180;

    private final Random random;
    private final Model model = new Model();
    private final LeftSkate skate = new LeftSkate();
    private final List<String> calls = new ArrayList<>();
    private boolean wrong = false;

    private ModelTest(long seed) {
        random = new Random(seed);
    }

    public static void main(String[] args) {
        int runs = args.length > 0 ? Integer.parseInt(args[0]) : 60;
        int first = args.length > 1 ? Integer.parseInt(args[1]) : 1;
        int bad = 0;
        for (int seed = first; seed < first + runs; seed++) {
            ModelTest test = new ModelTest(seed);
            if (!test.run()) {
                bad++;
                System.out.println("ModelTest, seed " + seed + ": the last of these answers is not the model's");
                for (String call : test.calls) {
                    System.out.println("  " + call);
                }
            }
        }
        System.out.println("ModelTest: " + runs + " runs, " + bad + " wrong");
        if (bad > 0) {
            System.exit(1);
        }
    }

    private boolean run() {
        while (calls.size() < CALLS && !wrong) {
            if (oneIn(40) && calls.size() < CALLS - ENLIVENING) {
                enliven();
            }
            call();
        }
        return !wrong;
    }

    private int below(int n) {
        return random.nextInt(n);
    }

    private boolean oneIn(int n) {
        return below(n) == 0;
    }

    private int between(int low, int high) {
        return low + below(high - low + 1);
    }

    /** A number within the bounds, seldom just beyond them or far off. */
    private int about(int low, int high) {
        if (oneIn(150)) {
            return oneIn(2) ? Integer.MIN_VALUE : Integer.MAX_VALUE;
        }
        return oneIn(12) ? between(low - 2, high + 2) : between(low, high);
    }

    private int cell() {
        if (oneIn(30)) {
            return between(-2, 70);
        }
        return 8 * below(model.is.h) + below(model.is.w);
    }

    private int box() {
        if (oneIn(20)) {
            return cell();
        }
        return 8 * below(model.is.h - 2) + below(model.is.w - 2);
    }

    private int someone() {
        return oneIn(25) ? between(-1, 7) : below(Math.max(1, model.is.skaters.size()));
    }

    private long set(int most) {
        if (oneIn(40)) {
            return random.nextLong() & random.nextLong() & random.nextLong();
        }
        long set = 0;
        int n = below(most + 1);
        for (int i = 0; i < n; i++) {
            set |= 1L << (8 * below(model.is.h) + below(model.is.w));
        }
        return set;
    }

    private void check(String call, long got, long due) {
        calls.add(call + " answered " + got + (got == due ? "" : ", the model " + due));
        wrong = wrong || got != due;
    }

    private void check(String call, boolean got, boolean due) {
        check(call, got ? 1L : 0L, due ? 1L : 0L);
    }

    private void call() {
        int kind = below(100);
        if (kind < 24) {
            happen();
        } else if (kind < 34) {
            tellText();
        } else if (kind < 70) {
            ask();
        } else {
            think();
        }
    }

    private void happen() {
        int kind = below(30);
        if (kind < 1 && oneIn(5)) {
            int w = about(3, 8);
            int h = about(3, 7);
            check("basin(" + w + ", " + h + ")", skate.basin(w, h), model.basin(w, h));
        } else if (kind < 6) {
            int hand = about(0, 9);
            int cell = cell();
            check("skater(" + hand + ", " + cell + ")", skate.skater(hand, cell), model.skater(hand, cell));
        } else if (kind < 11) {
            setOne();
        } else if (kind < 12) {
            int v = oneIn(3) ? about(-5, 5) : random.nextInt();
            check("state(" + v + ")", skate.state(v), model.state(v));
        } else if (kind < 22) {
            int n = oneIn(40) ? about(0, 60) : oneIn(30) ? about(0, 1) : between(1, 4);
            check("minutes(" + n + ")", skate.minutes(n), model.minutes(n));
        } else if (kind < 26) {
            check("undo()", skate.undo(), model.undo());
        } else if (kind < 27) {
            boolean taken = oneIn(2);
            check("image(" + taken + ")", skate.image(taken), model.image(taken));
        } else {
            int n = oneIn(2) ? about(-1, 30) : model.tape.length() + between(-3, 3);
            check("end(" + n + ")", skate.end(n), model.end(n));
        }
    }

    private void setOne() {
        int what = oneIn(20) ? about(-1, 5) : between(0, 3);
        int who = what == 3 ? someone() : cell();
        int v = what == 0 ? oneIn(3) ? about(1, 9) : between(1, 2) : what == 1 ? oneIn(2) ? 0 : about(0, 1000) : what == 2 ? about(0, 9) : cell();
        check("set(" + what + ", " + who + ", " + v + ")", skate.set(what, who, v), model.set(what, who, v));
    }

    private void ask() {
        int kind = below(24);
        int what = about(0, 5);
        int who = someone();
        int cell = cell();
        int i = about(0, 9);
        if (kind < 5) {
            check("of(" + who + ", " + what + ")", skate.of(who, what), model.of(who, what));
        } else if (kind < 10) {
            check("at(" + cell + ", " + what + ")", skate.at(cell, what), model.at(cell, what));
        } else if (kind < 11) {
            check("cut(" + who + ", " + cell + ")", skate.cut(who, cell), model.cut(who, cell));
        } else if (kind < 12) {
            check("letter(" + i + ")", skate.letter(i), model.letter(i));
        } else if (kind < 14) {
            check("want(" + i + ", " + what + ")", skate.want(i, what), model.want(i, what));
        } else if (kind < 17) {
            int line = about(0, Math.max(1, model.is.book.size()));
            check("book(" + line + ", " + what + ")", skate.book(line, what), model.book(line, what));
        } else if (kind < 19) {
            int box = box();
            check("read(" + box + ")", skate.read(box), model.read(box));
        } else if (kind < 20) {
            int two = about(0, 1);
            check("fault(" + two + ")", skate.fault(two), model.fault(two));
        } else {
            int all = about(0, 13);
            check("look(" + all + ")", skate.look(all), model.look(all));
        }
    }

    private void think() {
        int kind = below(27);
        int n = oneIn(8) ? about(0, 99) : between(0, 12);
        int two = about(0, 1);
        int listed = oneIn(10) ? about(-3, 21) : oneIn(2) ? 0 : between(10, 14);
        int who = someone();
        int box = box();
        int a = cell();
        int b = cell();
        if (kind < 3) {
            check("goes(" + n + ")", skate.goes(n), model.goes(n));
        } else if (kind < 5) {
            check("wants(" + n + ")", skate.wants(n), model.wants(n));
        } else if (kind < 8) {
            check("spoilt(" + two + ")", skate.spoilt(two), model.spoilt(two));
        } else if (kind < 11) {
            long set = set(oneIn(60) ? 11 : 6);
            check("route(" + who + ", " + set + ", " + listed + ")", skate.route(who, set, listed), model.route(who, set, listed));
        } else if (kind < 13) {
            // the model tries all ways to share: few skaters for many cells
            boolean few = model.is.skaters.size() <= 2;
            long set = set(few && oneIn(20) ? 11 : oneIn(200) ? 7 : oneIn(20) ? 6 : 4);
            int what = few && oneIn(2) ? between(14, 18) : listed;
            check("soonest(" + set + ", " + what + ")", skate.soonest(set, what), model.soonest(set, what));
        } else if (kind < 15) {
            int letter = about(0, 7);
            check("beneath(" + letter + ", " + box + ")", skate.beneath(letter, box), model.beneath(letter, box));
        } else if (kind < 17) {
            int letters = oneIn(10) ? about(0, 255) : below(1 << model.is.letters.size());
            check("lookAt(" + letters + ")", skate.lookAt(letters), model.lookAt(letters));
        } else if (kind < 19) {
            check("who(" + box + ", " + two + ")", skate.who(box, two), model.who(box, two));
        } else if (kind < 21) {
            int d = about(1, 9);
            check("holds(" + d + ", " + two + ")", skate.holds(d, two), model.holds(d, two));
        } else if (kind < 22) {
            check("parts(" + a + ", " + b + ")", skate.parts(a, b), model.parts(a, b));
        } else if (kind < 25) {
            int minutes = about(1, oneIn(4) ? 99 : 8);
            int p = about(0, 1000);
            check("yet(" + a + ", " + minutes + ", " + p + ")", skate.yet(a, minutes, p), model.yet(a, minutes, p));
        } else {
            int steps = about(0, 9);
            check("heard(" + who + ", " + steps + ")", skate.heard(who, steps), model.heard(who, steps));
        }
    }

    /** Skaters on their ways and letters that are wanted where they will be read: what random calls seldom meet. */
    private void enliven() {
        while (model.is.skaters.size() < 3) {
            int hand = below(10);
            int cell = 8 * below(model.is.h) + below(model.is.w);
            check("skater(" + hand + ", " + cell + ")", skate.skater(hand, cell), model.skater(hand, cell));
        }
        tell(0, ways());
        int n = between(1, 6);
        check("minutes(" + n + ")", skate.minutes(n), model.minutes(n));
        if (oneIn(2)) {
            tell(1, law());
        }
        tell(2, letters());
        tell(3, wants());
        check("spoilt(0)", skate.spoilt(0), model.spoilt(0));
        check("spoilt(1)", skate.spoilt(1), model.spoilt(1));
        for (int i = 0; i < model.is.wants.size(); i++) {
            int box = model.is.wants.get(i)[1];
            check("want(" + i + ", 2)", skate.want(i, 2), model.want(i, 2));
            check("read(" + box + ")", skate.read(box), model.read(box));
            check("who(" + box + ", 0)", skate.who(box, 0), model.who(box, 0));
            check("who(" + box + ", 1)", skate.who(box, 1), model.who(box, 1));
            check("beneath(" + i + ", " + box + ")", skate.beneath(i, box), model.beneath(i, box));
            int then = below(20);
            check("wants(" + then + ")", skate.wants(then), model.wants(then));
        }
        for (int s = 0; s < model.is.skaters.size(); s++) {
            check("of(" + s + ", 5)", skate.of(s, 5), model.of(s, 5));
        }
    }

    // ---- texts

    private void tellText() {
        int k = oneIn(30) ? about(0, 3) : between(0, 3);
        String text = k == 0 ? ways() : k == 1 ? law() : k == 2 ? letters() : wants();
        if (oneIn(4)) {
            text = spoiled(text);
        }
        if (oneIn(3)) {
            text = spread(text);
        }
        tell(k, text);
    }

    private void tell(int k, String told) {
        // as many lines as there is room for: a text that is cut off within one is a fault
        String text = told;
        while (text.length() > 400 && !oneIn(20)) {
            text = text.substring(0, text.lastIndexOf(';', text.length() - 2) + 1);
        }
        text = text.substring(0, Math.min(400, text.length()));
        feed(text);
        check("text(" + k + ")", skate.text(k), model.text(k));
        if (oneIn(2) || model.faultKind != 0) {
            check("fault(0)", skate.fault(0), model.fault(0));
            check("fault(1)", skate.fault(1), model.fault(1));
        }
    }

    private void feed(String text) {
        if (!oneIn(40)) {
            check("end(0)", skate.end(0), model.end(0));
        }
        int to = model.tape.length() + text.length();
        calls.add("-- " + text);
        for (int from = 0; from < text.length(); from += 20) {
            int[] n = new int[5];
            for (int i = 0; i < 20; i++) {
                int c = from + i < text.length() ? text.charAt(from + i) : ' ';
                n[i / 4] = n[i / 4] << 8 | c;
            }
            check("feed(..)", skate.feed(n[0], n[1], n[2], n[3], n[4]), model.feed(n));
        }
        check("end(" + to + ")", skate.end(to), model.end(to));
    }

    private String pick(String... words) {
        return words[below(words.length)];
    }

    /** A few signs are left out, doubled or changed. */
    private String spoiled(String text) {
        StringBuilder b = new StringBuilder(text);
        for (int n = between(1, 2); n > 0 && b.length() > 0; n--) {
            int i = below(b.length());
            int kind = below(4);
            if (kind == 0) {
                b.deleteCharAt(i);
            } else if (kind == 1) {
                b.insert(i, pick(";", "0", "9", " ", "x", "Q", "(", ")", "not ", "\n", "<", "/0", "or ", ".", "\u00e9", "12345"));
            } else if (kind == 2) {
                b.setCharAt(i, (char) between(30, 126));
            } else {
                b.setLength(i);
            }
        }
        return b.toString();
    }

    /** Blanks where they may stand. */
    private String spread(String text) {
        StringBuilder b = new StringBuilder();
        for (int i = 0; i < text.length(); i++) {
            char c = text.charAt(i);
            if (!Character.isLetterOrDigit(c) && oneIn(4)) {
                b.append(pick(" ", "\n", "  "));
            }
            b.append(c);
        }
        return b.toString();
    }

    private String ways() {
        StringBuilder b = new StringBuilder();
        int n = model.is.skaters.size();
        List<Integer> order = new ArrayList<>();
        for (int s = 0; s < n; s++) {
            order.add(s);
        }
        java.util.Collections.shuffle(order, random);
        int told = oneIn(3) ? below(n + 1) : n;
        for (int i = 0; i < told; i++) {
            b.append("skater ").append(oneIn(40) ? between(0, 6) : order.get(i)).append(' ');
            int parts = oneIn(10) ? between(4, 9) : below(6);
            for (int p = 0; p < parts; p++) {
                if (oneIn(4)) {
                    b.append(pick("lift ", "down "));
                } else {
                    b.append(pick("north ", "east ", "south ", "west ", "rest "));
                    b.append(oneIn(60) ? between(0, 22) : oneIn(12) ? between(1, 20) : between(1, 4)).append(' ');
                }
            }
            b.append(';');
        }
        return b.toString();
    }

    private String letters() {
        StringBuilder b = new StringBuilder();
        for (int n = oneIn(10) ? between(0, 9) : between(0, 3); n > 0; n--) {
            int bits = oneIn(2) ? 511 : below(512);
            b.append("letter");
            for (int row = 0; row < 3; row++) {
                b.append(' ').append(oneIn(80) ? between(0, 9) : below(8) & bits >> 3 * row & 7);
            }
            b.append(';');
        }
        // so that some are read: what is seen now or soon is a letter, too
        for (int i = 0; i < 12; i++) {
            int shape = model.is.thought(below(4)).box(8 * below(model.is.h - 2) + below(model.is.w - 2));
            if (shape != 0 && oneIn(3)) {
                b.append("letter ").append(shape & 7).append(' ').append(shape >> 3 & 7).append(' ').append(shape >> 6).append(';');
            }
        }
        return b.toString();
    }

    private String wants() {
        StringBuilder b = new StringBuilder();
        int n = model.is.letters.size();
        if (n > 0 || oneIn(3)) {
            Model.World then = model.is.thought(below(4));
            for (int i = oneIn(10) ? 11 : below(8); i > 0; i--) {
                int box = box();
                int letter = below(Math.max(1, n));
                for (int c = 0; c < 64 && oneIn(2); c++) {
                    if (then.isBox(c) && then.read(c) != Model.NONE) {
                        box = c;
                        letter = then.read(c);
                    }
                }
                b.append("want ").append(oneIn(60) ? n : letter).append(" at ").append(box).append(';');
            }
        }
        return b.toString();
    }

    private String law() {
        StringBuilder b = new StringBuilder();
        for (int n = oneIn(12) ? between(15, 18) : below(5); n > 0; n--) {
            b.append(pick("cut ", "thaw ")).append(oneIn(3) ? expression(2) : String.valueOf(below(5)));
            if (!oneIn(4)) {
                b.append(" when ").append(condition(oneIn(15) ? 9 : 3));
            }
            b.append(';');
        }
        return b.toString();
    }

    private String condition(int deep) {
        if (deep > 0 && oneIn(deep > 5 ? 1 : 3)) {
            int kind = below(5);
            if (kind == 0) {
                return "not " + condition(deep - 1);
            }
            if (kind == 1) {
                return "(" + condition(deep - 1) + ")";
            }
            if (kind == 2) {
                return condition(deep / 2) + " or " + condition(deep / 2);
            }
            if (kind == 3) {
                return condition(deep / 2) + " and " + condition(deep / 2);
            }
            return "not (" + condition(deep - 1) + ")";
        }
        return expression(1) + pick("<", "=", ">") + expression(1);
    }

    private String expression(int deep) {
        if (deep > 0 && oneIn(2)) {
            int kind = below(4);
            if (kind == 3) {
                return expression(deep - 1) + "/" + (oneIn(40) ? 0 : oneIn(9) ? between(1, 9999) : between(1, 4));
            }
            return expression(deep - 1) + pick("+", "-", "*") + expression(deep - 1);
        }
        return oneIn(3) ? String.valueOf(oneIn(9) ? below(10000) : below(6)) : pick("depth", "edge", "minute", "hand", "crossed", "around");
    }
}
