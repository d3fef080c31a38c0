import java.util.ArrayList;
import java.util.List;

/** All that an object tells of itself, each answer with its call, to see what a call left as it was. */
final class Snapshot {
    private final List<String> calls = new ArrayList<>();
    private final List<Long> answers = new ArrayList<>();

    /** Some 200 calls in a basin of 6 by 6: two of them stay below the 512 of an object. */
    static Snapshot of(LeftSkate x) {
        Snapshot s = ofAllButUndo(x);
        s.add("look(12)", x.look(12));
        return s;
    }

    /** Without how much can be undone. */
    static Snapshot ofAllButUndo(LeftSkate x) {
        Snapshot s = new Snapshot();
        for (int what = 0; what < 12; what++) {
            s.add("look(" + what + ")", x.look(what));
        }
        s.add("look(13)", x.look(13));
        s.add("fault(0)", x.fault(0));
        s.add("fault(1)", x.fault(1));
        s.addSkaters(x);
        s.addCells(x);
        s.addTexts(x);
        s.addBook(x);
        return s;
    }

    private void add(String call, long answer) {
        calls.add(call);
        answers.add(answer);
    }

    private void addSkaters(LeftSkate x) {
        int skaters = x.look(3);
        for (int s = 0; s < skaters; s++) {
            for (int what = 0; what < 6; what++) {
                add("of(" + s + ", " + what + ")", x.of(s, what));
            }
        }
    }

    private void addCells(LeftSkate x) {
        int w = x.look(0);
        int h = x.look(1);
        for (int y = 0; y < h; y++) {
            for (int cell = 8 * y; cell < 8 * y + w; cell++) {
                add("at(" + cell + ", 0)", x.at(cell, 0));
                add("at(" + cell + ", 1)", x.at(cell, 1));
                add("at(" + cell + ", 3)", x.at(cell, 3));
            }
        }
    }

    private void addTexts(LeftSkate x) {
        int letters = x.look(10);
        for (int i = 0; i < letters; i++) {
            add("letter(" + i + ")", x.letter(i));
        }
        int wants = x.look(11);
        for (int i = 0; i < wants; i++) {
            for (int what = 0; what < 3; what++) {
                add("want(" + i + ", " + what + ")", x.want(i, what));
            }
        }
        add("cut(0, 0)", x.cut(0, 0));
        add("goes(5)", x.goes(5));
    }

    private void addBook(LeftSkate x) {
        int lines = Math.min(6, x.look(6));
        for (int i = 0; i < lines; i++) {
            for (int what = 0; what < 5; what++) {
                add("book(" + i + ", " + what + ")", x.book(i, what));
            }
        }
    }

    /** How many answers there are. */
    int size() {
        return answers.size();
    }

    /** The first call that is answered otherwise in the other one, with both answers; empty if there is none. */
    String differs(Snapshot other) {
        for (int i = 0; i < size() && i < other.size(); i++) {
            if (!calls.get(i).equals(other.calls.get(i)) || !answers.get(i).equals(other.answers.get(i))) {
                return calls.get(i) + " was " + answers.get(i) + ", then " + other.calls.get(i) + " was " + other.answers.get(i);
            }
        }
        return size() == other.size() ? "" : "one has more answers than the other";
    }
}
