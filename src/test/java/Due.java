/** What tests share: texts that are fed, and answers held against those that are due. */
final class Due {
    private final String test;
    private int wrong = 0;

    Due(String test) {
        this.test = test;
    }

    void is(String what, long got, long due) {
        if (got != due) {
            wrong++;
            System.out.println(test + ": " + what + " answered " + got + ", due is " + due);
        }
    }

    void is(String what, boolean got, boolean due) {
        is(what, got ? 1L : 0L, due ? 1L : 0L);
    }

    /** Nothing that an object tells of itself has changed. */
    void same(String what, Snapshot was, Snapshot now) {
        String differs = was.differs(now);
        if (!differs.isEmpty()) {
            wrong++;
            System.out.println(test + ": " + what + " changed something: " + differs);
        }
    }

    void end() {
        System.out.println(test + ": " + (wrong == 0 ? "all as due" : wrong + " not as due"));
        if (wrong > 0) {
            System.exit(1);
        }
    }

    /** The text comes behind the tape. */
    static void feed(LeftSkate x, String text) {
        int length = text.length();
        int had = 0;
        for (int from = 0; from < length; from += 20) {
            int[] n = new int[5];
            for (int i = 0; i < 20; i++) {
                n[i / 4] = n[i / 4] << 8 | (from + i < length ? text.charAt(from + i) : ' ');
            }
            int has = x.feed(n[0], n[1], n[2], n[3], n[4]);
            had = has - 20 - from;
        }
        if (length > 0) {
            x.end(had + length);
        }
    }

    static int tell(LeftSkate x, int k, String text) {
        feed(x, text);
        return x.text(k);
    }

    /** Told as text k, how many lines, or the fault and its place. */
    void lines(LeftSkate x, int k, String text, int lines) {
        is(text, tell(x, k, text), lines);
        is(text + ": fault", x.fault(0), 0);
        is(text + ": place", x.fault(1), LeftSkate.NONE);
    }

    void fault(LeftSkate x, int k, String text, int kind, int place) {
        is(text, tell(x, k, text), LeftSkate.NONE);
        is(text + ": fault", x.fault(0), kind);
        is(text + ": place", x.fault(1), place);
    }
}
