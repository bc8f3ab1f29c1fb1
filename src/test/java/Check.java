import java.util.NoSuchElementException;

/** Counts answers that are not as due, and helps to tell texts to a post. */
final class Check {
    static final int NONE = -1;
    static final int HIDDEN = -1000000;
    static final int LEAGUE = 0;
    static final int LAW = 1;
    static final int PLAN = 2;

    private int calls;
    private int wrong;

    void due(String call, long got, long want) {
        calls++;
        if (got != want) {
            wrong++;
            System.out.println(call + " answered " + got + ", due is " + want);
        }
    }

    void holds(String call, boolean got) {
        due(call, got ? 1 : 0, 1);
    }

    void fails(String call, boolean got) {
        due(call, got ? 1 : 0, 0);
    }

    void dueThrow(CannonPost x, int carrier, int what) {
        int thrown = 0;
        try {
            x.carrier(carrier, what);
        } catch (NoSuchElementException e) {
            thrown = 1;
        }
        due("carrier(" + carrier + ", " + what + ") throws", thrown, 1);
    }

    void dueFault(int sort, String text, int want) {
        due("fault(" + sort + ") of '" + text + "'", faultOf(sort, text), want);
    }

    /** The text stands, and is refused at its end with one sign more that nothing can begin with. */
    void dueSound(int sort, String text) {
        dueFault(sort, text, NONE);
        if (text.length() < 240) {
            dueFault(sort, text + "~", text.length());
        }
    }

    void close() {
        System.out.println(calls + " answers looked at, " + wrong + " not as due");
        if (wrong > 0) {
            System.exit(1);
        }
    }

    static int faultOf(int sort, String text) {
        CannonPost x = new CannonPost();
        feedText(x, text);
        return x.fault(sort);
    }

    static int feedText(CannonPost x, String text) {
        int length = x.count(4);
        for (int i = 0; i < text.length(); i += 20) {
            length = x.feed(word(text, i), word(text, i + 4), word(text, i + 8), word(text, i + 12), word(text, i + 16));
        }
        return length;
    }

    private static int word(String text, int start) {
        int word = 0;
        for (int i = start; i < start + 4; i++) {
            word = word << 8 | (i < text.length() ? text.charAt(i) & 255 : 0);
        }
        return word;
    }

    static int tell(CannonPost x, int sort, String text) {
        x.end(0);
        feedText(x, text);
        return x.text(sort);
    }

    static CannonPost post(String league) {
        CannonPost x = new CannonPost();
        if (tell(x, LEAGUE, league) < 2) {
            throw new IllegalStateException("no league: " + league);
        }
        return x;
    }

    /** All that can be asked of what changes, as one line, to see that a refused call changed nothing. */
    static String stateOf(CannonPost x) {
        StringBuilder all = new StringBuilder();
        for (int i = 0; i <= 13; i++) {
            all.append(x.count(i)).append(' ');
        }
        for (int i = 0; i <= 4; i++) {
            all.append(x.rule(i)).append(' ');
        }
        for (int f = 0; f < x.count(0); f++) {
            for (int i = 0; i <= 3; i++) {
                all.append(x.fort(f, i)).append(' ');
            }
            all.append(x.meant(f)).append(' ');
        }
        for (int c = 0; c < x.count(1); c++) {
            for (int i = 0; i <= 4; i++) {
                all.append(x.carrier(c, i)).append(' ');
            }
        }
        for (int i = 0; i < x.count(12); i++) {
            for (int k = 0; k <= 3; k++) {
                all.append(x.log(i, k)).append(' ');
            }
        }
        for (int i = -1; i < 20; i++) {
            all.append(x.winds(i)).append(' ');
        }
        return all.toString();
    }
}
