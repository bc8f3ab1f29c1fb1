/** The bounds of promises 1 to 3: a new object, what feed brings at most, where end cuts. */
final class TapeBoundsTest {
    private static final Bounds LOOK = new Bounds();
    private static final int SIGN = 'h' << 24 | 'h' << 16 | 'h' << 8 | 'h';
    private static final Bounds.Past BUSY = Pasts::busy;
    private static final Bounds.Past NEW = Pasts::nothing;
    private static final int ON_TAPE = 6;

    public static void main(String[] args) {
        noLeagueAtFirst();
        nothingIsNoBytes();
        oneByteOfTwenty();
        twentyBytes();
        highestByteFirst();
        atMost240();
        moreThan240();
        fullTapeTakesZeros();
        endWithin();
        endOfAnEmptyTape();
        endOfAFullTape();
        what512CallsAnswer();
        LOOK.close();
    }

    /** "No LEAGUE." */
    private static void noLeagueAtFirst() {
        int[] counts = {0, 0, 0, 0, 0, Check.NONE, 0, 0, 0, 0, 0, 0, 0, 0};
        CannonPost x = new CannonPost();
        for (int what = 0; what < counts.length; what++) {
            LOOK.due("count(" + what + ") of a new one", x.count(what), counts[what]);
        }
        LOOK.due("rule of a new one", x.rule(0), Check.NONE);
    }

    /** "bytes of 0 are left out" */
    private static void nothingIsNoBytes() {
        LOOK.due("zeros to a new one", new CannonPost().feed(0, 0, 0, 0, 0), 0);
        LOOK.unchanged("zeros to a tape", BUSY, x -> x.feed(0, 0, 0, 0, 0));
        LOOK.due("zeros to a tape", Bounds.after(BUSY).feed(0, 0, 0, 0, 0), ON_TAPE);
    }

    /** Each of the twenty bytes alone, from 1 to 255. */
    private static void oneByteOfTwenty() {
        for (int i = 0; i < 20; i++) {
            for (int value : new int[] {1, 127, 128, 255}) {
                int[] all = new int[5];
                all[i / 4] = value << 24 - i % 4 * 8;
                CannonPost x = new CannonPost();
                LOOK.due("byte " + i + " alone, " + value, x.feed(all[0], all[1], all[2], all[3], all[4]), 1);
                LOOK.due("it is counted", x.count(4), 1);
            }
        }
    }

    private static void twentyBytes() {
        CannonPost x = new CannonPost();
        LOOK.due("twenty", x.feed(SIGN, SIGN, SIGN, SIGN, SIGN), 20);
        LOOK.due("nineteen more", x.feed(SIGN, SIGN, SIGN, SIGN, SIGN >>> 8), 39);
        LOOK.due("twenty more", x.feed(-1, -1, -1, -1, -1), 59);
    }

    /** "of each number the highest first" */
    private static void highestByteFirst() {
        CannonPost x = new CannonPost();
        x.feed('n' << 24 | '1' << 16 | '2' << 8 | ';', 'w' << 24 | '3', '1' << 16, ';' << 8 | 's', '4' << 24 | '0' << 16 | '1' << 8 | '5');
        LOOK.due("a plan byte by byte", x.text(2), 0);
        int[][] steps = {{3, 1, 2, -1}, {2, 3, 1, -1}, {0, 4, 0, 15}};
        for (int i = 0; i < steps.length; i++) {
            for (int what = 0; what < 4; what++) {
                LOOK.due("step " + i + " " + what, x.step(0, i, what), steps[i][what]);
            }
        }
    }

    /** So many bytes on the tape, all h, so that the first is the FAULT of a PLAN's second sign. */
    private static Bounds.Past bytes(int n) {
        return x -> {
            for (int i = 0; i < n / 20; i++) {
                x.feed(SIGN, SIGN, SIGN, SIGN, SIGN);
            }
            for (int i = 0; i < n % 20; i++) {
                x.feed(0, 'h', 0, 0, 0);
            }
        };
    }

    /** "more than 240": 239 and 240 are not. */
    private static void atMost240() {
        LOOK.due("219 and 20", Bounds.after(bytes(219)).feed(SIGN, SIGN, SIGN, SIGN, SIGN), 239);
        LOOK.due("220 and 20", Bounds.after(bytes(220)).feed(SIGN, SIGN, SIGN, SIGN, SIGN), 240);
        LOOK.due("238 and 1", Bounds.after(bytes(238)).feed(0, 0, 0, 0, 'h'), 239);
        LOOK.due("239 and 1", Bounds.after(bytes(239)).feed('h' << 24, 0, 0, 0, 0), 240);
        LOOK.due("235 and 5", Bounds.after(bytes(235)).feed('h' << 8, 'h', 'h', 'h' << 16, 'h' << 24), 240);
    }

    /** "NONE: more than 240", and then none of the twenty comes. */
    private static void moreThan240() {
        LOOK.refused("221 and 20", bytes(221), x -> x.feed(SIGN, SIGN, SIGN, SIGN, SIGN), Check.NONE);
        LOOK.refused("236 and 5", bytes(236), x -> x.feed('h' << 8, 'h', 'h', 'h' << 16, 'h' << 24), Check.NONE);
        LOOK.refused("239 and 2", bytes(239), x -> x.feed(0, 0, 'h', 0, 'h'), Check.NONE);
        for (int i = 0; i < 20; i++) {
            int[] all = new int[5];
            all[i / 4] = 255 << 24 - i % 4 * 8;
            LOOK.refused("240 and byte " + i, bytes(240), x -> x.feed(all[0], all[1], all[2], all[3], all[4]), Check.NONE);
        }
        CannonPost x = Bounds.after(bytes(240));
        LOOK.due("240 and 1", x.feed(0, 0, 0, 0, 1), Check.NONE);
        LOOK.due("240 still", x.count(4), 240);
        LOOK.due("239 then", x.end(239), true);
        LOOK.due("and there is room again", x.feed(0, 0, 0, 0, 1), 240);
    }

    private static void fullTapeTakesZeros() {
        LOOK.due("240 and nothing", Bounds.after(bytes(240)).feed(0, 0, 0, 0, 0), 240);
    }

    /** "The TAPE has its first n bytes alone. False: n." */
    private static void endWithin() {
        LOOK.within("end", BUSY, 0, ON_TAPE, (x, n) -> Bounds.asInt(x.end(n)), Bounds.FALSE);
        for (int n = 0; n <= ON_TAPE; n++) {
            CannonPost x = Bounds.after(BUSY);
            LOOK.due("end(" + n + ")", x.end(n), true);
            LOOK.due("count behind end(" + n + ")", x.count(4), n);
            LOOK.due("end(" + (n + 1) + ") behind it", x.end(n + 1), false);
            LOOK.due("the first " + n + " alone", x.fault(2), n == 2 || n == ON_TAPE ? Check.NONE : n);
        }
        LOOK.unchanged("end at the end", BUSY, x -> Bounds.asInt(x.end(ON_TAPE)));
    }

    private static void endOfAnEmptyTape() {
        LOOK.within("end of an empty tape", NEW, 0, 0, (x, n) -> Bounds.asInt(x.end(n)), Bounds.FALSE);
    }

    private static void endOfAFullTape() {
        LOOK.within("end of a full tape", bytes(240), 0, 240, (x, n) -> Bounds.asInt(x.end(n)), Bounds.FALSE);
    }

    /** "An object is used for at most 512 calls": the last one still answers as due. */
    private static void what512CallsAnswer() {
        // Check.post makes four calls: end, count, feed, text
        CannonPost x = Check.post("sp99;fy0;fx20;c");
        x.hear(0, 1);
        x.count(13);
        for (int calls = 6; calls < 510; calls += 2) {
            x.shoot(0, 20, 0, 2);
            x.undo();
        }
        LOOK.due("the 511th", x.shoot(0, 10, 0, 2), 1);
        LOOK.due("the 512th", x.fort(1, 3), 2);
    }
}
