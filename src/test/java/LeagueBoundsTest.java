/** The bounds of a LEAGUE's text (Terms 1, promises 4 and 5): how many, how much, where it is wrong. */
final class LeagueBoundsTest {
    private static final Bounds LOOK = new Bounds();
    private static final int SORT = Check.LEAGUE;
    private static final int RULE = 0;
    private static final int FORT = 1;
    private static final int CARRIER = 2;
    private static final Bounds.Past BUSY = Pasts::busy;

    public static void main(String[] args) {
        rulesOnceAtMost();
        twoToEightForts();
        oneToFiveCarriers();
        inAnyOrder();
        noItemsOrAll();
        eachItemOnce();
        noItemOfAnother();
        oneOrTwoDigits();
        boundsOfRules();
        boundsOfForts();
        boundsOfCarriers();
        usualOnes();
        blanks();
        lastDigitBehindBlanks();
        endsTooEarly();
        fewerThanTwoForts();
        withoutCarrier();
        twoFortsInOnePlace();
        carrierInAFortNotTold();
        wrongSignsFirst();
        sortsOfTexts();
        wrongTextChangesNothing();
        asLongAsATape();
        emptyTapeThen();
        anotherLeague();
        LOOK.close();
    }

    private static void sound(String text) {
        LOOK.sound(SORT, text);
    }

    private static void wrong(String text, int at) {
        LOOK.wrong(SORT, text, at);
    }

    /** "s (its RULES; one at most)" */
    private static void rulesOnceAtMost() {
        sound("f;fx1;c");
        sound("s;f;fx1;c");
        wrong("s;s", 2);
        wrong("f;sw2;fx1;c;s", 12);
        wrong("f;sw2;fx1;c; sw2", 13);
    }

    private static String clauses(char letter, int n) {
        StringBuilder all = new StringBuilder();
        for (int i = 0; i < n; i++) {
            all.append(i == 0 ? "" : ";").append(letter);
            if (letter == 'f') {
                all.append('x').append(i);
            }
        }
        return all.toString();
    }

    /** "f (a FORT; 2 .. 8)", "a ninth f" */
    private static void twoToEightForts() {
        wrong("c;" + clauses('f', 1), 5);
        for (int n = 2; n <= 8; n++) {
            String text = "c;" + clauses('f', n);
            sound(text);
            LOOK.due("so many forts", Check.tell(new CannonPost(), SORT, text), n);
            LOOK.due("so many are counted", Check.post(text).count(0), n);
        }
        wrong("c;" + clauses('f', 9), 2 + 8 * 4);
        wrong(clauses('f', 8) + ";  f", 8 * 4 + 2);
        wrong(clauses('f', 8) + ";c;f", 8 * 4 + 2);
    }

    /** "c (a CARRIER; 1 .. 5)", "a sixth c" */
    private static void oneToFiveCarriers() {
        wrong("f;fx1", 5);
        for (int n = 1; n <= 5; n++) {
            String text = "f;fx1;" + clauses('c', n);
            sound(text);
            LOOK.due("so many carriers", Check.post(text).count(1), n);
        }
        wrong("f;fx1;" + clauses('c', 6), 6 + 5 * 2);
        wrong(clauses('c', 5) + " ; c", 12);
        wrong(clauses('c', 5) + ";f;c", 12);
    }

    /** "in any order" */
    private static void inAnyOrder() {
        String[] parts = {"sw3", "fx5", "fx2", "cf1"};
        for (int i = 0; i < 256; i++) {
            int[] at = {i & 3, i >> 2 & 3, i >> 4 & 3, i >> 6 & 3};
            if ((1 << at[0] | 1 << at[1] | 1 << at[2] | 1 << at[3]) != 15) {
                continue;
            }
            String text = parts[at[0]] + ";" + parts[at[1]] + ";" + parts[at[2]] + ";" + parts[at[3]];
            sound(text);
            CannonPost x = Check.post(text);
            LOOK.due("wind of " + text, x.rule(0), 3);
            LOOK.due("the first told is fort 0", x.fort(0, 0), text.indexOf("fx5") < text.indexOf("fx2") ? 5 : 2);
            LOOK.due("where it is", x.carrier(0, 2), 1);
        }
    }

    /** "then ITEMS, none or more" */
    private static void noItemsOrAll() {
        sound("s;f;fx1;c");
        sound("sw1;fx1;f;cm1");
        sound("sw1d1;fx1h1;f;cm1n1");
        sound("sb1p1d1w1;fy1h1x1;f;cf1n1m1");
    }

    /** "each once at most in a CLAUSE", "a letter that was there" */
    private static void eachItemOnce() {
        for (String clause : new String[] {"sw1d1p1b1", "fx1h1y1", "cm1n1f1"}) {
            for (int i = 1; i < clause.length(); i += 2) {
                String item = clause.substring(i, i + 2);
                wrong(clause + item, clause.length());
                wrong(clause.charAt(0) + item + item, 3);
                wrong(clause.charAt(0) + item + " " + item, 4);
                wrong(clause.charAt(0) + item + item.charAt(0), 3);
            }
        }
        sound("fx1h1;fx2h1;cm1;cm1");
    }

    private static void noItemOfAnother() {
        String[] own = {"wdpb", "xhy", "mnf"};
        for (int sort = 0; sort < 3; sort++) {
            for (char letter = 'a'; letter <= 'z'; letter++) {
                if (own[sort].indexOf(letter) < 0) {
                    wrong("sfc".charAt(sort) + "" + letter + "1", 1);
                }
            }
        }
    }

    /** "a number (one or two digits)", "a third digit (whatever stands ahead of it ..) itself" */
    private static void oneOrTwoDigits() {
        wrong("fx", 2);
        wrong("fxh1", 2);
        wrong("fx ;", 3);
        sound("fx1;fx2;c");
        sound("fx01;fx02;c");
        sound("fx10;fx20;c");
        wrong("fx010", 4);
        wrong("fx000", 4);
        wrong("fx411", 4);
        wrong("fx999", 4);
        wrong("sp100", 4);
        wrong("sb001", 4);
        wrong("cm0011", 4);
        wrong("sw100;", 4);
        wrong("fx 411", 5);
    }

    /** One item of a clause: taken from least to most, with one digit and two, else wrong at its last digit. */
    private static void bounds(int sort, char letter, int what, int least, int most) {
        String head = "sfc".substring(sort, sort + 1) + letter;
        for (int v = 0; v <= 99; v++) {
            for (String digits : v < 10 ? new String[] {"" + v, "0" + v} : new String[] {"" + v}) {
                String clause = head + digits;
                boolean within = v >= least && v <= most;
                String text = clause + restOf(sort, v);
                LOOK.dueFault(SORT, text, within ? Check.NONE : clause.length() - 1);
                LOOK.dueFault(SORT, clause + " " + restOf(sort, v), within ? Check.NONE : clause.length() - 1);
                if (within) {
                    LOOK.due("what " + clause + " tells", told(Check.post(text), sort, what), v);
                } else {
                    LOOK.dueFault(SORT, clause, clause.length() - 1);
                }
            }
        }
        wrong(head + (most + 1), head.length() + (most < 9 ? 0 : most < 99 ? 1 : 2));
    }

    /** Eight FORTS in all, so that a CARRIER may be in any, none where the first could be told to be. */
    private static String restOf(int sort, int place) {
        StringBuilder all = new StringBuilder(sort == CARRIER ? "" : ";c");
        int forts = sort == FORT ? 1 : 0;
        for (int i = 0; forts < 8; i++) {
            if (sort != FORT || i != place && i != 0) {
                all.append(";fx").append(i);
                forts++;
            }
        }
        return all.toString();
    }

    private static int told(CannonPost x, int sort, int what) {
        return sort == RULE ? x.rule(what) : sort == FORT ? x.fort(0, what) : x.carrier(0, what);
    }

    /** "w WIND (0 .. 9 ..), d its way (0 .. 1), p POWDER in all (0 .. 99), b BREATH (1 .. 6)" */
    private static void boundsOfRules() {
        bounds(RULE, 'w', 0, 0, 9);
        bounds(RULE, 'd', 1, 0, 1);
        bounds(RULE, 'p', 2, 0, 99);
        bounds(RULE, 'b', 3, 1, 6);
    }

    /** "x PLACE (0 .. 40), h HEIGHT (0 .. 9), y HAY (0 .. 9)" */
    private static void boundsOfForts() {
        bounds(FORT, 'x', 0, 0, 40);
        bounds(FORT, 'h', 1, 0, 9);
        bounds(FORT, 'y', 2, 0, 9);
    }

    /** "m WEIGHT (1 .. 9), n NERVE (0 .. 9), f the FORT where it is (0 .. 7)" */
    private static void boundsOfCarriers() {
        bounds(CARRIER, 'm', 0, 1, 9);
        bounds(CARRIER, 'n', 1, 0, 9);
        bounds(CARRIER, 'f', 2, 0, 7);
    }

    /** "1 without", and so on for each. */
    private static void usualOnes() {
        int[] rules = {1, 0, 50, 3, 0};
        int[] fort = {0, 0, 2, 0};
        int[] carrier = {3, 5, 0, 0, 0};
        for (String text : new String[] {"f;fx1;c", "s;f;fx1;c"}) {
            CannonPost x = Check.post(text);
            for (int i = 0; i < rules.length; i++) {
                LOOK.due("rule " + i + " of " + text, x.rule(i), rules[i]);
            }
            for (int i = 0; i < fort.length; i++) {
                LOOK.due("fort's " + i, x.fort(0, i), fort[i]);
            }
            for (int i = 0; i < carrier.length; i++) {
                LOOK.due("carrier's " + i, x.carrier(0, i), carrier[i]);
            }
        }
        CannonPost one = Check.post("sp7;fh4;fx1;cn9");
        LOOK.due("wind beside powder", one.rule(0), 1);
        LOOK.due("breath beside powder", one.rule(3), 3);
        LOOK.due("hay beside height", one.fort(0, 2), 2);
        LOOK.due("weight beside nerve", one.carrier(0, 0), 3);
    }

    /** "Blanks (32) may stand between all signs of these, not within numbers" */
    private static void blanks() {
        String text = "sw9d1p20b3;fx10h2y3;fx4;cm2n3f1";
        for (int i = 0; i <= text.length(); i++) {
            boolean inside = i > 0 && i < text.length() && isDigit(text.charAt(i - 1)) && isDigit(text.charAt(i));
            String blanked = text.substring(0, i) + " " + text.substring(i);
            LOOK.dueFault(SORT, blanked, inside ? i + 1 : Check.NONE);
            String twice = text.substring(0, i) + "  " + text.substring(i);
            LOOK.dueFault(SORT, twice, inside ? i + 2 : Check.NONE);
            for (int other : new int[] {9, 10, 13, 31, 33, 160}) {
                LOOK.dueFault(SORT, text.substring(0, i) + (char) other + text.substring(i), i);
            }
        }
    }

    private static boolean isDigit(char sign) {
        return sign >= '0' && sign <= '9';
    }

    private static void lastDigitBehindBlanks() {
        wrong("fx  41 ", 5);
        wrong("cm 0", 3);
        wrong("sb  7;", 4);
    }

    /** "the length, if it ends too early" */
    private static void endsTooEarly() {
        String text = "sw9;fx1;fx2;c";
        for (int n = 0; n < text.length(); n++) {
            wrong(text.substring(0, n), n);
            wrong(text.substring(0, n) + " ", n + 1);
        }
        sound(text);
        wrong(text + ";", text.length() + 1);
        wrong(text + "; ", text.length() + 2);
        wrong(text + "m", text.length() + 1);
        wrong(text + "m ", text.length() + 2);
    }

    /** "with fewer than two FORTS" */
    private static void fewerThanTwoForts() {
        wrong("c", 1);
        wrong("c;s", 3);
        wrong("c;f", 3);
        wrong("c;fx3 ", 6);
        sound("c;fx3;f");
    }

    /** "without a CARRIER" */
    private static void withoutCarrier() {
        wrong("f;fx1", 5);
        wrong("f;fx1;s ", 8);
        wrong(clauses('f', 8), 31);
        sound("f;fx1;s;c");
    }

    /** "with two FORTS in one PLACE" */
    private static void twoFortsInOnePlace() {
        wrong("f;f;c", 5);
        wrong("f;fx0;c", 7);
        wrong("fx5;fx05;c", 10);
        wrong("fx40;c;fx39;fx40", 16);
        wrong("fx0;fx1;fx2;fx3;fx4;fx5;fx6;fx0;c", 33);
        wrong("fx0;fx1;fx2;fx3;fx4;fx5;fx6;fx6;c", 33);
        sound("fx39;fx40;c");
        sound("fx40;fx39;c");
        sound("fx5;fx4;fx6;c");
    }

    /** "or a CARRIER in a FORT that is not told" */
    private static void carrierInAFortNotTold() {
        for (int forts = 2; forts <= 8; forts++) {
            String text = clauses('f', forts) + ";cf";
            sound(text + (forts - 1));
            if (forts < 8) {
                wrong(text + forts, text.length() + 1);
                wrong("cf" + forts + ";" + clauses('f', forts), text.length() + 1);
            }
            sound("cf" + (forts - 1) + ";" + clauses('f', forts));
        }
        wrong("f;fx1;c;c;c;c;cf2", 17);
        wrong("f;fx1;cf2;c;c;c;c", 17);
    }

    /** A byte at which it can't go on comes ahead of what is wrong with the whole. */
    private static void wrongSignsFirst() {
        wrong("f;f;c;x", 6);
        wrong("f;f;cf7;s;s", 10);
        wrong("f;;", 2);
        wrong(";", 0);
        wrong(" ;", 1);
        wrong("cf8", 2);
        wrong("f,", 1);
        wrong("f1", 1);
        wrong((char) 255 + "f", 0);
        wrong("f" + (char) 128, 1);
    }

    /** "-2: no such sort", "NONE: .. no such sort" */
    private static void sortsOfTexts() {
        LOOK.within("fault", BUSY, 0, 2, (x, sort) -> x.fault(sort), -2);
        for (int sort : new int[] {Integer.MIN_VALUE, -2, -1, 3, 4, Integer.MAX_VALUE}) {
            LOOK.refused("text(" + sort + ")", BUSY, x -> x.text(sort), Check.NONE);
        }
        for (int sort = 0; sort <= 2; sort++) {
            int asked = sort;
            LOOK.unchanged("fault(" + sort + ")", BUSY, x -> x.fault(asked));
        }
        LOOK.due("text(0) of a league", Check.tell(new CannonPost(), 0, "f;fx1;c"), 2);
        LOOK.due("text(1) of a law", Check.tell(new CannonPost(), 1, "y:1"), 0);
        LOOK.due("text(2) of a plan", Check.tell(new CannonPost(), 2, "h1"), 0);
    }

    /** "NONE: a FAULT": what is there stays, with all its past. */
    private static void wrongTextChangesNothing() {
        String[] texts = {"", "f;fx1", "f;f;c", "f;fx1;cf2", "sw10", "f;fx1;c;", "f;fx1;c~", "fx3h1y9;fx4;cm9n9f1;q"};
        for (String text : texts) {
            Bounds.Past fed = Pasts.busyWith(text);
            LOOK.refused("text(0) of '" + text + "'", fed, x -> x.text(SORT), Check.NONE);
            LOOK.unchanged("fault(0) of '" + text + "'", fed, x -> x.fault(SORT));
        }
        LOOK.refused("text(0) of a plan", BUSY, x -> x.text(0), Check.NONE);
        LOOK.refused("text(1) of a plan", BUSY, x -> x.text(1), Check.NONE);
    }

    /** 239 and 240 bytes are no less a LEAGUE, and the 240th can be wrong. */
    private static void asLongAsATape() {
        String text = "f;fx1;c";
        for (int length = 239; length <= 240; length++) {
            String blanked = text + " ".repeat(length - text.length());
            sound(blanked);
            LOOK.due("text(0) of " + length, Check.tell(new CannonPost(), SORT, blanked), 2);
            String ahead = " ".repeat(length - text.length()) + text;
            sound(ahead);
            LOOK.dueFault(SORT, ahead.substring(0, length - 1) + "x", length - 1);
            LOOK.dueFault(SORT, blanked.substring(0, length - 1) + ";", length);
            LOOK.dueFault(SORT, " ".repeat(length), length);
        }
    }

    /** "The TAPE (empty then)" */
    private static void emptyTapeThen() {
        CannonPost x = new CannonPost();
        Check.feedText(x, "f;fx1;c");
        LOOK.due("ahead of text", x.count(4), 7);
        LOOK.due("text(0)", x.text(0), 2);
        LOOK.due("behind text", x.count(4), 0);
        LOOK.due("text(0) of nothing", x.text(0), Check.NONE);
        LOOK.due("the league stays", x.count(0), 2);
        LOOK.due("end(1)", x.end(1), false);
    }

    /** "(HOUR 0, nothing known; all that was of another one .. is gone but LAWS, which holds, PLANS, DAMPS)" */
    private static void anotherLeague() {
        String[] leagues = {Pasts.LEAGUE, "f;fx1;c", "fx40;fx39;fx38;fx37;fx36;fx35;fx34;fx33;c;c;c;c;c"};
        for (String league : leagues) {
            Bounds.Past fresh = x -> {
                Pasts.tellTexts(x);
                x.law(0);
                x.damps(3);
                Check.tell(x, SORT, league);
            };
            Bounds.Past behind = x -> {
                Pasts.busy(x);
                Check.tell(x, SORT, league);
            };
            LOOK.alike("behind another one: " + league, behind, fresh);
        }
    }
}
