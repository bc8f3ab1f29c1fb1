/** The bounds of LAWS (Terms 1 and 2, promises 4, 5 and 9): their texts, their numbers, which holds. */
final class LawBoundsTest {
    private static final Bounds LOOK = new Bounds();
    private static final int SORT = Check.LAW;
    private static final Bounds.Past BUSY = Pasts::busy;
    private static final Bounds.Past NEW = Pasts::nothing;
    private static final Bounds.Past FULL = LawBoundsTest::tellFour;
    private static final String MILLION = "1000*1000";
    private static final String BELOW = "[9999*100+99]";
    private static final String BELOW_LESS = "[0-9999*100-99]";

    public static void main(String[] args) {
        fourLaws();
        oneClauseAtLeast();
        oneToFourDigits();
        sixWithinOneAnother();
        nestingOfEachPart();
        blanks();
        endsTooEarly();
        conditionBehindItsColon();
        wrongTextChangesNothing();
        asLongAsATape();
        heldBehindPlus();
        heldBehindLess();
        heldBehindTimes();
        heldInBrackets();
        heldInConditions();
        cutTowardsZero();
        byZero();
        comparisons();
        joinedTruths();
        firstClauseThatHolds();
        noneHolds();
        reachWithinSixty();
        reachWithoutALaw();
        lettersAtTheirBounds();
        whichHolds();
        noneCanHold();
        LOOK.close();
    }

    private static void sound(String text) {
        LOOK.sound(SORT, text);
    }

    private static void wrong(String text, int at) {
        LOOK.wrong(SORT, text, at);
    }

    private static void tellFour(CannonPost x) {
        Check.tell(x, Check.LEAGUE, Pasts.LEAGUE);
        for (int i = 0; i < 4; i++) {
            Check.tell(x, SORT, "y:" + (10 + i));
        }
        x.law(2);
        Check.feedText(x, "y:9");
    }

    /** "LAWS (4 at most)", "NONE: .. there are four" */
    private static void fourLaws() {
        CannonPost x = new CannonPost();
        for (int i = 0; i < 4; i++) {
            LOOK.due("law " + i, Check.tell(x, SORT, "y:" + i), i);
            LOOK.due("laws", x.count(2), i + 1);
            LOOK.due("empty tape", x.count(4), 0);
        }
        LOOK.due("a fifth", Check.tell(x, SORT, "y:4"), Check.NONE);
        LOOK.due("four still", x.count(2), 4);
        LOOK.refused("a fifth law", FULL, y -> y.text(SORT), Check.NONE);
        LOOK.due("its fault all the same", Bounds.after(FULL).fault(SORT), Check.NONE);
        LOOK.due("others can be told", Check.tell(Bounds.after(FULL), Check.PLAN, "h1"), 0);
    }

    /** "CLAUSES with ; between, one at least" */
    private static void oneClauseAtLeast() {
        wrong("", 0);
        wrong(";", 0);
        sound("y:1");
        sound("y:1;y:2");
        wrong("y:1;", 4);
        wrong("y:1;;y:2", 4);
        wrong(";y:1", 0);
    }

    /** "a number (1 to 4 digits)", "a fifth one in a LAW" */
    private static void oneToFourDigits() {
        wrong("y:", 2);
        wrong("y:p+", 4);
        for (String digits : new String[] {"0", "9", "00", "10", "999", "0000", "9999"}) {
            sound("y:" + digits);
            sound("y:p=" + digits + "?" + digits);
        }
        wrong("y:00000", 6);
        wrong("y:99999", 6);
        wrong("y:123456", 6);
        wrong("y:p=12345?1", 8);
        wrong("y:p=1?12345", 10);
        wrong("y:[12345", 7);
        wrong("y:1+12345", 8);
        wrong("y:1234 5", 7);
        wrong("y:1 2", 4);
    }

    /** "At most six of ( [ ! within one another", "a seventh of ( [ ! in a LAW at it" */
    private static void sixWithinOneAnother() {
        String[] opened = {"", "(", "!", "((", "!(", "(!", "!!(", "(!(", "!(!(!", "(((((", "!!!!!", "!(!(!("};
        for (String ahead : opened) {
            String closed = ")".repeat(ahead.length() - ahead.replace("(", "").length());
            for (int more = 0; ahead.length() + more <= 7; more++) {
                String open = "y:" + ahead + "[".repeat(more);
                String text = open + "p" + "]".repeat(more) + "=1" + closed + "?1";
                nested(text, ahead.length() + more);
                String behind = "y:" + ahead + "p=" + "[".repeat(more) + "1" + "]".repeat(more) + closed + "?1";
                if (ahead.length() + more <= 6) {
                    sound(behind);
                } else {
                    wrong(behind, 2 + ahead.length() + 2 + more - 1);
                }
            }
            for (int more = 0; ahead.length() + more <= 7; more++) {
                nested("y:" + ahead + "!".repeat(more) + "p=1" + closed + "?1", ahead.length() + more);
                nested("y:" + ahead + "(".repeat(more) + "p=1" + ")".repeat(more) + closed + "?1", ahead.length() + more);
            }
        }
        for (int more = 0; more <= 7; more++) {
            String text = "y:p=1?" + "[".repeat(more) + "1" + "]".repeat(more);
            if (more <= 6) {
                sound(text);
            } else {
                wrong(text, 12);
            }
        }
        wrong("y:[[[[[[ [1", 9);
        wrong("y:(((((( (p=1", 9);
        wrong("y:!!!!!! !p=1", 9);
        wrong("y:((((((!p=1", 8);
        wrong("y:!!!!!!(p=1", 8);
    }

    /** They stand one within the other from the third byte on. */
    private static void nested(String text, int levels) {
        if (levels <= 6) {
            sound(text);
        } else {
            wrong(text, 8);
        }
    }

    /** What is closed again is not within: each part has its own six. */
    private static void nestingOfEachPart() {
        sound("y:[[[[[[1]]]]]]+[[[[[[1]]]]]]*[[[[[[1]]]]]]");
        sound("y:!!!!!!p=1&!!!!!!p=2|!!!!!!p=3?[[[[[[1]]]]]]");
        sound("y:((((((p=1))))))&((((((p=1))))))?1;y:((((((p=1))))))?[[[[[[1]]]]]]");
        wrong("y:[[[[[[1]]]]]]+[[[[[[[1]]]]]]]", 22);
        wrong("y:!!!!!!p=1&!!!!!!!p=2?1", 18);
        wrong("y:((((((p=1))))))?1;y:(((((((p=1)))))))?1", 28);
        wrong("y:((((((p=1&[1]=1))))))?1", 12);
        sound("y:(((((p=1&[1]=1)))))?1");
    }

    private static boolean isDigit(char sign) {
        return sign >= '0' && sign <= '9';
    }

    /** "Blanks (32) may stand between all signs of these, not within numbers" */
    private static void blanks() {
        String text = "y:!(p=12&m<3|n>[4+5])?w*60/h-d;y:123";
        for (int i = 0; i <= text.length(); i++) {
            boolean inside = i > 0 && i < text.length() && isDigit(text.charAt(i - 1)) && isDigit(text.charAt(i));
            LOOK.dueFault(SORT, text.substring(0, i) + " " + text.substring(i), inside ? i + 1 : Check.NONE);
            LOOK.dueFault(SORT, text.substring(0, i) + "   " + text.substring(i), inside ? i + 3 : Check.NONE);
            LOOK.dueFault(SORT, text.substring(0, i) + (char) 9 + text.substring(i), i);
            LOOK.dueFault(SORT, text.substring(0, i) + (char) 160 + text.substring(i), i);
        }
    }

    /** "the length, if it ends too early" */
    private static void endsTooEarly() {
        String text = "y:!(p=1&m<3|n>[4+w])?h*6/d-2;y:p=1?[3]";
        for (int n = 0; n < text.length(); n++) {
            String cut = text.substring(0, n);
            boolean whole = cut.endsWith("?h") || cut.endsWith("?h*6") || cut.endsWith("/d") || cut.endsWith("-2") || cut.endsWith("y:p");
            LOOK.dueFault(SORT, cut, whole ? Check.NONE : n);
            LOOK.dueFault(SORT, cut + "  ", whole ? Check.NONE : n + 2);
        }
        sound(text);
    }

    /** "(A CLAUSE that goes on with ! or ( behind its : has a CONDITION.)" */
    private static void conditionBehindItsColon() {
        wrong("y:!p", 4);
        wrong("y:!p=1", 6);
        wrong("y:!p=1;", 6);
        wrong("y:(p=1)", 7);
        wrong("y:(p=1)+1", 7);
        wrong("y:(p+1)", 6);
        wrong("y:p=1?(p=1)?1", 6);
        wrong("y:p=1?!p=1?1", 6);
        sound("y:!p=1?1");
        sound("y:(p=1)?1");
        sound("y: ( p=1 ) ?1");
    }

    private static void wrongTextChangesNothing() {
        for (String text : new String[] {"", "y", "y:", "y:p=1", "y:[[[[[[[1", "y:12345", "y:1;", "q"}) {
            Bounds.Past fed = Pasts.busyWith(text);
            LOOK.refused("text(1) of '" + text + "'", fed, x -> x.text(SORT), Check.NONE);
        }
    }

    /** A LAW of all 240 bytes, of as many parts as it has room for. */
    private static void asLongAsATape() {
        String clauses = "y:0=1?9;".repeat(29) + "y:0=1?9";
        LOOK.due("bytes", clauses.length(), 239);
        dueWorth(clauses, 0);
        dueWorth(clauses.substring(0, 232) + "y:0=0?31", 31);
        String sum = "y:1" + "+1".repeat(118);
        LOOK.due("bytes", sum.length(), 239);
        dueWorth(sum + "0", 60);
        dueWorth("y:20" + "-p+p".repeat(59), 20);
        dueWorth("y:7=" + "p+p-".repeat(58) + "p?9", 9);
        String nots = "y:" + "!!!!!!p=8|".repeat(23) + "p=7?25";
        LOOK.due("bytes", nots.length(), 238);
        dueWorth(nots, 25);
        LOOK.dueFault(SORT, sum + "+", 240);
        LOOK.dueFault(SORT, sum + "?", 239);
    }

    /** WORTH with POWDER 7, WEIGHT 4, WIND 2, HEIGHT 3, NERVE 6, DAMP 1; it shows as a place if it is 0 to 60. */
    private static int worth(String law) {
        CannonPost x = Check.post("sw2;fh3;fx9;cm4n6");
        x.damp(1);
        if (Check.tell(x, SORT, law) != 0 || !x.law(0)) {
            return Check.HIDDEN;
        }
        return x.lands(0, 0, 7, 0, 1);
    }

    private static void dueWorth(String law, int want) {
        LOOK.due("worth of " + law, worth(law), want);
    }

    private static void same(String sum, String other) {
        dueWorth("y:" + sum + "=" + other + "?1;y:2", 1);
    }

    private static void less(String sum, String other) {
        dueWorth("y:" + sum + "<" + other + "?1;y:2", 1);
    }

    /** "Behind each sign numbers are within -1,000,000 .. 1,000,000": at the bound, one below it, one above it. */
    private static void heldBehindPlus() {
        less(BELOW + "+0", MILLION);
        same(BELOW + "+0+1", MILLION);
        same(BELOW + "+1", MILLION);
        same(BELOW + "+2", MILLION);
        same(MILLION + "+9999", MILLION);
        same(MILLION + "+" + MILLION, MILLION);
        same(MILLION + "+1-1", BELOW);
        less("0-" + MILLION, BELOW_LESS + "+0");
        same(BELOW_LESS + "+[0-1]", "0-" + MILLION);
        same(BELOW_LESS + "+[0-2]", "0-" + MILLION);
        same("[0-1000]*1000+[0-1]+1", BELOW_LESS);
    }

    private static void heldBehindLess() {
        same(BELOW_LESS + "-1", "0-" + MILLION);
        same(BELOW_LESS + "-2", "0-" + MILLION);
        same("0-" + MILLION + "-" + MILLION, "0-" + MILLION);
        same("0-" + MILLION + "-1+1", BELOW_LESS);
        same(BELOW + "-[0-1]", MILLION);
        same(BELOW + "-[0-2]", MILLION);
        same(MILLION + "-[0-1]-1", BELOW);
        dueWorth("y:" + MILLION + "+1-9999*100-50", 50);
        dueWorth("y:" + BELOW + "+0-9999*100-50", 49);
    }

    private static void heldBehindTimes() {
        same("1000*1000", BELOW + "+1");
        same("1000*1001", MILLION);
        same("1001*1000-1", BELOW);
        less("1000*999", MILLION);
        same("9999*9999", MILLION);
        same("9999*9999*9999*9999", MILLION);
        same("1000*1000*1000*1000/1000", "1000");
        same("[0-1000]*1001", "0-" + MILLION);
        same("[0-1000]*1001+1", BELOW_LESS);
        same("[0-9999]*[0-9999]", MILLION);
        same("[0-1000]*1000*[0-1]", MILLION);
        same("1000*1000*2/2", "500*1000");
    }

    private static void heldInBrackets() {
        same("[" + MILLION + "+1]-1", BELOW);
        same("[[9999*9999]]/1000", "1000");
        same("[[0-9999]*9999]/1000", "0-1000");
    }

    private static void heldInConditions() {
        same("9999*9999", "9999*101+0");
        dueWorth("y:9999*9999>" + MILLION + "?1;y:2", 2);
        dueWorth("y:9999*9999<" + MILLION + "?1;y:2", 2);
        dueWorth("y:" + MILLION + "+1>" + BELOW + "?1;y:2", 1);
        dueWorth("y:[0-9999]*9999<[0-1000]*1000?1;y:2", 2);
    }

    /** "/ cuts towards 0" */
    private static void cutTowardsZero() {
        int[] numbers = {0, 1, 2, 3, 4, 5, 6, 7};
        for (int number : numbers) {
            dueWorth("y:20+" + number + "/3", 20 + number / 3);
            dueWorth("y:20+[0-" + number + "]/3", 20 - number / 3);
            dueWorth("y:20+" + number + "/[0-3]", 20 - number / 3);
            dueWorth("y:20+[0-" + number + "]/[0-3]", 20 + number / 3);
        }
        same("0-[1/2]", "0");
        same("[0-1]/2", "0");
        same("[0-1000]*1000/9999", "0-100");
    }

    /** "by 0 gives 0"; by 1 and by -1 it is the number, or less it. */
    private static void byZero() {
        dueWorth("y:20+7/0", 20);
        dueWorth("y:20+7/1", 27);
        dueWorth("y:20+7/[0-1]", 13);
        dueWorth("y:20+0/0", 20);
        dueWorth("y:20+[0-7]/0", 20);
        dueWorth("y:20+7/0*5", 20);
        dueWorth("y:20+7/[3-3]+1", 21);
        dueWorth("y:20+9999*9999/0", 20);
        dueWorth("y:7/0=0?1;y:2", 1);
    }

    private static void comparisons() {
        for (int v = 4; v <= 6; v++) {
            dueWorth("y:" + v + "=5?1;y:2", v == 5 ? 1 : 2);
            dueWorth("y:" + v + "<5?1;y:2", v < 5 ? 1 : 2);
            dueWorth("y:" + v + ">5?1;y:2", v > 5 ? 1 : 2);
            dueWorth("y:0-" + v + "=0-5?1;y:2", v == 5 ? 1 : 2);
            dueWorth("y:0-" + v + "<0-5?1;y:2", v > 5 ? 1 : 2);
            dueWorth("y:0-" + v + ">0-5?1;y:2", v < 5 ? 1 : 2);
        }
    }

    /** All of three UNITS joined by & and |, with ! ahead of one and ( ) about two. */
    private static void joinedTruths() {
        for (int bits = 0; bits < 8; bits++) {
            boolean a = (bits & 1) != 0;
            boolean b = (bits & 2) != 0;
            boolean c = (bits & 4) != 0;
            String[] is = {a ? "1=1" : "1=2", b ? "2=2" : "2=3", c ? "3=3" : "3=4"};
            holds(is[0] + "&" + is[1] + "&" + is[2], a && b && c);
            holds(is[0] + "|" + is[1] + "|" + is[2], a || b || c);
            holds(is[0] + "&" + is[1] + "|" + is[2], a && b || c);
            holds(is[0] + "|" + is[1] + "&" + is[2], a || b && c);
            holds("(" + is[0] + "|" + is[1] + ")&" + is[2], (a || b) && c);
            holds(is[0] + "&(" + is[1] + "|" + is[2] + ")", a && (b || c));
            holds("!" + is[0] + "&" + is[1] + "|" + is[2], !a && b || c);
            holds("!(" + is[0] + "&" + is[1] + ")|" + is[2], !(a && b) || c);
            holds(is[0] + "|!" + is[1] + "&!" + is[2], a || !b && !c);
            holds("!!" + is[0] + "&!(" + is[1] + "|!" + is[2] + ")", a && !(b || !c));
            String[] above = {a ? "9>1" : "1>9", b ? "1<9" : "9<1", c ? "9=9" : "9=1"};
            holds(above[0] + "&" + above[1] + "&" + above[2], a && b && c);
            holds(above[2] + "|" + above[1] + "&" + above[0], c || b && a);
            holds("!" + above[0] + "&!" + above[1], !a && !b);
        }
    }

    private static void holds(String condition, boolean want) {
        dueWorth("y:" + condition + "?1;y:2", want ? 1 : 2);
    }

    /** "the SUM of the first CLAUSE whose CONDITION holds (or has none)" */
    private static void firstClauseThatHolds() {
        dueWorth("y:1=1?3;y:1=1?4;y:5", 3);
        dueWorth("y:1=2?3;y:1=1?4;y:5", 4);
        dueWorth("y:1=2?3;y:1=2?4;y:5", 5);
        dueWorth("y:3;y:1=1?4", 3);
        dueWorth("y:1=2?3;y:4;y:5", 4);
    }

    /** "0 without" */
    private static void noneHolds() {
        dueWorth("y:1=2?3", 0);
        dueWorth("y:1=2?3;y:1=2?4;y:1=2?5", 0);
    }

    /** "WORTH by the LAW that holds, held within 0 .. 60" */
    private static void reachWithinSixty() {
        dueWorth("y:0-2", 0);
        dueWorth("y:0-1", 0);
        dueWorth("y:0", 0);
        dueWorth("y:1", 1);
        dueWorth("y:59", 59);
        dueWorth("y:60", 60);
        dueWorth("y:61", 60);
        dueWorth("y:9999*9999", 60);
        dueWorth("y:[0-9999]*9999", 0);
    }

    /** "none at first: 6 times POWDER by WEIGHT, cut, and HEIGHT, and WIND, or less it .. ; less DAMP", held as well. */
    private static void reachWithoutALaw() {
        CannonPost x = Check.post("sw0;fx20;fx30h9;cm1;cm2;cm9;cm6");
        LOOK.due("54", x.lands(0, 0, 9, 0, 1), 74);
        LOOK.due("60", x.lands(0, 0, 10, 0, 1), 80);
        LOOK.due("66", x.lands(0, 0, 11, 0, 1), 80);
        LOOK.due("60 back", x.lands(0, 0, 11, 1, 1), -40);
        LOOK.due("51 and 9", x.lands(1, 1, 17, 0, 1), 90);
        LOOK.due("54 and 9", x.lands(1, 1, 18, 0, 1), 90);
        LOOK.due("48 and 9", x.lands(1, 1, 16, 0, 1), 87);
        LOOK.due("6 by 9", x.lands(2, 0, 1, 0, 1), 20);
        LOOK.due("12 by 9", x.lands(2, 0, 2, 0, 1), 21);
        x.wind(4, 1);
        LOOK.due("3 less 4", x.lands(3, 0, 3, 0, 1), 20);
        LOOK.due("4 less 4", x.lands(3, 0, 4, 0, 1), 20);
        LOOK.due("5 less 4", x.lands(3, 0, 5, 0, 1), 21);
        LOOK.due("5 and 4", x.lands(3, 0, 5, 1, 1), 11);
        x.damp(2);
        LOOK.due("6 less 4 less 2", x.lands(3, 0, 6, 0, 1), 20);
        LOOK.due("7 less 4 less 2", x.lands(3, 0, 7, 0, 1), 21);
        x.wind(0, 0);
        x.damp(9);
        LOOK.due("8 less 9", x.lands(3, 0, 8, 0, 1), 20);
        LOOK.due("9 less 9", x.lands(3, 0, 9, 0, 1), 20);
        LOOK.due("10 less 9", x.lands(3, 0, 10, 0, 1), 21);
    }

    /** "letters: p .. m .. w .. h .. n .. d": each at its least and at its most. */
    private static void lettersAtTheirBounds() {
        for (int v = 0; v <= 9; v++) {
            dueLetters("pmwh", v, new int[] {7, Math.max(1, v), v, v});
            dueLetters("nd", v, new int[] {v, v});
        }
        CannonPost powder = Check.post("fx20;f;c");
        Check.tell(powder, SORT, "y:p");
        powder.law(0);
        for (int p = 1; p <= 20; p++) {
            LOOK.due("p of " + p, powder.lands(0, 0, p, 0, 1), 20 + p);
        }
    }

    private static void dueLetters(String letters, int v, int[] want) {
        CannonPost x = Check.post("sw" + v + ";fx30h5;fx20h" + v + ";cm5n5;cm" + Math.max(1, v) + "n" + v);
        x.damp(v);
        for (int law = 0; law < letters.length(); law++) {
            char letter = letters.charAt(law);
            Check.tell(x, SORT, "y:10+" + letter);
            x.law(law);
            LOOK.due(letter + " of " + v, x.lands(1, 1, 7, 0, 1), 30 + want[law]);
            LOOK.due(letter + " of " + v + ", back", x.lands(1, 1, 7, 1, 1), 10 - (letter == 'w' ? -v : want[law]));
        }
    }

    /** "The LAW that holds (NONE: none). False: no such one." */
    private static void whichHolds() {
        LOOK.within("law", BUSY, Check.NONE, Pasts.LAWS - 1, (x, law) -> Bounds.asInt(x.law(law)), Bounds.FALSE);
        LOOK.within("law of four", FULL, Check.NONE, 3, (x, law) -> Bounds.asInt(x.law(law)), Bounds.FALSE);
        for (int law = Check.NONE; law <= 3; law++) {
            CannonPost x = Bounds.after(FULL);
            LOOK.due("law(" + law + ")", x.law(law), true);
            LOOK.due("count(5)", x.count(5), law);
            LOOK.due("law(" + law + ") again", x.law(law), true);
            LOOK.due("count(5) still", x.count(5), law);
            LOOK.due("where one comes to", x.lands(0, 0, 1, 1, 1), law == Check.NONE ? -3 : 2 - 10 - law);
            LOOK.due("no act", x.count(13), 0);
        }
        LOOK.unchanged("the law that holds", BUSY, x -> Bounds.asInt(x.law(0)));
    }

    private static void noneCanHold() {
        LOOK.within("law of none", NEW, Check.NONE, Check.NONE, (x, law) -> Bounds.asInt(x.law(law)), Bounds.FALSE);
    }
}
