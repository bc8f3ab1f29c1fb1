/** The bounds of what is guessed and played (Terms 3, promises 30 to 32 and 35 to 39). */
final class GuessBoundsTest {
    private static final Bounds LOOK = new Bounds();
    private static final Bounds.Past BUSY = Pasts::busy;
    private static final Bounds.Past LEAGUE = Pasts::league;

    public static void main(String[] args) {
        seen();
        seenTenAtMost();
        winds();
        windsOfEitherWay();
        windsThatFit();
        asks();
        asksWhenNoneFits();
        asksTheLeast();
        asksAtTheFurthest();
        games();
        gamesCut();
        rests();
        restsOfAll();
        faces();
        facesTwelveAtMost();
        meant();
        meantCut();
        following();
        followingOfAll();
        questionsChangeNothing();
        LOOK.close();
    }

    // ---- SEEN, WINDS, ASK

    /** "a PLACE (-60 .. 100)", "NONE: no such ones, out of bounds" */
    private static void seen() {
        LOOK.within("seen, carrier", BUSY, 0, 2, (x, c) -> x.seen(c, 0, 1, 0, 0), Check.NONE);
        LOOK.within("seen, fort", BUSY, 0, 2, (x, f) -> x.seen(0, f, 1, 0, 0), Check.NONE);
        LOOK.within("seen, powder", BUSY, 1, 20, (x, p) -> x.seen(0, 0, p, 0, 0), Check.NONE);
        LOOK.within("seen, way", BUSY, 0, 1, (x, way) -> x.seen(0, 0, 1, way, 0), Check.NONE);
        LOOK.within("seen, place", BUSY, -60, 100, (x, place) -> x.seen(0, 0, 1, 0, place), Check.NONE);
        CannonPost x = Check.post("fx40;f;c");
        Check.tell(x, Check.LAW, "y:60");
        x.law(0);
        LOOK.due("the furthest place", x.seen(0, 0, 1, 0, 100), 1);
        LOOK.due("fits all", x.winds(-1), 19);
        LOOK.due("the least place", x.seen(0, 1, 1, 1, -60), 2);
        LOOK.due("fits all", x.winds(-1), 19);
        LOOK.due("one off", x.seen(0, 0, 1, 0, 99), 3);
        LOOK.due("fits none", x.winds(-1), 0);
    }

    private static Bounds.Past seenTimes(int n) {
        return x -> {
            Pasts.league(x);
            for (int i = 0; i < n; i++) {
                x.seen(0, 0, 1, 0, i < 9 ? 3 : 4);
            }
        };
    }

    /** "SEEN (10 at most)", "NONE: .. there are ten" */
    private static void seenTenAtMost() {
        for (int n = 0; n <= 9; n++) {
            CannonPost x = Bounds.after(seenTimes(n));
            LOOK.due("seen " + (n + 1), x.seen(0, 0, 1, 0, 5), n + 1);
            LOOK.due("count(10)", x.count(10), n + 1);
            LOOK.due("no act", x.count(13), 0);
        }
        LOOK.refused("an eleventh", seenTimes(10), x -> x.seen(0, 0, 1, 0, 5), Check.NONE);
        LOOK.due("the ninth fits", Bounds.after(seenTimes(9)).winds(-1) > 0, true);
        LOOK.due("the tenth counts, too", Bounds.after(seenTimes(10)).winds(-1), 0);
    }

    /** "how many (i NONE), the i-th. NONE: no such one" */
    private static void winds() {
        LOOK.within("winds, or how many", BUSY, -1, 8, (x, i) -> x.winds(i), Check.NONE);
        LOOK.within("winds of all, or how many", LEAGUE, -1, 18, (x, i) -> x.winds(i), Check.NONE);
        LOOK.due("how many", Bounds.after(BUSY).winds(-1), 9);
        LOOK.due("how many of all", Bounds.after(LEAGUE).winds(-1), 19);
        LOOK.refused("the first of none", seenTimes(10), x -> x.winds(0), Check.NONE);
        LOOK.due("how many of none", Bounds.after(seenTimes(10)).winds(-1), 0);
    }

    /** "10 times its way and WIND 0 .. 9 (for the way 1: 1 .. 9)", "rising" */
    private static void windsOfEitherWay() {
        CannonPost x = Bounds.after(LEAGUE);
        for (int i = 0; i <= 18; i++) {
            LOOK.due("winds(" + i + ")", x.winds(i), i <= 9 ? i : i + 1);
        }
    }

    /** Each WIND alone, as it was SEEN by either way. */
    private static void windsThatFit() {
        for (int code = 0; code <= 19; code++) {
            int along = code < 10 ? code : 10 - code;
            for (int way = 0; way <= 1; way++) {
                CannonPost x = Check.post("fx20;f;cm6");
                x.damp(9);
                int reach = 10 + (way == 0 ? along : -along);
                x.seen(0, 0, 10, way, way == 0 ? 20 + reach : 20 - reach);
                LOOK.due("one fits", x.winds(-1), 1);
                LOOK.due("it is that", x.winds(0), code == 10 ? 0 : code);
                LOOK.due("no other", x.winds(1), Check.NONE);
            }
        }
        for (int c = 0; c <= 4; c++) {
            CannonPost x = Check.post("fx20;f;cm6;cm3;cm2;cm1;cm9");
            x.seen(c, 0, 3, 0, 20 + 18 / new int[] {6, 3, 2, 1, 9}[c] + 4);
            LOOK.due("one fits what was seen of " + c, x.winds(-1), 1);
            LOOK.due("it is 4", x.winds(0), 4);
        }
        CannonPost off = Check.post("fx20;f;cm6");
        off.seen(0, 0, 10, 0, 40);
        LOOK.due("one beyond the strongest", off.winds(-1), 0);
        off = Check.post("fx20;f;cm6");
        off.seen(0, 0, 10, 0, 20);
        LOOK.due("one beyond the strongest against it", off.winds(-1), 0);
    }

    /** "NONE: no WIND fits, no such ones." */
    private static void asks() {
        LOOK.within("ask, carrier", BUSY, 0, 2, (x, c) -> x.ask(c, 0), Check.NONE);
        LOOK.within("ask, fort", BUSY, 0, 2, (x, f) -> x.ask(0, f), Check.NONE);
    }

    private static void asksWhenNoneFits() {
        LOOK.refused("ask when no wind fits", seenTimes(10), x -> x.ask(0, 0), Check.NONE);
        CannonPost one = Check.post("fx20;f;cm6");
        one.seen(0, 0, 10, 0, 33);
        LOOK.due("one fits", one.winds(-1), 1);
        LOOK.due("all tell as much: the least", one.ask(0, 0), 1);
    }

    /** "100 times a way and POWDER by which ..", "(of several the least)": POWDER 1 and 20, by way 0 and by way 1. */
    private static void asksTheLeast() {
        String[] laws = {"y:p=1?20+w;y:30", "y:p=20?20+w;y:30", "y:20+w", "y:p>20|p<1?20+w;y:30"};
        int[] want = {1, 20, 1, 1};
        for (int i = 0; i < laws.length; i++) {
            CannonPost x = Check.post("fx20;f;c");
            Check.tell(x, Check.LAW, laws[i]);
            x.law(0);
            LOOK.due("ask by " + laws[i], x.ask(0, 0), want[i]);
        }
        // from the height WINDS by way 0 and calm are left, which come to unlike PLACES against the SHOT alone
        for (int powder : new int[] {1, 20}) {
            CannonPost x = Check.post("fx20h1;f;c");
            Check.tell(x, Check.LAW, "y:h=1&w<0?0;y:h=1?9;y:p=" + powder + "&w<0?30+w;y:40");
            x.law(0);
            x.seen(0, 0, 1, 0, 29);
            LOOK.due("ten are left", x.winds(-1), 10);
            LOOK.due("ask by the other way", x.ask(0, 1), 100 + powder);
        }
    }

    /** All WINDS bring it to the furthest place, or to the nearest; or but one does. */
    private static void asksAtTheFurthest() {
        for (String law : new String[] {"y:60", "y:0", "y:9999", "y:0-1"}) {
            CannonPost x = Check.post("fx20;f;c");
            Check.tell(x, Check.LAW, law);
            x.law(0);
            LOOK.due("nothing tells them apart by " + law, x.ask(0, 0), 1);
        }
        // by way 1 the calm is one of ten, by way 0 one of eleven
        CannonPost x = Check.post("fx20;f;c");
        Check.tell(x, Check.LAW, "y:p=3&w<0?60;y:p=4&w=0?60;y:0");
        x.law(0);
        LOOK.due("half of them are the fewest", x.ask(0, 0), 3);
        CannonPost against = Check.post("fx20;f;c");
        Check.tell(against, Check.LAW, "y:w<0?30+w;y:40");
        against.law(0);
        LOOK.due("nine apart by either way", against.ask(0, 0), 1);
        CannonPost two = Check.post("fx20h1;f;c");
        Check.tell(two, Check.LAW, "y:h=1?20+w/8;y:p=7&w>8?60;y:p=5?20;y:30");
        two.law(0);
        two.seen(0, 0, 1, 0, 41);
        LOOK.due("8 and 9 are left", two.winds(-1), 2);
        LOOK.due("one to the furthest, one not", two.ask(0, 1), 7);
    }

    // ---- GAME, RESTS

    /** "HIDDEN: no such ones, alike, out of bounds." */
    private static void games() {
        for (int w = 0; w <= 1; w++) {
            int what = w;
            LOOK.within("game, one", BUSY, 1, 2, (x, c) -> x.game(c, 0, 5, 1, 0, what), Check.HIDDEN);
            LOOK.within("game, one below the last", BUSY, 0, 1, (x, c) -> x.game(c, 2, 5, 1, 0, what), Check.HIDDEN);
            LOOK.within("game, other", BUSY, 1, 2, (x, c) -> x.game(0, c, 5, 1, 0, what), Check.HIDDEN);
            LOOK.within("game, other below the last", BUSY, 0, 1, (x, c) -> x.game(2, c, 5, 1, 0, what), Check.HIDDEN);
            LOOK.within("game, p", BUSY, 0, 20, (x, p) -> x.game(0, 1, p, 1, 0, what), Check.HIDDEN);
            LOOK.within("game, x", BUSY, 0, 1, (x, shot) -> x.game(0, 1, 5, shot, 0, what), Check.HIDDEN);
            LOOK.within("game, y", BUSY, 0, 1, (x, shot) -> x.game(0, 1, 5, 1, shot, what), Check.HIDDEN);
            for (int c = 0; c <= 2; c++) {
                int alike = c;
                LOOK.refused("game of one alone", BUSY, x -> x.game(alike, alike, 5, 1, 0, what), Check.HIDDEN);
            }
        }
        LOOK.within("game, what", BUSY, 0, 1, (x, what) -> x.game(0, 1, 5, 1, 0, what), Check.HIDDEN);
    }

    private static int has(int weight, int p, boolean itself, boolean another) {
        if (!itself) {
            return another ? 6 : 0;
        }
        return 6 - p / 2 - weight / 3 - (another ? 2 : 0);
    }

    /** "6, if anybody is SHOT, less p by 2, cut, and the WEIGHT by 3, cut, if it is itself, less 2 more, if both are" */
    private static void gamesCut() {
        for (int weight = 1; weight <= 9; weight++) {
            int other = 10 - weight;
            CannonPost x = Check.post("f;fx1;cm" + weight + ";cm" + other);
            for (int p : new int[] {0, 1, 2, 3, 19, 20}) {
                for (int shots = 0; shots <= 3; shots++) {
                    boolean one = shots >= 2;
                    boolean two = shots % 2 == 1;
                    LOOK.due("the first has", x.game(0, 1, p, shots / 2, shots % 2, 0), has(weight, p, one, two));
                    LOOK.due("the second has", x.game(0, 1, p, shots / 2, shots % 2, 1), has(other, p, two, one));
                }
            }
        }
    }

    /** "how many (i NONE), the i-th. NONE: no such one, as for GAME." */
    private static void rests() {
        LOOK.within("rests, one", BUSY, 1, 2, (x, c) -> x.rests(c, 0, 5, -1), Check.NONE);
        LOOK.within("rests, other", BUSY, 0, 1, (x, c) -> x.rests(2, c, 5, -1), Check.NONE);
        LOOK.within("rests, p", BUSY, 0, 20, (x, p) -> x.rests(0, 1, p, -1), Check.NONE);
        LOOK.within("rests, p", BUSY, 0, 20, (x, p) -> x.rests(0, 1, p, 0), Check.NONE);
        for (int c = 0; c <= 2; c++) {
            int alike = c;
            LOOK.refused("rests of one alone", BUSY, x -> x.rests(alike, alike, 5, -1), Check.NONE);
        }
    }

    /** "10 times x and y by which neither has more by the other of its own", "(rising)", for all weights and p. */
    private static void restsOfAll() {
        for (int pair = 0; pair < 81; pair++) {
            int weight = pair / 9 + 1;
            int other = pair % 9 + 1;
            String league = "f;fx1;cm" + weight + ";cm" + other;
            for (int p = 0; p <= 20; p++) {
                int found = 0;
                CannonPost x = Check.post(league);
                for (int shots = 0; shots <= 3; shots++) {
                    boolean one = shots >= 2;
                    boolean two = shots % 2 == 1;
                    if (has(weight, p, one, two) >= has(weight, p, !one, two) && has(other, p, two, one) >= has(other, p, !two, one)) {
                        LOOK.due(league + ", rest " + found + " for " + p, x.rests(0, 1, p, found), 10 * (shots / 2) + shots % 2);
                        found++;
                    }
                }
                LOOK.due(league + ", how many for " + p, x.rests(0, 1, p, -1), found);
                LOOK.due("no such one", x.rests(0, 1, p, found), Check.NONE);
                LOOK.due("no such one", x.rests(0, 1, p, -2), Check.NONE);
            }
        }
        LOOK.within("rests, i", BUSY, -1, Bounds.after(BUSY).rests(0, 1, 5, -1) - 1, (x, i) -> x.rests(0, 1, 5, i), Check.NONE);
    }

    // ---- FACES, FOR, NEXT

    /** "NONE: no such FORT" */
    private static void faces() {
        LOOK.within("face, lit", BUSY, 0, 2, (x, f) -> x.face(f, true), Check.NONE);
        LOOK.within("face, not lit", BUSY, 0, 2, (x, f) -> x.face(f, false), Check.NONE);
    }

    private static Bounds.Past facesOf(int n) {
        return x -> {
            Pasts.league(x);
            for (int i = 0; i < n; i++) {
                x.face(i % 2, i != 11);
            }
        };
    }

    /** "FACES (12 at most)", "NONE: .. there are 12" */
    private static void facesTwelveAtMost() {
        for (int n = 0; n <= 11; n++) {
            CannonPost x = Bounds.after(facesOf(n));
            LOOK.due("face " + (n + 1), x.face(1, false), n + 1);
            LOOK.due("count(11)", x.count(11), n + 1);
            LOOK.due("no act", x.count(13), 0);
        }
        LOOK.refused("a thirteenth, lit", facesOf(12), x -> x.face(2, true), Check.NONE);
        LOOK.refused("a thirteenth, not lit", facesOf(12), x -> x.face(0, false), Check.NONE);
        LOOK.due("the twelfth counts, too", Bounds.after(facesOf(11)).meant(0) != Bounds.after(facesOf(12)).meant(0), true);
    }

    /** "NONE: no such FORT." */
    private static void meant() {
        LOOK.within("meant", BUSY, 0, 2, (x, f) -> x.meant(f), Check.NONE);
        Bounds.Past eight = x -> Check.tell(x, Check.LEAGUE, "f;fx1;fx2;fx3;fx4;fx5;fx6;fx7;c");
        LOOK.within("meant of eight", eight, 0, 7, (x, f) -> x.meant(f), Check.NONE);
        for (int forts = 2; forts <= 8; forts++) {
            StringBuilder league = new StringBuilder("c");
            for (int f = 0; f < forts; f++) {
                league.append(";fx").append(f);
            }
            LOOK.due("all alike of " + forts, Check.post(league.toString()).meant(forts - 1), 1000000 / forts);
        }
    }

    /** "(.. products, cut; 12 FACES at most)": all twelve of one FORT, lit or not. */
    private static void meantCut() {
        for (int n = 0; n <= 12; n++) {
            CannonPost lit = Check.post("f;fx1;fx2;c");
            CannonPost dark = Check.post("f;fx1;fx2;c");
            long there = 1;
            long notThere = 1;
            long elsewhere = 1;
            long notElsewhere = 1;
            for (int i = 0; i < n; i++) {
                lit.face(1, true);
                dark.face(1, false);
                there *= 8;
                elsewhere *= 3;
                notThere *= 2;
                notElsewhere *= 7;
            }
            LOOK.due("for it, lit " + n, lit.meant(1), 1000000 * there / (there + 2 * elsewhere));
            LOOK.due("for another, lit " + n, lit.meant(0), 1000000 * elsewhere / (there + 2 * elsewhere));
            LOOK.due("for it, not lit " + n, dark.meant(1), 1000000 * notThere / (notThere + 2 * notElsewhere));
            LOOK.due("for another, not lit " + n, dark.meant(2), 1000000 * notElsewhere / (notThere + 2 * notElsewhere));
        }
        CannonPost all = Check.post("f;fx1;fx2;fx3;fx4;fx5;fx6;fx7;c");
        for (int i = 0; i < 12; i++) {
            all.face(7, false);
        }
        LOOK.due("twelve that did not", all.meant(7), 0);
        LOOK.due("one of the seven others", all.meant(0), 142857);
    }

    /** "NONE: FACES were told of all" */
    private static void following() {
        CannonPost x = Bounds.after(LEAGUE);
        LOOK.due("of none told", x.following(), 0);
        x.face(0, false);
        LOOK.due("of one told", x.following(), 1);
        x.face(1, true);
        LOOK.due("of two told", x.following(), 2);
        x.face(0, true);
        LOOK.due("of two told, one twice", x.following(), 2);
        x.face(2, true);
        LOOK.due("of all told", x.following(), Check.NONE);
        Bounds.Past all = y -> {
            Pasts.league(y);
            y.face(0, true);
            y.face(1, true);
            y.face(2, true);
        };
        LOOK.refused("of all told", all, CannonPost::following, Check.NONE);
    }

    private static void followingOfAll() {
        for (int told = 0; told <= 255; told++) {
            CannonPost x = Check.post("f;fx1;fx2;fx3;fx4;fx5;fx6;fx7;c");
            for (int f = 0; f <= 7; f++) {
                if ((told >> f & 1) != 0) {
                    x.face(f, f % 2 == 0);
                }
            }
            LOOK.due("next where " + told + " were told", x.following(), told == 255 ? Check.NONE : Integer.numberOfTrailingZeros(~told));
        }
    }

    private static void questionsChangeNothing() {
        LOOK.unchanged("winds", BUSY, x -> x.winds(-1));
        LOOK.unchanged("winds(0)", BUSY, x -> x.winds(0));
        LOOK.unchanged("ask", BUSY, x -> x.ask(0, 0));
        LOOK.unchanged("game", BUSY, x -> x.game(0, 1, 5, 1, 1, 0));
        LOOK.unchanged("rests", BUSY, x -> x.rests(0, 1, 5, -1));
        LOOK.unchanged("meant", BUSY, x -> x.meant(0));
        LOOK.unchanged("following", BUSY, CannonPost::following);
    }
}
