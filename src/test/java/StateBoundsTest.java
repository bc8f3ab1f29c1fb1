/** The bounds of what can be asked of a LEAGUE as it is (promises 6 to 8, 40 to 45 and 50). */
final class StateBoundsTest {
    private static final Bounds LOOK = new Bounds();
    private static final Bounds.Past BUSY = Pasts::busy;
    private static final Bounds.Past LEAST = x -> Check.tell(x, Check.LEAGUE, "f;fx1;c");
    private static final Bounds.Past MOST = x -> Check.tell(x, Check.LEAGUE,
            "sw9d1p99b6;fx40h9y9;fx39;fx38;fx37;fx36;fx35;fx34;fx33h9y0;cm9n9f7;c;c;c;cm1n0");

    public static void main(String[] args) {
        rules();
        forts();
        carriers();
        stock();
        stockOfWhatThereIs();
        hays();
        haysOfEachFort();
        haysBehindTheLastHour();
        best();
        highest();
        nearest();
        free();
        home();
        known();
        counts();
        countsAtTheirMost();
        LOOK.close();
    }

    /** "NONE: no LEAGUE, no such what." */
    private static void rules() {
        for (Bounds.Past past : new Bounds.Past[] {BUSY, LEAST, MOST}) {
            LOOK.within("rule", past, 0, 4, (x, what) -> x.rule(what), Check.NONE);
        }
        dueAll("rule", Bounds.after(MOST)::rule, 9, 1, 99, 6, 0);
        dueAll("rule", Bounds.after(BUSY)::rule, 3, 0, 33, 2, 1);
    }

    private static void dueAll(String name, java.util.function.IntUnaryOperator call, int... want) {
        for (int i = 0; i < want.length; i++) {
            LOOK.due(name + "(" + i + ")", call.applyAsInt(i), want[i]);
        }
    }

    /** "NONE: no such ones." */
    private static void forts() {
        for (int w = 0; w <= 3; w++) {
            int what = w;
            LOOK.within("fort of three, " + w, BUSY, 0, 2, (x, f) -> x.fort(f, what), Check.NONE);
            LOOK.within("fort of two, " + w, LEAST, 0, 1, (x, f) -> x.fort(f, what), Check.NONE);
            LOOK.within("fort of eight, " + w, MOST, 0, 7, (x, f) -> x.fort(f, what), Check.NONE);
        }
        for (int f = 0; f <= 2; f++) {
            int fort = f;
            LOOK.within("what of fort " + f, BUSY, 0, 3, (x, what) -> x.fort(fort, what), Check.NONE);
        }
        CannonPost x = Bounds.after(MOST);
        dueAll("fort(0, ..)", what -> x.fort(0, what), 40, 9, 9, 0);
        dueAll("fort(7, ..)", what -> x.fort(7, what), 33, 9, 0, 0);
    }

    /** "NoSuchElementException: no such ones." */
    private static void carriers() {
        for (int w = 0; w <= 4; w++) {
            int what = w;
            LOOK.within("carrier of three, " + w, BUSY, 0, 2, (x, c) -> Bounds.carrierOf(x, c, what), Bounds.THROWN);
            LOOK.within("carrier of one, " + w, LEAST, 0, 0, (x, c) -> Bounds.carrierOf(x, c, what), Bounds.THROWN);
            LOOK.within("carrier of five, " + w, MOST, 0, 4, (x, c) -> Bounds.carrierOf(x, c, what), Bounds.THROWN);
        }
        for (int c = 0; c <= 2; c++) {
            int carrier = c;
            LOOK.within("what of carrier " + c, BUSY, 0, 4, (x, what) -> Bounds.carrierOf(x, carrier, what), Bounds.THROWN);
        }
        CannonPost x = Bounds.after(MOST);
        dueAll("carrier(0, ..)", what -> x.carrier(0, what), 9, 9, 7, 0, 0);
        dueAll("carrier(4, ..)", what -> x.carrier(4, what), 1, 0, 0, 0, 0);
    }

    /** "NONE: no LEAGUE, out of bounds": 1 .. 20 */
    private static void stock() {
        for (Bounds.Past past : new Bounds.Past[] {BUSY, LEAST, MOST}) {
            LOOK.within("stock", past, 1, 20, (x, p) -> x.stock(p), Check.NONE);
        }
    }

    /** "how many SHOTS of p POWDER there are in all POWDER" */
    private static void stockOfWhatThereIs() {
        for (int there : new int[] {0, 1, 2, 19, 20, 21, 40, 98, 99}) {
            CannonPost x = Check.post("sp" + there + ";f;fx1;c");
            for (int p = 1; p <= 20; p++) {
                int shots = 0;
                while ((shots + 1) * p <= there) {
                    shots++;
                }
                LOOK.due("stock(" + p + ") of " + there, x.stock(p), shots);
            }
        }
    }

    /** "NONE: .. out of bounds": 0 .. 9 */
    private static void hays() {
        for (Bounds.Past past : new Bounds.Past[] {BUSY, LEAST, MOST, Pasts::lastHour}) {
            LOOK.within("hays", past, 0, 9, (x, n) -> x.hays(n), Check.NONE);
        }
    }

    /** "in how many HOURS (0 .. 60) each FORT has n (0 .. 9) HAY or more first" */
    private static void haysOfEachFort() {
        for (int hay = 0; hay <= 9; hay++) {
            for (int hour = 0; hour <= 5; hour++) {
                CannonPost x = Check.post("fy9;fx1y" + hay + ";fx2y9;c");
                if (hour > 0) {
                    x.hours(hour);
                }
                int least = Math.min(9, hay + hour / 4);
                for (int n = 0; n <= 9; n++) {
                    int want = n <= least ? 0 : 4 * (n - least) - hour % 4;
                    LOOK.due("hays(" + n + ") of " + hay + " at " + hour, x.hays(n), want);
                }
            }
        }
        for (int least = 0; least <= 7; least++) {
            StringBuilder league = new StringBuilder("c");
            for (int f = 0; f <= 7; f++) {
                league.append(";fx").append(f).append(f == least ? "y3" : "y5");
            }
            CannonPost each = Check.post(league.toString());
            LOOK.due("of all but " + least, each.hays(5), 8);
            LOOK.due("of that, too", each.hays(3), 0);
        }
        CannonPost x = Check.post("fy0;fx1y0;c");
        LOOK.due("as long as it can be", x.hays(9), 36);
        x.hours(35);
        LOOK.due("one hour ahead", x.hays(9), 1);
        x.hours(1);
        LOOK.due("now", x.hays(9), 0);
    }

    /** "HOURS go on behind 9,999" */
    private static void haysBehindTheLastHour() {
        CannonPost x = new CannonPost();
        Pasts.hoursAhead(x, 0);
        LOOK.due("all hay is there", x.hays(9), 0);
        LOOK.due("shoot", x.shoot(1, 4, 0, 0), 2);
        LOOK.due("the hour behind 9,999 can be divided", x.hays(9), 1);
        LOOK.due("shoot back", x.shoot(1, 4, 1, 0), 0);
        LOOK.due("in the other fort, too", x.hays(9), 1);
        LOOK.due("8 is there", x.hays(8), 0);
    }

    /** "NONE: no LEAGUE, no such what." */
    private static void best() {
        for (int place : new int[] {Integer.MIN_VALUE, -1, 0, 40, 41, Integer.MAX_VALUE}) {
            LOOK.within("best", BUSY, 0, 1, (x, what) -> x.best(what, place), Check.NONE);
        }
    }

    /** "the FORT with the most HEIGHT .. (of several the lowest ..)" */
    private static void highest() {
        LOOK.due("all alike", Bounds.after(LEAST).best(0, 0), 0);
        LOOK.due("two of nine", Bounds.after(MOST).best(0, 0), 0);
        LOOK.due("the last by one", Check.post("fh8;fx1h8;fx2h9;c").best(0, 0), 2);
        LOOK.due("the first by one", Check.post("fh9;fx1h8;fx2h8;c").best(0, 0), 0);
        LOOK.due("the second of two", Check.post("fh8;fx1h9;fx2h9;c").best(0, 0), 1);
        for (int place : new int[] {Integer.MIN_VALUE, -1, 0, 2, 41, Integer.MAX_VALUE}) {
            LOOK.due("a place does not matter", Check.post("fh8;fx1h8;fx2h9;c").best(0, place), 2);
        }
    }

    /** "NEAREST to a PLACE: the FORT (of several the lowest ..)" */
    private static void nearest() {
        CannonPost x = Check.post("fx20;fx10;fx30;c");
        int[] places = {Integer.MIN_VALUE, Integer.MIN_VALUE + 19, -1, 14, 15, 16, 24, 25, 26, 100, Integer.MAX_VALUE - 30, Integer.MAX_VALUE};
        int[] want = {1, 1, 1, 1, 0, 0, 0, 0, 2, 2, 2, 2};
        for (int i = 0; i < places.length; i++) {
            LOOK.due("nearest to " + places[i], x.best(1, places[i]), want[i]);
        }
        CannonPost y = Check.post("fx10;fx20;c");
        LOOK.due("of two the lowest", y.best(1, 15), 0);
        LOOK.due("the nearer", y.best(1, 16), 1);
        LOOK.due("far off", y.best(1, Integer.MAX_VALUE), 1);
        LOOK.due("far off the other way", y.best(1, Integer.MIN_VALUE), 0);
    }

    /** "CARRIERS (bits) that are not LATE" */
    private static void free() {
        LOOK.due("all of one", Bounds.after(LEAST).free(), 1);
        LOOK.due("all of five", Bounds.after(MOST).free(), 31);
        LOOK.due("all but one", Bounds.after(BUSY).free(), 3);
        CannonPost x = Check.post("sp99;f;fx20;cm1;cm1;cm1;cm1;cm1");
        Check.tell(x, Check.LAW, "y:60");
        x.law(0);
        for (int c = 0; c < 5; c++) {
            x.shoot(c, 1, 0, 0);
            LOOK.due("free behind " + c, x.free(), 31 & ~((2 << c) - 1));
        }
        LOOK.due("none is free", x.free(), 0);
        LOOK.due("none is home", x.home(0), 0);
    }

    /** "as bits (LATE ones not). NONE: no such FORT." */
    private static void home() {
        LOOK.within("home of three", BUSY, 0, 2, (x, f) -> x.home(f), Check.NONE);
        LOOK.within("home of two", LEAST, 0, 1, (x, f) -> x.home(f), Check.NONE);
        LOOK.within("home of eight", MOST, 0, 7, (x, f) -> x.home(f), Check.NONE);
        dueAll("home", Bounds.after(BUSY)::home, 2, 1, 0);
        dueAll("home", Bounds.after(MOST)::home, 30, 0, 0, 0, 0, 0, 0, 1);
        CannonPost x = Bounds.after(BUSY);
        x.hours(1);
        dueAll("home an hour later", x::home, 2, 1, 4);
    }

    /** "NONE: no such NEWS, no LEAGUE." */
    private static void known() {
        LOOK.within("known", BUSY, 0, 5, (x, news) -> x.known(news), Check.NONE);
        dueAll("known", Bounds.after(BUSY)::known, 3, 0, 3, 0, 1, 3);
        CannonPost x = Bounds.after(MOST);
        for (int f = 0; f < 8; f++) {
            x.hear(f, 5);
            x.hear(f, 0);
        }
        dueAll("known in eight", x::known, 255, 0, 0, 0, 0, 255);
        x.stack(7, 9);
        x.hours(4);
        dueAll("known in eight still", x::known, 255, 0, 0, 0, 0, 255);
        LOOK.due("hay of the last", x.fort(7, 2), 9);
    }

    /** "HIDDEN for others." */
    private static void counts() {
        for (Bounds.Past past : new Bounds.Past[] {Pasts::nothing, BUSY, LEAST, MOST}) {
            LOOK.within("count", past, 0, 13, (x, what) -> x.count(what), Check.HIDDEN);
        }
        dueAll("count", Bounds.after(BUSY)::count, 3, 3, 2, 2, 6, 0, 1, 11, 1, 3, 1, 2, 3, 12);
    }

    /** Each number as far as it goes. */
    private static void countsAtTheirMost() {
        CannonPost x = new CannonPost();
        MOST.on(x);
        for (int i = 0; i < 4; i++) {
            Check.tell(x, Check.LAW, "y:0");
            Check.tell(x, Check.PLAN, "h1");
        }
        x.law(3);
        x.damps(9);
        for (int i = 0; i < 10; i++) {
            x.seen(0, 0, 1, 0, 40);
        }
        for (int i = 0; i < 12; i++) {
            x.face(0, true);
        }
        for (int f = 1; f < 8; f++) {
            x.stack(f, f == 7 ? 9 : 7);
        }
        dueAll("count", x::count, 8, 5, 4, 4, 0, 3, 0, 72, 0, 9, 10, 12, 0, 7);
        for (int i = 0; i < 61; i++) {
            x.shoot(0, 1, 0, 0);
        }
        LOOK.due("log", x.count(12), 60);
        LOOK.due("acts", x.count(13), 40);
        LOOK.due("hay of all but that", x.count(7), 63);
        LOOK.due("hurt of all", x.count(8), 52);
        x.hear(0, 5);
        LOOK.due("hay of all, whatever is known", x.count(7), 63);
        x.law(Check.NONE);
        LOOK.due("into the lake", x.shoot(4, 5, 0, 0), -2);
        LOOK.due("hurt of all, whoever is late", x.count(8), 52);
        for (int i = 0; i < 12; i++) {
            x.feed(-1, -1, -1, -1, -1);
        }
        LOOK.due("bytes", x.count(4), 240);
        CannonPost far = Check.post("fy0;fx1y0;fx2y0;fx3y0;fx4y0;fx5y0;fx6y0;fx7y0;cf7;cf7;cf7;cf7;cf7");
        LOOK.due("hay of all", far.count(7), 0);
        LOOK.due("hurt of all", far.count(8), 0);
    }
}
