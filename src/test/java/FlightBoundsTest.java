/** The bounds of where one comes, and how (Terms 3, promises 24 to 29, 33, 34, 46 and 47). */
final class FlightBoundsTest {
    private static final Bounds LOOK = new Bounds();
    private static final Bounds.Past BUSY = Pasts::busy;
    private static final int ALL = 1000000000;

    public static void main(String[] args) {
        lands();
        landsWhere();
        aims();
        aimsFromOneToTwenty();
        aimsAlike();
        routes();
        routesToItself();
        routesOfSevenShots();
        routesOfFewest();
        relays();
        relaysOfThreeShots();
        relaysOfLateOnes();
        relaysByTheLeastFirst();
        relaysOfNoShot();
        relaysOfAFullLeague();
        nobodyElseFlies();
        sures();
        suresCut();
        surests();
        cutsNotTheFirst();
        nets();
        netsWithTheWind();
        gusts();
        gustsByChance();
        gustsOfThree();
        passes();
        passesOfLateOnes();
        passesWhoseIsMore();
        questionsChangeNothing();
        LOOK.close();
    }

    // ---- LANDS

    /** "HIDDEN: no such ones, out of bounds." */
    private static void lands() {
        for (int w = 0; w <= 1; w++) {
            int what = w;
            LOOK.within("lands, carrier", BUSY, 0, 2, (x, c) -> x.lands(c, 0, 1, 0, what), Check.HIDDEN);
            LOOK.within("lands, fort", BUSY, 0, 2, (x, f) -> x.lands(0, f, 1, 0, what), Check.HIDDEN);
            LOOK.within("lands, powder", BUSY, 1, 20, (x, p) -> x.lands(0, 0, p, 0, what), Check.HIDDEN);
            LOOK.within("lands, way", BUSY, 0, 1, (x, way) -> x.lands(0, 0, 1, way, what), Check.HIDDEN);
        }
        LOOK.within("lands, what", BUSY, 0, 1, (x, what) -> x.lands(0, 0, 1, 0, what), Check.HIDDEN);
    }

    /** "where a CARRIER, from a FORT (as if it was there) .. would": LATE or elsewhere, with POWDER there or not. */
    private static void landsWhere() {
        CannonPost x = Bounds.after(BUSY);
        LOOK.due("who is late", x.lands(2, 2, 11, 1, 0), 1);
        LOOK.due("who is elsewhere", x.lands(0, 2, 11, 1, 0), 1);
        CannonPost empty = Check.post("sp0w0;f;fx20;cm6");
        LOOK.due("without powder", empty.lands(0, 0, 20, 0, 0), 1);
        LOOK.due("its place", empty.lands(0, 0, 20, 0, 1), 20);
        LOOK.due("the lake", empty.lands(0, 0, 18, 0, 0), Check.NONE);
        LOOK.due("its place", empty.lands(0, 0, 18, 0, 1), 18);
        CannonPost far = Check.post("fx40;f;c");
        Check.tell(far, Check.LAW, "y:9999");
        far.law(0);
        LOOK.due("the greatest place", far.lands(0, 0, 1, 0, 1), 100);
        LOOK.due("the least place", far.lands(0, 1, 1, 1, 1), -60);
    }

    // ---- AIM

    /** "NONE: it never LANDS there, no such ones, alike." */
    private static void aims() {
        LOOK.within("aim, carrier", BUSY, 0, 2, (x, c) -> x.aim(c, 0, 1), Check.NONE);
        LOOK.within("aim from below the last", BUSY, 0, 1, (x, f) -> x.aim(0, f, 2), Check.NONE);
        LOOK.within("aim from above the first", BUSY, 1, 2, (x, f) -> x.aim(0, f, 0), Check.NONE);
        LOOK.within("aim to below the last", BUSY, 0, 1, (x, f) -> x.aim(0, 2, f), Check.NONE);
        LOOK.within("aim to above the first", BUSY, 1, 2, (x, f) -> x.aim(0, 0, f), Check.NONE);
    }

    /** "the least POWDER (1 .. 20)" */
    private static void aimsFromOneToTwenty() {
        for (int place = 1; place <= 23; place++) {
            CannonPost up = Check.post("sw0;f;fx" + place + ";cm6");
            int least = place <= 1 ? 1 : place == 2 ? 2 : place - 1;
            LOOK.due("aim up to " + place, up.aim(0, 0, 1), least <= 20 ? least : Check.NONE);
            CannonPost down = Check.post("sw0;f;fx" + place + ";cm6");
            int back = place <= 1 ? 1 : place - 1;
            LOOK.due("aim down from " + place, down.aim(0, 1, 0), back <= 20 ? back : Check.NONE);
        }
        CannonPost one = Check.post("sw0;f;fx9;c");
        Check.tell(one, Check.LAW, "y:p=1?9;y:30");
        Check.tell(one, Check.LAW, "y:p=20?9;y:30");
        Check.tell(one, Check.LAW, "y:p>20|p<1?9;y:30");
        one.law(0);
        LOOK.due("with one alone", one.aim(0, 0, 1), 1);
        one.law(1);
        LOOK.due("with twenty alone", one.aim(0, 0, 1), 20);
        one.law(2);
        LOOK.due("never", one.aim(0, 0, 1), Check.NONE);
        CannonPost empty = Check.post("sw0p0;f;fx20;cm6");
        LOOK.due("powder that is not there", empty.aim(0, 0, 1), 19);
        for (int wind = 0; wind <= 9; wind++) {
            CannonPost with = Check.post("sw" + wind + "d0;f;fx20;cm6");
            LOOK.due("with the wind", with.aim(0, 0, 1), 19 - wind);
            LOOK.due("against the wind", with.aim(0, 1, 0), wind <= 1 ? 19 + wind : Check.NONE);
            CannonPost against = Check.post("sw" + wind + "d1;f;fx20;cm6");
            LOOK.due("against the other wind", against.aim(0, 0, 1), wind <= 1 ? 19 + wind : Check.NONE);
            LOOK.due("with the other wind", against.aim(0, 1, 0), 19 - wind);
        }
    }

    private static void aimsAlike() {
        for (int f = 0; f <= 2; f++) {
            int fort = f;
            LOOK.refused("aim to itself", BUSY, x -> x.aim(0, fort, fort), Check.NONE);
        }
    }

    // ---- ROUTE

    /** "NONE: there is none, no such ones." */
    private static void routes() {
        for (int w = 0; w <= 1; w++) {
            int what = w;
            LOOK.within("route, carrier", BUSY, 0, 2, (x, c) -> x.route(c, 0, 1, what), Check.NONE);
            LOOK.within("route, fort", BUSY, 0, 2, (x, f) -> x.route(0, f, 1, what), Check.NONE);
            LOOK.within("route, other", BUSY, 0, 2, (x, f) -> x.route(0, 1, f, what), Check.NONE);
            CannonPost none = Check.post("sw0;f;fx22;cm6");
            LOOK.due("there is none", none.route(0, 0, 1, what), Check.NONE);
            CannonPost one = Check.post("sw0;f;fx21;cm6");
            LOOK.due("there is just one", one.route(0, 0, 1, what), what == 0 ? 1 : 20);
        }
        LOOK.within("route, what", BUSY, 0, 1, (x, what) -> x.route(0, 0, 1, what), Check.NONE);
    }

    /** "(0; 0 to itself)" */
    private static void routesToItself() {
        for (int f = 0; f <= 2; f++) {
            LOOK.due("row to itself", Bounds.after(BUSY).route(0, f, f, 0), 0);
            LOOK.due("powder to itself", Bounds.after(BUSY).route(0, f, f, 1), 0);
        }
    }

    /** Eight FORTS in a row, each in reach of the next alone: seven digits. */
    private static void routesOfSevenShots() {
        CannonPost x = Check.post("sw0;fx0;fx5;fx10;fx15;fx20;fx25;fx30;fx35;c");
        Check.tell(x, Check.LAW, "y:p<6?p");
        x.law(0);
        LOOK.due("all of them", x.route(0, 0, 7, 0), 1234567);
        LOOK.due("all their powder", x.route(0, 0, 7, 1), 28);
        LOOK.due("and back", x.route(0, 7, 0, 0), 6543210);
        LOOK.due("six of them", x.route(0, 0, 6, 0), 123456);
        LOOK.due("a zero ahead", x.route(0, 1, 0, 0), 0);
        LOOK.due("its powder", x.route(0, 1, 0, 1), 4);
    }

    /** "the fewest of them, then the least POWDER, then the least digits (the first the highest)" */
    private static void routesOfFewest() {
        CannonPost fewest = Check.post("sw0;f;fx10h9;fx20;cm6");
        LOOK.due("one shot, though two take less", fewest.route(0, 0, 2, 0), 2);
        LOOK.due("its powder", fewest.route(0, 0, 2, 1), 19);
        CannonPost less = Check.post("sw0;f;fx12h9;fx10;fx30;cm6");
        LOOK.due("the least powder, though digits are more", less.route(0, 0, 3, 1), 11 + 8);
        LOOK.due("its row", less.route(0, 0, 3, 0), 13);
        CannonPost digits = Check.post("sw0;f;fx12;fx18;fx30;cm6");
        LOOK.due("as much powder over either", digits.route(0, 0, 3, 1), 28);
        LOOK.due("the least digits", digits.route(0, 0, 3, 0), 13);
        CannonPost later = Check.post("sw0;f;fx10;fx12h9;fx30;cm6");
        LOOK.due("less powder over the later one", later.route(0, 0, 3, 0), 23);
        // 5 1 7 and 3 2 7, told by the HEIGHT from where it is, take as much
        CannonPost three = Check.post("fh1;fx14h4;fx18h5;fx9h3;fx36;fx5h2;fx40;fx25;c");
        Check.tell(three, Check.LAW, "y:h=1&p=1?5;y:h=1&p=2?9;y:h=2&p=3?9;y:h=3&p=2?9;y:h=4&p=1?11;y:h=5&p=1?7;y:60");
        three.law(0);
        LOOK.due("as much powder by three shots", three.route(0, 0, 7, 1), 5);
        LOOK.due("the least first digit", three.route(0, 0, 7, 0), 327);
        CannonPost turned = Check.post("sw0;f;fx18;fx12;fx30;cm6");
        LOOK.due("the least digits, the other way about", turned.route(0, 0, 3, 0), 13);
    }

    // ---- RELAY

    /** "NONE: not by three, no such ones." */
    private static void relays() {
        for (int w = 0; w <= 1; w++) {
            int what = w;
            LOOK.within("relay, fort", BUSY, 0, 2, (x, f) -> x.relay(5, f, what), Check.NONE);
            Bounds.Past all = x -> {
                Pasts.league(x);
                for (int n = 0; n <= 5; n++) {
                    x.hear(1, n);
                }
            };
            LOOK.within("relay, news", all, 0, 5, (x, n) -> x.relay(n, 1, what), Check.NONE);
        }
        LOOK.within("relay, what", BUSY, 0, 1, (x, what) -> x.relay(5, 2, what), Check.NONE);
        LOOK.refused("relay of what nobody knows", BUSY, x -> x.relay(3, 0, 0), Check.NONE);
        LOOK.refused("relay of what nobody knows", BUSY, x -> x.relay(3, 0, 1), Check.NONE);
    }

    private static void dueRelay(CannonPost x, int fort, int shots, int first) {
        LOOK.due("shots to " + fort, x.relay(0, fort, 0), shots);
        LOOK.due("the first to " + fort, x.relay(0, fort, 1), first);
    }

    /** "the fewest SHOTS (0 .. 3)", "no SHOT: 0", "NONE: not by three" */
    private static void relaysOfThreeShots() {
        CannonPost x = Check.post("sw0;fx0;fx10;fx20;fx30;fx40;c");
        Check.tell(x, Check.LAW, "y:p<11?p");
        x.law(0);
        x.hear(0, 0);
        dueRelay(x, 0, 0, 0);
        dueRelay(x, 1, 1, 1);
        dueRelay(x, 2, 2, 1);
        dueRelay(x, 3, 3, 1);
        dueRelay(x, 4, Check.NONE, Check.NONE);
        CannonPost two = Check.post("sw0p0;fx0;fx10;fx20;fx30;fx40;c;cf3");
        Check.tell(two, Check.LAW, "y:p<11?p");
        two.law(0);
        two.hear(0, 0);
        dueRelay(two, 3, 3, 1);
        dueRelay(two, 4, Check.NONE, Check.NONE);
        CannonPost fetch = Check.post("sw0;fx0;fx10;fx20;fx30;cf3");
        Check.tell(fetch, Check.LAW, "y:p<11?p");
        fetch.law(0);
        fetch.hear(2, 0);
        dueRelay(fetch, 3, 2, 2);
        dueRelay(fetch, 1, 2, 2);
        dueRelay(fetch, 0, 3, 2);
    }

    /** "of CARRIERS that are not LATE now" */
    private static void relaysOfLateOnes() {
        CannonPost x = Check.post("sw0;fx0;fx10;fx40;cm6;cm6");
        x.hear(0, 0);
        dueRelay(x, 1, 1, 1);
        x.shoot(0, 5, 0, 0);
        dueRelay(x, 1, 1, 11);
        x.shoot(1, 5, 0, 0);
        dueRelay(x, 1, Check.NONE, Check.NONE);
        dueRelay(x, 0, 0, 0);
        x.hours(1);
        dueRelay(x, 1, Check.NONE, Check.NONE);
        x.hours(1);
        dueRelay(x, 1, 1, 1);
    }

    /** "the least by which it can be so" */
    private static void relaysByTheLeastFirst() {
        CannonPost x = Check.post("sw0;fx20;fx10;fx30;fx40;cm6;cm6f1;cm6f3");
        Check.tell(x, Check.LAW, "y:p<11?p");
        x.law(0);
        x.hear(1, 0);
        // 0 could fetch it, or go ahead to where it is to come: none of these leaves as few SHOTS
        dueRelay(x, 0, 1, 10);
        dueRelay(x, 2, 2, 10);
        dueRelay(x, 3, 3, 10);
        // one brings it to the middle from below, the other takes it on: either may be SHOT first
        for (String carriers : new String[] {"cm6f2;cm3", "cm3;cm6f2"}) {
            CannonPost either = Check.post("sw0;fx0h1;fx10;fx20;" + carriers);
            Check.tell(either, Check.LAW, "y:m=6&p<11?p;y:m=3&h=1&p<12?p;y:60");
            either.law(0);
            either.hear(0, 0);
            dueRelay(either, 2, 3, 1);
        }
    }

    /** "no SHOT: 0", whichever FORT knows it. */
    private static void relaysOfNoShot() {
        for (int f = 0; f <= 7; f++) {
            CannonPost x = Check.post("sw0;f;fx5;fx10;fx15;fx20;fx25;fx30;fx35;cm6;cm6f7");
            x.hear(f, 0);
            dueRelay(x, f, 0, 0);
        }
    }

    /** Each CARRIER brings it to each FORT; five of them and eight FORTS. */
    private static void relaysOfAFullLeague() {
        for (int at = 0; at <= 7; at++) {
            for (int c = 0; c <= 4; c++) {
                StringBuilder league = new StringBuilder("sw0;f;fx5;fx10;fx15;fx20;fx25;fx30;fx35");
                for (int other = 0; other <= 4; other++) {
                    league.append(other == c ? ";cm1f" + at : ";cm9f" + (at + 1) % 8);
                }
                CannonPost x = Check.post(league.toString());
                Check.tell(x, Check.LAW, "y:m=1?p*2;y:60");
                x.law(0);
                x.hear(at, 0);
                for (int f = 0; f <= 7; f++) {
                    dueRelay(x, f, f == at ? 0 : 1, f == at ? 0 : 10 * c + f);
                }
            }
        }
        CannonPost row = Check.post("sw0;f;fx5;fx10;fx15;fx20;fx25;fx30;fx35;cf7;cf7;cf7;cf7;cf7");
        Check.tell(row, Check.LAW, "y:p<6?p");
        row.law(0);
        row.hear(7, 0);
        int[] shots = {Check.NONE, Check.NONE, Check.NONE, Check.NONE, 3, 2, 1, 0};
        int[] first = {Check.NONE, Check.NONE, Check.NONE, Check.NONE, 6, 6, 6, 0};
        for (int f = 0; f <= 7; f++) {
            dueRelay(row, f, shots[f], first[f]);
        }
    }

    /** CARRIERS that are not there do not fly, though another LEAGUE had them. */
    private static void nobodyElseFlies() {
        for (int weight : new int[] {0, 9}) {
            CannonPost x = Check.post("sw0;f;fx9;fx18;cm9;cm9;cm9;cm9;cm9");
            Check.tell(x, Check.LEAGUE, "sw0;f;fx9;fx18;cm3");
            Check.tell(x, Check.LAW, "y:m=" + weight + "?p;y:60");
            x.law(0);
            x.hear(0, 0);
            dueRelay(x, 1, Check.NONE, Check.NONE);
            LOOK.due("nobody brings it", x.surest(0, 1), Check.NONE);
            LOOK.due("nobody comes there", x.net(0), 1);
            LOOK.due("nothing is cut off", x.cuts(), 0);
        }
        CannonPost many = Check.post("sw0;f;fx9;fx18;cm6;cm6;cm6;cm6");
        Check.tell(many, Check.LAW, "y:p<10?p");
        many.law(0);
        LOOK.due("as many as come there", many.net(0), 7);
        LOOK.due("over the middle alone", many.cuts(), 2);
        CannonPost gone = Check.post("sw0;f;fx9;fx18;cm6");
        LOOK.due("an aim", gone.aim(0, 0, 1), 8);
        LOOK.due("a way", gone.net(0), 7);
        Check.tell(gone, Check.LEAGUE, "sw0;f;fx40;cm6");
        LOOK.due("no way of another league", gone.net(0), 1);
        LOOK.due("no aim of another league", gone.aim(0, 0, 1), Check.NONE);
    }

    // ---- SURE

    /** "NONE: no ROUTE, no such ones." */
    private static void sures() {
        LOOK.within("sure, carrier", BUSY, 0, 2, (x, c) -> x.sure(c, 0, 1), Check.NONE);
        LOOK.within("sure, fort", BUSY, 0, 2, (x, f) -> x.sure(0, f, 1), Check.NONE);
        LOOK.within("sure, other", BUSY, 0, 2, (x, f) -> x.sure(0, 1, f), Check.NONE);
        LOOK.refused("sure without a route", x -> Check.tell(x, Check.LEAGUE, "sw0;f;fx22;cm6"), x -> x.sure(0, 0, 1), Check.NONE);
    }

    /** "in NERVE and 1 of ten (each part cut; itself: all)" */
    private static void suresCut() {
        for (int nerve = 0; nerve <= 9; nerve++) {
            CannonPost x = Check.post("sw0;fx0;fx5;fx10;fx15;fx20;fx25;fx30;fx35;cn" + nerve);
            Check.tell(x, Check.LAW, "y:p<6?p");
            x.law(0);
            long parts = ALL;
            for (int f = 0; f <= 7; f++) {
                LOOK.due("sure over " + f + " with nerve " + nerve, x.sure(0, 0, f), parts);
                parts = parts * (nerve + 1) / 10;
            }
            LOOK.due("itself", x.sure(0, 7, 7), ALL);
        }
    }

    /** "(none with a ROUTE: none; of several the lowest)", "NONE: none, no such FORTS." */
    private static void surests() {
        LOOK.within("surest, fort", BUSY, 0, 2, (x, f) -> x.surest(f, 1), Check.NONE);
        LOOK.within("surest, other", BUSY, 0, 2, (x, f) -> x.surest(1, f), Check.NONE);
        LOOK.refused("surest of none", x -> Check.tell(x, Check.LEAGUE, "sw0;f;fx22;cm6;cm6"), x -> x.surest(0, 1), Check.NONE);
        LOOK.due("the last alone", Check.post("sw0;f;fx22;cm6n9;cm6n9;cm3n0").surest(0, 1), 2);
        LOOK.due("of several the lowest", Check.post("sw0;f;fx9;cm6n4;cm6n5;cm3n5").surest(0, 1), 1);
        LOOK.due("by one more", Check.post("sw0;f;fx9;cm6n4;cm6n4;cm3n5").surest(0, 1), 2);
        LOOK.due("to itself the lowest", Check.post("sw0;f;fx9;cm6n0;cm6n9").surest(1, 1), 0);
    }

    // ---- CUT, NET

    /** "FORTS (bits, not 0)" */
    private static void cutsNotTheFirst() {
        CannonPost x = Check.post("sw0;fx5;fx0;fx10;fx15;fx20;fx25;fx30;fx35;c");
        Check.tell(x, Check.LAW, "y:p<6?p");
        x.law(0);
        LOOK.due("all but 0 and the ends", x.cuts(), 124);
        LOOK.due("net of the first", x.net(0), 255);
        CannonPost none = Check.post("sw0;f;fx22;cm6");
        LOOK.due("nothing is cut off", none.cuts(), 0);
        LOOK.due("itself alone", none.net(0), 1);
        LOOK.due("itself alone", none.net(1), 2);
        CannonPost two = Check.post("sw0;f;fx21;cm6");
        LOOK.due("nothing behind the second", two.cuts(), 0);
        LOOK.due("both", two.net(0), 3);
        CannonPost three = Check.post("sw0;f;fx21;fx40;cm6");
        LOOK.due("the middle", three.cuts(), 2);
        LOOK.due("all", three.net(0), 7);
    }

    /** "NONE: no such FORT." */
    private static void nets() {
        LOOK.within("net", BUSY, 0, 2, (x, f) -> x.net(f), Check.NONE);
        Bounds.Past eight = x -> Check.tell(x, Check.LEAGUE, "f;fx1;fx2;fx3;fx4;fx5;fx6;fx7;c");
        LOOK.within("net of eight", eight, 0, 7, (x, f) -> x.net(f), Check.NONE);
    }

    /** "FORTS (bits) that can be come to from it so (itself, too)": all, or but those one way. */
    private static void netsWithTheWind() {
        CannonPost x = Check.post("sw0;f;fx10;fx20;fx30;cm6");
        for (int f = 0; f <= 3; f++) {
            LOOK.due("net(" + f + ")", x.net(f), 15);
        }
        x.wind(9, 0);
        Check.tell(x, Check.LAW, "y:w+p/20");
        x.law(0);
        int[] up = {15, 14, 12, 8};
        for (int f = 0; f <= 3; f++) {
            LOOK.due("net(" + f + ") with the wind alone", x.net(f), up[f]);
        }
        x.wind(9, 1);
        int[] down = {1, 3, 7, 15};
        for (int f = 0; f <= 3; f++) {
            LOOK.due("net(" + f + ") with the other wind alone", x.net(f), down[f]);
        }
    }

    // ---- GUSTS

    /** "NONE: no such ones, out of bounds." */
    private static void gusts() {
        LOOK.within("gusts, carrier", BUSY, 0, 2, (x, c) -> x.gusts(c, 0, 1, 0, 50), Check.NONE);
        LOOK.within("gusts, fort", BUSY, 0, 2, (x, f) -> x.gusts(0, f, 1, 0, 50), Check.NONE);
        LOOK.within("gusts, powder", BUSY, 1, 20, (x, p) -> x.gusts(0, 0, p, 0, 50), Check.NONE);
        LOOK.within("gusts, way", BUSY, 0, 1, (x, way) -> x.gusts(0, 0, 1, way, 50), Check.NONE);
        LOOK.within("gusts, chance, with a gust alone", BUSY, 0, 100, (x, chance) -> x.gusts(0, 0, 1, 0, chance), Check.NONE);
        LOOK.within("gusts, chance, with none alone", BUSY, 0, 100, (x, chance) -> x.gusts(0, 0, 3, 0, chance), Check.NONE);
    }

    /** "a chance (0 .. 100)", "of 100 those by which it LANDS in a FORT" */
    private static void gustsByChance() {
        CannonPost x = Check.post("sw0;f;fx10;fx40;cm6");
        for (int chance : new int[] {0, 1, 50, 99, 100}) {
            LOOK.due("with none alone", x.gusts(0, 0, 10, 0, chance), 100 - chance);
            LOOK.due("with a gust alone", x.gusts(0, 0, 7, 0, chance), chance);
            LOOK.due("neither", x.gusts(0, 0, 5, 0, chance), 0);
            LOOK.due("both", x.gusts(0, 2, 1, 1, chance), 100);
        }
    }

    /** "3 more by its way", above 9, too. */
    private static void gustsOfThree() {
        for (int wind = 0; wind <= 9; wind++) {
            for (int way = 0; way <= 1; way++) {
                CannonPost x = Check.post("sw" + wind + "d" + way + ";fx20;f;fx40;cm6");
                Check.tell(x, Check.LAW, "y:p+w+3");
                x.law(0);
                int along = way == 0 ? 3 : -3;
                for (int p = 1; p <= 20; p++) {
                    int calm = p + 3 + (way == 0 ? wind : -wind);
                    int want = (landsFrom20(calm) ? 70 : 0) + (landsFrom20(calm + along) ? 30 : 0);
                    LOOK.due("gusts with " + p + " by wind " + wind + ", " + way, x.gusts(0, 0, p, 0, 30), want);
                }
            }
        }
    }

    private static boolean landsFrom20(int reach) {
        return reach <= 1 || reach >= 19 && reach <= 21;
    }

    // ---- PASS

    /** "NONE: none, no such ones, alike .. in one FORT." */
    private static void passes() {
        LOOK.within("passing, one", BUSY, 0, 0, (x, c) -> x.passing(c, 1), Check.NONE);
        LOOK.within("passing, other", BUSY, 1, 1, (x, c) -> x.passing(0, c), Check.NONE);
        LOOK.refused("passing itself", BUSY, x -> x.passing(0, 0), Check.NONE);
        Bounds.Past five = x -> Check.tell(x, Check.LEAGUE, "sw0;f;fx9;cm6f1;cm6;cm6;cm6;cm6");
        LOOK.within("passing one of five", five, 1, 4, (x, c) -> x.passing(0, c), Check.NONE);
        LOOK.within("one of five passing", five, 1, 4, (x, c) -> x.passing(c, 0), Check.NONE);
        LOOK.refused("passing in one fort", five, x -> x.passing(1, 2), Check.NONE);
        LOOK.refused("passing where one can't", x -> Check.tell(x, Check.LEAGUE, "sw0;f;fx22;cm3;cm6f1"), x -> x.passing(0, 1), Check.NONE);
        LOOK.refused("passing where the other can't", x -> Check.tell(x, Check.LEAGUE, "sw0;f;fx22;cm6;cm3f1"), x -> x.passing(0, 1), Check.NONE);
        LOOK.due("both can", Check.post("sw0;f;fx21;cm6;cm6f1").passing(0, 1), 0);
    }

    /** "one LATE" */
    private static void passesOfLateOnes() {
        LOOK.refused("passing one that is late", BUSY, x -> x.passing(0, 2), Check.NONE);
        LOOK.refused("one that is late passing", BUSY, x -> x.passing(2, 0), Check.NONE);
        CannonPost x = Bounds.after(BUSY);
        x.hours(1);
        LOOK.due("late no more", x.passing(0, 2) != Check.NONE, true);
    }

    /** "1 the first's, 2 the second's, 0 as much" */
    private static void passesWhoseIsMore() {
        // by this LAW all take as much POWDER, so WEIGHT tells
        for (int weight = 4; weight <= 6; weight++) {
            CannonPost x = Check.post("sw0;f;fx9;cm" + weight + ";cm5f1");
            Check.tell(x, Check.LAW, "y:p");
            x.law(0);
            LOOK.due("weight " + weight + " against 5", x.passing(0, 1), weight == 5 ? 0 : weight > 5 ? 1 : 2);
            LOOK.due("5 against weight " + weight, x.passing(1, 0), weight == 5 ? 0 : weight > 5 ? 2 : 1);
        }
        // HEIGHT saves one of them POWDER, as much as the other has less WEIGHT
        for (int height = 0; height <= 2; height++) {
            CannonPost x = Check.post("sw0;fh" + height + ";fx9;cm6;cm5f1");
            Check.tell(x, Check.LAW, "y:p+h");
            x.law(0);
            LOOK.due("height " + height, x.passing(0, 1), height == 1 ? 0 : height < 1 ? 1 : 2);
        }
    }

    /** What is asked is apart: it changes nothing, whatever it answers. */
    private static void questionsChangeNothing() {
        LOOK.unchanged("lands", BUSY, x -> x.lands(1, 0, 5, 0, 0));
        LOOK.unchanged("aim", BUSY, x -> x.aim(1, 0, 2));
        LOOK.unchanged("route", BUSY, x -> x.route(1, 0, 2, 0));
        LOOK.unchanged("relay", BUSY, x -> x.relay(5, 2, 0));
        LOOK.unchanged("relay by more", BUSY, x -> x.relay(4, 1, 1));
        LOOK.unchanged("sure", BUSY, x -> x.sure(1, 0, 2));
        LOOK.unchanged("surest", BUSY, x -> x.surest(0, 2));
        LOOK.unchanged("cuts", BUSY, CannonPost::cuts);
        LOOK.unchanged("net", BUSY, x -> x.net(0));
        LOOK.unchanged("gusts", BUSY, x -> x.gusts(0, 0, 3, 0, 50));
        LOOK.unchanged("passing", BUSY, x -> x.passing(0, 1));
    }
}
