/** The bounds of HOURS and DECADES (Terms 2 and 4, promises 17 and 18). */
final class HourBoundsTest {
    private static final Bounds LOOK = new Bounds();
    private static final Bounds.Past BUSY = Pasts::busy;
    private static final Bounds.Past LAST = Pasts::lastHour;
    private static final long FACTOR = 6364136223846793005L;
    private static final long MORE = 1442695040888963407L;

    public static void main(String[] args) {
        oneToSixtyHours();
        oneToSixtyDecades();
        upToTheLastHour();
        noneGoesByThen();
        hayEachFourthHour();
        hayUpToNine();
        hayInTheLastHours();
        lateOneHourLess();
        lateAndHurtOnes();
        eachHourIsAnAct();
        drawBelowDamps();
        damps0And9();
        drawsGoRound();
        waysDrawn();
        carriersDrawn();
        shotIfItCanBe();
        powderDrawn();
        LOOK.close();
    }

    /** "HOURS (1 .. 60): the HOUR. NONE: no LEAGUE, out of bounds" */
    private static void oneToSixtyHours() {
        LOOK.within("hours", BUSY, 1, 60, (x, n) -> x.hours(n), Check.NONE);
        for (int n : new int[] {1, 2, 59, 60}) {
            CannonPost x = Bounds.after(BUSY);
            LOOK.due("hours(" + n + ")", x.hours(n), n + 1);
            LOOK.due("the hour", x.count(6), n + 1);
        }
    }

    /** "n (1 .. 60)", "NONE likewise" */
    private static void oneToSixtyDecades() {
        for (long seed : new long[] {0, 1, -1, Long.MIN_VALUE, Long.MAX_VALUE}) {
            LOOK.within("decades", BUSY, 1, 60, (x, n) -> x.decades(n, seed), Check.NONE);
        }
        for (int n : new int[] {1, 2, 59, 60}) {
            CannonPost x = Bounds.after(BUSY);
            LOOK.due("decades(" + n + ")", x.decades(n, 5), n + 1);
            LOOK.due("the hour", x.count(6), n + 1);
        }
    }

    /** "(9,999 at most ..)", "NONE: .. beyond 9,999" */
    private static void upToTheLastHour() {
        for (int ahead : new int[] {1, 2, 38, 39}) {
            Bounds.Past past = x -> Pasts.hoursAhead(x, ahead);
            LOOK.due("the hour", Bounds.after(past).count(6), 9999 - ahead);
            LOOK.within("hours ahead of the last", past, 1, ahead, (x, n) -> x.hours(n), Check.NONE);
            LOOK.within("decades ahead of the last", past, 1, ahead, (x, n) -> x.decades(n, 3), Check.NONE);
            LOOK.due("hours up to it", Bounds.after(past).hours(ahead), 9999);
            LOOK.due("decades up to it", Bounds.after(past).decades(ahead, 3), 9999);
        }
        Bounds.Past sixty = x -> {
            Check.tell(x, Check.LEAGUE, Pasts.LEAGUE);
            for (int i = 0; i < 165; i++) {
                x.hours(60);
            }
            x.hours(39);
        };
        LOOK.due("the hour", Bounds.after(sixty).count(6), 9939);
        LOOK.due("all sixty up to it", Bounds.after(sixty).hours(60), 9999);
        LOOK.due("all sixty decades up to it", Bounds.after(sixty).decades(60, 1), 9999);
        CannonPost x = Bounds.after(sixty);
        x.hours(1);
        LOOK.due("sixty beyond it", x.hours(60), Check.NONE);
        LOOK.due("sixty decades beyond it", x.decades(60, 1), Check.NONE);
        LOOK.due("59 up to it", x.hours(59), 9999);
    }

    /** "(9,999 at most: none goes by then)" */
    private static void noneGoesByThen() {
        for (int n : new int[] {1, 2, 60}) {
            LOOK.refused("hours(" + n + ") in the last", LAST, x -> x.hours(n), Check.NONE);
            LOOK.refused("decades(" + n + ") in the last", LAST, x -> x.decades(n, 7), Check.NONE);
        }
        CannonPost x = Bounds.after(LAST);
        LOOK.due("the last hour is undone", x.undo(), 39);
        LOOK.due("and goes by again", x.hours(1), 9999);
        LOOK.due("other acts can be", x.shoot(0, 20, 0, 0), -2);
        LOOK.due("an image, too", x.image(), 9999);
        LOOK.due("and back", x.back(), 9999);
        LOOK.due("late for two", x.carrier(0, 4), 2);
    }

    /** "if it can then be divided by 4, each FORT has one HAY more" */
    private static void hayEachFourthHour() {
        CannonPost x = Check.post("fy0;fx9y3;c");
        for (int hour = 1; hour <= 17; hour++) {
            x.hours(1);
            LOOK.due("hay of the first at " + hour, x.fort(0, 2), hour / 4);
            LOOK.due("hay of the second at " + hour, x.fort(1, 2), 3 + hour / 4);
        }
        CannonPost all = Check.post("fy0;fx1y0;fx2y0;fx3y0;fx4y0;fx5y0;fx6y0;fx7y0;c");
        all.hours(3);
        LOOK.due("hay of all at 3", all.count(7), 0);
        all.hours(1);
        LOOK.due("hay of all at 4", all.count(7), 8);
        all.hours(1);
        LOOK.due("hay of all at 5", all.count(7), 8);
    }

    /** "(9 at most)" */
    private static void hayUpToNine() {
        CannonPost x = Check.post("fy7;fx9y8;fx20y9;c");
        int[][] want = {{7, 8, 9}, {8, 9, 9}, {9, 9, 9}, {9, 9, 9}};
        for (int i = 0; i < want.length; i++) {
            for (int f = 0; f < 3; f++) {
                LOOK.due("hay of " + f + " at " + 4 * i, x.fort(f, 2), want[i][f]);
            }
            x.hours(4);
        }
    }

    private static void hayInTheLastHours() {
        CannonPost x = new CannonPost();
        Pasts.hoursAhead(x, 4);
        LOOK.due("the hour", x.count(6), 9995);
        LOOK.due("shoot", x.shoot(1, 4, 0, 0), 2);
        LOOK.due("hay there", x.fort(2, 2), 8);
        x.hours(1);
        LOOK.due("9,996 can be divided", x.fort(2, 2), 9);
        LOOK.due("shoot to the first", x.shoot(1, 4, 1, 0), 0);
        x.hours(3);
        LOOK.due("9,999 can't", x.fort(0, 2), 8);
    }

    /** "LATE ones are so for one HOUR less" */
    private static void lateOneHourLess() {
        CannonPost x = Check.post("f;fx20;cm1;cm1;cm1");
        x.shoot(0, 20, 0, 0);
        x.hours(1);
        x.shoot(1, 20, 0, 0);
        int[][] want = {{1, 2, 0}, {0, 1, 0}, {0, 0, 0}, {0, 0, 0}};
        for (int[] late : want) {
            for (int c = 0; c < 3; c++) {
                LOOK.due("late of " + c, x.carrier(c, 4), late[c]);
            }
            x.hours(1);
        }
    }

    /** HURT and HAY stay, but for each fourth HOUR; the last of five CARRIERS is LATE as long as others. */
    private static void lateAndHurtOnes() {
        CannonPost x = Check.post("sp99;fy0;fx20y0;c;c;c;c;c");
        Check.tell(x, Check.LAW, "y:0");
        Check.tell(x, Check.LAW, "y:60");
        x.law(0);
        for (int c = 0; c < 5; c++) {
            x.shoot(c, 1, 0, 0);
            x.shoot(c, 1, 0, 0);
        }
        x.hours(3);
        x.law(1);
        for (int c = 0; c < 5; c++) {
            x.shoot(c, 1, 1, 0);
        }
        for (int hour = 0; hour <= 3; hour++) {
            for (int c = 0; c < 5; c++) {
                LOOK.due("late of " + c, x.carrier(c, 4), Math.max(0, 2 - hour));
                LOOK.due("hurt of " + c, x.carrier(c, 3), 2);
            }
            LOOK.due("hay of the first", x.fort(0, 2), hour == 0 ? 0 : 1);
            LOOK.due("hay of the second", x.fort(1, 2), hour == 0 ? 0 : 1);
            x.hours(1);
        }
    }

    /** "All these (each HOUR) are ACTS", "Each HOUR with what is ahead of it is one ACT." */
    private static void eachHourIsAnAct() {
        for (int n : new int[] {1, 2, 39, 40, 41, 60}) {
            CannonPost byHand = Check.post(Pasts.LEAGUE);
            byHand.hours(n);
            LOOK.due("acts of hours(" + n + ")", byHand.count(13), Math.min(40, n));
            LOOK.due("undo", byHand.undo(), Math.min(40, n) - 1);
            LOOK.due("an hour less", byHand.count(6), n - 1);
            CannonPost drawn = Check.post(Pasts.LEAGUE);
            drawn.damps(9);
            drawn.decades(n, 11);
            LOOK.due("acts of decades(" + n + ")", drawn.count(13), Math.min(40, n));
            LOOK.due("undo", drawn.undo(), Math.min(40, n) - 1);
            LOOK.due("an hour less", drawn.count(6), n - 1);
        }
    }

    // ---- DECADES

    private static long turned(long x, int times) {
        long y = x;
        for (int i = 0; i < times; i++) {
            y = y * FACTOR + MORE;
        }
        return y;
    }

    private static int drawn(long seed, int nth, int of) {
        return (int) ((turned(seed, nth) >>> 33) % of);
    }

    /** "a draw of 10 below DAMPS: a draw of 10: DAMP": below, at and above what is drawn. */
    private static void drawBelowDamps() {
        for (long seed = -20; seed <= 20; seed++) {
            int first = drawn(seed, 1, 10);
            int damp = drawn(seed, 2, 10);
            for (int damps = Math.max(0, first - 1); damps <= Math.min(9, first + 2); damps++) {
                CannonPost x = Check.post("sp0;f;fx9;c");
                x.damps(damps);
                x.decades(1, seed);
                LOOK.due("damp by " + damps + " and a draw of " + first, x.rule(4), first < damps ? damp : 0);
            }
        }
    }

    private static void damps0And9() {
        for (long seed = 0; seed <= 40; seed++) {
            CannonPost never = Check.post("sp0;f;fx9;c");
            never.damp(5);
            never.decades(1, seed);
            LOOK.due("never by 0", never.rule(4), 5);
            CannonPost often = Check.post("sp0;f;fx9;c");
            often.damp(5);
            often.damps(9);
            often.decades(1, seed);
            LOOK.due("by 9 but for a draw of 9", often.rule(4), drawn(seed, 1, 10) == 9 ? 5 : drawn(seed, 2, 10));
        }
    }

    /** "(64 bits, going round)", "(x shifted right by 33, without sign)" */
    private static void drawsGoRound() {
        long[] seeds = {Long.MIN_VALUE, Long.MIN_VALUE + 1, -1, 0, 1, Long.MAX_VALUE - 1, Long.MAX_VALUE};
        for (long seed : seeds) {
            CannonPost x = Check.post("sp99w0;fx20;fx0;fx40;cm6");
            x.decades(1, seed);
            int way = drawn(seed, 3, 2);
            int powder = drawn(seed, 4, 20) + 1;
            LOOK.due("one was shot", x.count(12), 1);
            LOOK.due("powder", x.log(0, 3), powder);
            int place = way == 0 ? 20 + powder : 20 - powder;
            int landed = place <= 1 ? 1 : place >= 39 ? 2 : Math.abs(place - 20) <= 1 ? 0 : Check.NONE;
            LOOK.due("where it landed", x.log(0, 2), landed);
        }
        long before = 0;
        long turnedBefore = turned(before, 1);
        LOOK.due("x behind a draw is the seed of the next", drawn(turnedBefore, 1, 1000), drawn(before, 2, 1000));
    }

    /** "a draw of 2: the way" */
    private static void waysDrawn() {
        int[] came = new int[2];
        for (long seed = 0; seed < 60; seed++) {
            CannonPost x = Check.post("sp99;fx20;fx30;fx10;c");
            Check.tell(x, Check.LAW, "y:10");
            x.law(0);
            x.decades(1, seed);
            int way = drawn(seed, 3, 2);
            LOOK.due("where it landed by way " + way, x.log(0, 2), way == 0 ? 1 : 2);
            came[way]++;
        }
        LOOK.due("both came", came[0] > 0 && came[1] > 0, true);
    }

    /** "a draw of how many CARRIERS there are" */
    private static void carriersDrawn() {
        for (int carriers = 1; carriers <= 5; carriers++) {
            for (long seed = 0; seed < 12; seed++) {
                CannonPost x = Check.post("sp99;f;fx9" + ";c".repeat(carriers));
                x.decades(1, seed);
                LOOK.due("who was shot of " + carriers, x.log(0, 0), drawn(seed, 2, carriers));
            }
        }
    }

    /** "it is SHOT with all that it can say, if it can be": with POWDER that is there, just so, and not. */
    private static void shotIfItCanBe() {
        for (long seed = 0; seed < 12; seed++) {
            int powder = drawn(seed, 4, 20) + 1;
            for (int there = powder - 1; there <= powder + 1; there++) {
                CannonPost x = Check.post("sp" + there + ";f;fx9;c");
                LOOK.due("decades", x.decades(1, seed), 1);
                LOOK.due("shots with " + there + " for " + powder, x.count(12), there < powder ? 0 : 1);
                LOOK.due("powder left", x.rule(2), there < powder ? there : there - powder);
                LOOK.due("one act", x.count(13), 1);
            }
            CannonPost late = Check.post("sp99;f;fx20;cm1");
            late.shoot(0, 20, 0, 0);
            late.decades(1, seed);
            LOOK.due("who is late is not shot", late.count(12), 1);
            LOOK.due("late for one hour less", late.carrier(0, 4), 1);
        }
    }

    /** "a draw of 20 and 1: POWDER": 1 and 20 come, nothing beyond. */
    private static void powderDrawn() {
        boolean[] came = new boolean[30];
        for (long seed = 0; seed < 200; seed++) {
            CannonPost x = Check.post("sp99;f;fx9;c");
            x.decades(1, seed);
            int powder = x.log(0, 3);
            LOOK.due("powder", powder, drawn(seed, 4, 20) + 1);
            came[powder] = true;
        }
        LOOK.due("none of 0", came[0], false);
        LOOK.due("some of 1", came[1], true);
        LOOK.due("some of 20", came[20], true);
        LOOK.due("none of 21", came[21], false);
    }
}
