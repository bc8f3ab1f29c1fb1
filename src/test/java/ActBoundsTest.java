/** The bounds of what is done by hand (Terms 2, promises 10 to 16): SHOT, told, brought, set. */
final class ActBoundsTest {
    private static final Bounds LOOK = new Bounds();
    private static final Bounds.Past BUSY = Pasts::busy;
    private static final Bounds.Past LEAGUE = Pasts::league;

    public static void main(String[] args) {
        shootsCarriers();
        shootsWays();
        shootsPowder();
        shootsPowderThatIsThere();
        shootsNewsWithinBits();
        shootsNewsThatIsKnown();
        shootsNewsWithinBreath();
        shootsLateOnes();
        landsNoMoreThanOneOff();
        landsInTheNearest();
        landsInHayOrHurt();
        hurtNinetyNineAtMost();
        lateForTwoHours();
        saysWhatIsKnownThere();
        hears();
        stacks();
        stacksUpToNine();
        grinds();
        grindsUpTo99();
        windIsSet();
        dampIsSet();
        dampsAreSet();
        LOOK.close();
    }

    // ---- SHOT

    /** "no such CARRIER" */
    private static void shootsCarriers() {
        LOOK.within("shoot carrier", LEAGUE, 0, Pasts.CARRIERS - 1, (x, c) -> x.shoot(c, 1, 0, 0), Check.NONE);
        Bounds.Past five = x -> Check.tell(x, Check.LEAGUE, "f;fx9;c;c;c;c;c");
        LOOK.within("shoot one of five", five, 0, 4, (x, c) -> x.shoot(c, 1, 0, 0), Check.NONE);
        Bounds.Past one = x -> Check.tell(x, Check.LEAGUE, "f;fx9;c");
        LOOK.within("shoot one of one", one, 0, 0, (x, c) -> x.shoot(c, 1, 0, 0), Check.NONE);
        LOOK.within("shoot one of three, one late", BUSY, 0, 1, (x, c) -> x.shoot(c, 1, 0, 0), Check.NONE);
    }

    /** "no such way" */
    private static void shootsWays() {
        LOOK.within("shoot by way", BUSY, 0, 1, (x, way) -> x.shoot(0, 1, way, 0), Check.NONE);
        CannonPost up = Check.post("sw0;fx20;fx24;fx16;c");
        LOOK.due("to greater places", up.shoot(0, 2, 0, 0), 1);
        CannonPost down = Check.post("sw0;fx20;fx24;fx16;c");
        LOOK.due("to less", down.shoot(0, 2, 1, 0), 2);
    }

    /** "POWDER out of bounds": 1 .. 20 */
    private static void shootsPowder() {
        LOOK.within("shoot with powder", BUSY, 1, 20, (x, powder) -> x.shoot(0, powder, 0, 0), Check.NONE);
        Bounds.Past full = x -> Check.tell(x, Check.LEAGUE, "sp99;f;fx9;c");
        LOOK.within("shoot with powder of 99", full, 1, 20, (x, powder) -> x.shoot(0, powder, 0, 0), Check.NONE);
    }

    /** "or not there": "it is in all that there is; it is less then" */
    private static void shootsPowderThatIsThere() {
        for (int there : new int[] {1, 2, 10, 19, 20}) {
            Bounds.Past past = x -> Check.tell(x, Check.LEAGUE, "sp" + there + ";f;fx9;c");
            LOOK.within("shoot of " + there, past, 1, there, (x, powder) -> x.shoot(0, powder, 0, 0), Check.NONE);
            CannonPost x = Bounds.after(past);
            x.shoot(0, there, 0, 0);
            LOOK.due("none is left", x.rule(2), 0);
            CannonPost y = Bounds.after(past);
            y.shoot(0, 1, 0, 0);
            LOOK.due("it is less then", y.rule(2), there - 1);
        }
        LOOK.refused("shoot of nothing", x -> Check.tell(x, Check.LEAGUE, "sp0;f;fx9;c"), x -> x.shoot(0, 1, 0, 0), Check.NONE);
        CannonPost x = Check.post("sp21;f;fx9;c;c");
        LOOK.due("twenty of 21", x.shoot(0, 20, 0, 0), -2);
        LOOK.due("two of one", x.shoot(1, 2, 0, 0), Check.NONE);
        LOOK.due("one of one", x.shoot(1, 1, 0, 0), -2);
    }

    private static Bounds.Past knowing(int breath, int known) {
        return x -> {
            Check.tell(x, Check.LEAGUE, "sw1b" + breath + ";f;fx9;cm3");
            for (int n = 0; n <= 5; n++) {
                if ((known >> n & 1) != 0) {
                    x.hear(0, n);
                }
            }
        };
    }

    /** "NEWS out of bounds": bits of 0 .. 5 */
    private static void shootsNewsWithinBits() {
        LOOK.within("shoot with news", knowing(6, 63), 0, 63, (x, news) -> x.shoot(0, 4, 0, news), Check.NONE);
        for (int bit = 6; bit <= 31; bit++) {
            int news = 1 << bit;
            LOOK.refused("shoot with bit " + bit, knowing(6, 63), x -> x.shoot(0, 4, 0, news), Check.NONE);
            LOOK.refused("shoot with bit " + bit + " and 1", knowing(6, 63), x -> x.shoot(0, 4, 0, news | 1), Check.NONE);
        }
        CannonPost x = Bounds.after(knowing(6, 63));
        LOOK.due("all of it", x.shoot(0, 4, 0, 63), 1);
        LOOK.due("all is said", x.fort(1, 3), 63);
    }

    /** "not known": each bit of it must be, in the FORT from which it is SHOT. */
    private static void shootsNewsThatIsKnown() {
        for (int n = 0; n <= 5; n++) {
            int bit = 1 << n;
            LOOK.refused("the only one not known, " + n, knowing(6, 63 & ~bit), x -> x.shoot(0, 4, 0, bit), Check.NONE);
            LOOK.refused("with one not known, " + n, knowing(6, 63 & ~bit), x -> x.shoot(0, 4, 0, 63), Check.NONE);
            LOOK.due("the only one known, " + n, Bounds.after(knowing(6, bit)).shoot(0, 4, 0, bit), 1);
            LOOK.due("all that is known, but " + n, Bounds.after(knowing(6, 63 & ~bit)).shoot(0, 4, 0, 63 & ~bit), 1);
        }
        Bounds.Past elsewhere = x -> {
            Check.tell(x, Check.LEAGUE, "f;fx9;c");
            x.hear(1, 3);
        };
        LOOK.refused("known elsewhere", elsewhere, x -> x.shoot(0, 4, 0, 8), Check.NONE);
    }

    /** "too long": "no more than BREATH" */
    private static void shootsNewsWithinBreath() {
        for (int breath = 1; breath <= 6; breath++) {
            for (int said = 0; said <= 63; said++) {
                int news = said;
                int length = Integer.bitCount(said);
                if (length == breath + 1) {
                    LOOK.refused("so long " + said, knowing(breath, 63), x -> x.shoot(0, 4, 0, news), Check.NONE);
                } else if (length == breath || length == breath - 1) {
                    CannonPost x = Bounds.after(knowing(breath, 63));
                    LOOK.due("not too long " + said, x.shoot(0, 4, 0, news), 1);
                    LOOK.due("it is said", x.fort(1, 3), said);
                } else if (length > breath) {
                    LOOK.due("far too long " + said, Bounds.after(knowing(breath, 63)).shoot(0, 4, 0, news), Check.NONE);
                }
            }
        }
    }

    /** "LATE" */
    private static void shootsLateOnes() {
        LOOK.refused("shoot one that is late for one hour", BUSY, x -> x.shoot(2, 1, 0, 0), Check.NONE);
        Bounds.Past late = x -> {
            Pasts.league(x);
            x.shoot(0, 20, 0, 0);
        };
        LOOK.refused("shoot one that is late for two hours", late, x -> x.shoot(0, 1, 0, 0), Check.NONE);
        LOOK.due("shoot another one", Bounds.after(late).shoot(1, 1, 0, 0) != Check.NONE, true);
    }

    /** "LANDS in the FORT whose PLACE is no more than 1 from there", "else in the LAKE" */
    private static void landsNoMoreThanOneOff() {
        for (int place = 18; place <= 26; place++) {
            int off = Math.abs(place - 22);
            CannonPost x = Check.post("sw0;fx10;fx22;fx40;cm6");
            LOOK.due("lands, " + off + " off", x.lands(0, 0, place - 10, 0, 0), off <= 1 ? 1 : Check.NONE);
            LOOK.due("shoot, " + off + " off", x.shoot(0, place - 10, 0, 0), off <= 1 ? 1 : -2);
        }
        for (int off = 0; off <= 3; off++) {
            CannonPost back = Check.post("sw0;fx30;fx20;cm6");
            LOOK.due("back and " + off + " short", back.shoot(0, 10 - off, 1, 0), off <= 1 ? 1 : -2);
            CannonPost beyond = Check.post("sw0;fx30;fx20;cm6");
            LOOK.due("back and " + off + " beyond", beyond.shoot(0, 10 + off, 1, 0), off <= 1 ? 1 : -2);
        }
    }

    /** "(the nearest; of several the lowest; also where it was SHOT)" */
    private static void landsInTheNearest() {
        for (int p = 1; p <= 5; p++) {
            int[] want = {0, 2, 1, 1, 1};
            CannonPost x = Check.post("sw0;fx10;fx14;fx12;cm6");
            LOOK.due("p " + p, x.shoot(0, p, 0, 0), want[p - 1]);
        }
        CannonPost low = Check.post("sw0;fx12;fx10;cm6f1");
        LOOK.due("between two, the lowest", low.shoot(0, 1, 0, 0), 0);
        CannonPost own = Check.post("sw0;fx10;fx12;cm6");
        LOOK.due("between two, where it was shot", own.shoot(0, 1, 0, 0), 0);
        LOOK.due("hay where it was shot", own.fort(0, 2), 1);
        CannonPost beside = Check.post("sw0;fx10;fx11;cm9");
        LOOK.due("no further than nothing", beside.shoot(0, 1, 0, 0), 0);
        CannonPost exact = Check.post("sw0;fx10;fx11;fx12;cm6f1");
        LOOK.due("just there, though lower ones are beside", exact.shoot(0, 1, 0, 0), 2);
    }

    /** "with HAY there: one less; without: it is HURT once more" */
    private static void landsInHayOrHurt() {
        for (int hay = 0; hay <= 9; hay++) {
            CannonPost x = Check.post("sw0;f;fx9y" + hay + ";cm6");
            LOOK.due("shoot", x.shoot(0, 9, 0, 0), 1);
            LOOK.due("hay there", x.fort(1, 2), hay == 0 ? 0 : hay - 1);
            LOOK.due("hurt", x.carrier(0, 3), hay == 0 ? 1 : 0);
        }
        CannonPost x = Check.post("sw0;f;fx9y1;cm6;cm6");
        x.shoot(0, 9, 0, 0);
        x.shoot(1, 9, 0, 0);
        LOOK.due("the first in hay", x.carrier(0, 3), 0);
        LOOK.due("the second hurt", x.carrier(1, 3), 1);
        CannonPost five = Check.post("sw0;fy0;fx9y0;cm9;cm9;cm9;cm9f1;cm9f1");
        for (int times = 1; times <= 3; times++) {
            for (int c = 0; c < 5; c++) {
                five.shoot(c, 1, 0, 0);
                LOOK.due("hurt of " + c, five.carrier(c, 3), times);
            }
        }
    }

    /** "(99 at most)" */
    private static void hurtNinetyNineAtMost() {
        CannonPost x = Check.post("sp99;fy0;fx9;c;c");
        Check.tell(x, Check.LAW, "y:0");
        x.law(0);
        for (int i = 1; i <= 101; i++) {
            LOOK.due("shoot", x.shoot(0, 1, 0, 0), 0);
            LOOK.due("hurt " + i + " times", x.carrier(0, 3), Math.min(99, i));
            x.grind(1);
        }
        x.shoot(1, 1, 0, 0);
        LOOK.due("hurt of all", x.count(8), 100);
        LOOK.due("undo", x.undo(), 39);
        LOOK.due("hurt of all then", x.count(8), 99);
    }

    /** "else it is LATE for 2 HOURS, and then in the FORT from where it was SHOT" */
    private static void lateForTwoHours() {
        CannonPost x = Check.post("sw0;f;fx9;cm6f1");
        LOOK.due("shoot", x.shoot(0, 5, 0, 0), -2);
        for (int hour = 0; hour <= 3; hour++) {
            int late = Math.max(0, 2 - hour);
            LOOK.due("late", x.carrier(0, 4), late);
            LOOK.due("to which it will come", x.carrier(0, 2), 1);
            LOOK.due("free", x.free(), late == 0 ? 1 : 0);
            LOOK.due("home", x.home(1), late == 0 ? 1 : 0);
            LOOK.due("not hurt", x.carrier(0, 3), 0);
            x.hours(1);
        }
        CannonPost y = Check.post("sw0;f;fx9;cm6f1");
        y.shoot(0, 5, 0, 0);
        LOOK.due("two hours at once", y.hours(2), 2);
        LOOK.due("late no more", y.carrier(0, 4), 0);
        LOOK.due("it can be shot", y.shoot(0, 9, 1, 0), 0);
    }

    /** "and the FORT knows those NEWS": with what it knew, of which some may be said again. */
    private static void saysWhatIsKnownThere() {
        for (int there = 0; there <= 63; there++) {
            CannonPost x = Check.post("sw0b6;f;fx9y0;cm6");
            for (int n = 0; n <= 5; n++) {
                x.hear(0, n);
                if ((there >> n & 1) != 0) {
                    x.hear(1, n);
                }
            }
            LOOK.due("shoot", x.shoot(0, 9, 0, 21), 1);
            LOOK.due("known there", x.fort(1, 3), there | 21);
            LOOK.due("known still where it was", x.fort(0, 3), 63);
        }
        CannonPost own = Check.post("sw0b6;f;fx9;cm9");
        own.hear(0, 3);
        LOOK.due("shot to itself", own.shoot(0, 1, 0, 8), 0);
        LOOK.due("known there still", own.fort(0, 3), 8);
    }

    // ---- told, brought, set

    /** "A FORT is told NEWS. False: no such ones, it knows it." */
    private static void hears() {
        LOOK.within("hear in a fort", BUSY, 0, Pasts.FORTS - 1, (x, f) -> Bounds.asInt(x.hear(f, 1)), Bounds.FALSE);
        LOOK.within("hear news", BUSY, 0, 5, (x, n) -> Bounds.asInt(x.hear(2, n)), Bounds.FALSE);
        Bounds.Past eight = x -> Check.tell(x, Check.LEAGUE, "f;fx1;fx2;fx3;fx4;fx5;fx6;fx7;c");
        LOOK.within("hear in one of eight", eight, 0, 7, (x, f) -> Bounds.asInt(x.hear(f, 5)), Bounds.FALSE);
        for (int n = 0; n <= 5; n++) {
            int news = n;
            Bounds.Past known = x -> {
                Pasts.league(x);
                x.hear(1, news);
            };
            LOOK.refused("hear what it knows", known, x -> Bounds.asInt(x.hear(1, news)), Bounds.FALSE);
            CannonPost x = Bounds.after(known);
            LOOK.due("it knows that alone", x.fort(1, 3), 1 << n);
            LOOK.due("another fort does not", x.hear(0, n), true);
            LOOK.due("both know it", x.known(n), 3);
        }
    }

    /** "HAY is brought (1 .. 9 ..)", "NONE: no such FORT, out of bounds" */
    private static void stacks() {
        Bounds.Past empty = x -> Check.tell(x, Check.LEAGUE, "fy0;fx1y0;fx2y0;c");
        LOOK.within("stack in a fort", empty, 0, 2, (x, f) -> x.stack(f, 1), Check.NONE);
        LOOK.within("stack so much", empty, 1, 9, (x, n) -> x.stack(1, n), Check.NONE);
        for (int n = 1; n <= 9; n++) {
            CannonPost x = Bounds.after(empty);
            LOOK.due("stack(1, " + n + ")", x.stack(1, n), n);
            LOOK.due("hay then", x.fort(1, 2), n);
            LOOK.due("hay of others", x.count(7), n);
            LOOK.due("one act", x.count(13), 1);
        }
    }

    /** "9 at most", "NONE: .. above nine" */
    private static void stacksUpToNine() {
        for (int hay = 0; hay <= 8; hay++) {
            int there = hay;
            Bounds.Past past = x -> Check.tell(x, Check.LEAGUE, "f;fx1y" + there + ";c");
            LOOK.within("stack on " + hay, past, 1, 9 - hay, (x, n) -> x.stack(1, n), Check.NONE);
            LOOK.due("stack up to nine", Bounds.after(past).stack(1, 9 - hay), 9);
        }
        for (int n = 0; n <= 10; n++) {
            int more = n;
            LOOK.refused("stack on nine", x -> Check.tell(x, Check.LEAGUE, "f;fx1y9;c"), x -> x.stack(1, more), Check.NONE);
        }
    }

    /** "POWDER is brought (1 .. 50 ..)", "NONE: .. out of bounds" */
    private static void grinds() {
        Bounds.Past empty = x -> Check.tell(x, Check.LEAGUE, "sp0;f;fx1;c");
        LOOK.within("grind", empty, 1, 50, (x, n) -> x.grind(n), Check.NONE);
        for (int n : new int[] {1, 2, 49, 50}) {
            CannonPost x = Bounds.after(empty);
            LOOK.due("grind(" + n + ")", x.grind(n), n);
            LOOK.due("powder then", x.rule(2), n);
            LOOK.due("one act", x.count(13), 1);
        }
    }

    /** "99 at most", "NONE: .. above 99" */
    private static void grindsUpTo99() {
        for (int there : new int[] {48, 49, 50, 51, 97, 98}) {
            Bounds.Past past = x -> Check.tell(x, Check.LEAGUE, "sp" + there + ";f;fx1;c");
            LOOK.within("grind to " + there, past, 1, Math.min(50, 99 - there), (x, n) -> x.grind(n), Check.NONE);
            LOOK.due("grind up to", Bounds.after(past).grind(Math.min(50, 99 - there)), Math.min(99, there + 50));
        }
        LOOK.refused("grind to 99", x -> Check.tell(x, Check.LEAGUE, "sp99;f;fx1;c"), x -> x.grind(1), Check.NONE);
        LOOK.refused("grind 50 to 50", x -> Check.tell(x, Check.LEAGUE, "sp50;f;fx1;c"), x -> x.grind(50), Check.NONE);
    }

    /** "WIND is set. False: no LEAGUE, out of bounds, it is so." */
    private static void windIsSet() {
        LOOK.within("wind", LEAGUE, 0, 9, (x, v) -> Bounds.asInt(x.wind(v, 0)), Bounds.FALSE);
        LOOK.within("wind's way", LEAGUE, 0, 1, (x, way) -> Bounds.asInt(x.wind(7, way)), Bounds.FALSE);
        for (int v = 0; v <= 9; v++) {
            for (int way = 0; way <= 1; way++) {
                int so = v;
                int by = way;
                CannonPost x = Check.post(v == 9 ? "sw8;f;fx1;c" : "sw9;f;fx1;c");
                LOOK.due("wind(" + v + ", " + way + ")", x.wind(v, way), true);
                LOOK.due("the wind", x.rule(0), v);
                LOOK.due("its way", x.rule(1), way);
                LOOK.due("one act", x.count(13), 1);
                Bounds.Past past = y -> Check.tell(y, Check.LEAGUE, "sw" + so + "d" + by + ";f;fx1;c");
                LOOK.refused("wind as it is", past, y -> Bounds.asInt(y.wind(so, by)), Bounds.FALSE);
                LOOK.due("by the other way", Bounds.after(past).wind(so, 1 - by), true);
            }
        }
    }

    /** "DAMP is set. False: no LEAGUE, out of bounds, it is so." */
    private static void dampIsSet() {
        LOOK.refused("damp 0 at first", LEAGUE, x -> Bounds.asInt(x.damp(0)), Bounds.FALSE);
        LOOK.within("damp", LEAGUE, 1, 9, (x, v) -> Bounds.asInt(x.damp(v)), Bounds.FALSE);
        LOOK.refused("damp -1", LEAGUE, x -> Bounds.asInt(x.damp(-1)), Bounds.FALSE);
        for (int v = 0; v <= 9; v++) {
            int so = v;
            Bounds.Past past = x -> {
                Pasts.league(x);
                x.damp(5);
                x.damp(so);
            };
            LOOK.due("damp(" + v + ")", Bounds.after(past).rule(4), v);
            LOOK.refused("damp(" + v + ") again", past, x -> Bounds.asInt(x.damp(so)), Bounds.FALSE);
        }
        Bounds.Past five = x -> {
            Pasts.league(x);
            x.damp(5);
        };
        LOOK.within("damp behind 5", five, 0, 9, (x, v) -> Bounds.asInt(x.damp(v)), Bounds.FALSE);
    }

    /** "DAMPS (0 .. 9). False: out of bounds, it is so." */
    private static void dampsAreSet() {
        LOOK.within("damps", BUSY, 0, 9, (x, v) -> Bounds.asInt(x.damps(v)), Bounds.FALSE);
        LOOK.refused("damps as they are", BUSY, x -> Bounds.asInt(x.damps(3)), Bounds.FALSE);
        LOOK.refused("damps 0 at first", Pasts::nothing, x -> Bounds.asInt(x.damps(0)), Bounds.FALSE);
        for (int v = 1; v <= 9; v++) {
            CannonPost x = new CannonPost();
            LOOK.due("damps(" + v + ")", x.damps(v), true);
            LOOK.due("count(9)", x.count(9), v);
            LOOK.due("damps(" + v + ") again", x.damps(v), false);
            LOOK.due("damps(0)", x.damps(0), true);
            LOOK.due("count(9) then", x.count(9), 0);
        }
    }
}
