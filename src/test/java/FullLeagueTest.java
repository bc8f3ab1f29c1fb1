/** Eight FORTS and five CARRIERS, each in a state of its own, so that none is taken for another (promises 5 to 8, 11 to 20, 43 to 50). */
final class FullLeagueTest {
    private static final Check CHECK = new Check();
    private static final String LEAGUE = "sp99b6w0;fh1;fx5h2y0;fx10h3y1;fx15h4y2;fx20h5y3;fx25h6y4;fx30h7y5;fx35h8y6;"
            + "cm1n1f1;cm2n2f3;cm3n3f5;cm4n4f7;cm5n5f1";

    public static void main(String[] args) {
        asTold();
        newsOfEach();
        lateEach();
        hurtEach();
        hayOfEach();
        imageOfAll();
        CHECK.close();
    }

    private static void asTold() {
        CannonPost x = Check.post(LEAGUE);
        for (int f = 0; f < 8; f++) {
            CHECK.due("place of " + f, x.fort(f, 0), 5 * f);
            CHECK.due("height of " + f, x.fort(f, 1), f + 1);
            CHECK.due("hay of " + f, x.fort(f, 2), f == 0 ? 2 : f - 1);
        }
        int[] at = {1, 3, 5, 7, 1};
        for (int c = 0; c < 5; c++) {
            CHECK.due("weight of " + c, x.carrier(c, 0), c + 1);
            CHECK.due("nerve of " + c, x.carrier(c, 1), c + 1);
            CHECK.due("fort of " + c, x.carrier(c, 2), at[c]);
        }
        CHECK.due("home(1)", x.home(1), 17);
        CHECK.due("home(7)", x.home(7), 8);
        CHECK.due("hay of all", x.count(7), 23);
        CHECK.due("fort(8, 0)", x.fort(8, 0), -1);
        CHECK.dueThrow(x, 5, 0);
    }

    private static void newsOfEach() {
        CannonPost x = Check.post(LEAGUE);
        for (int f = 0; f < 8; f++) {
            x.hear(f, f % 6);
            x.hear(f, 5 - f % 6);
        }
        for (int f = 0; f < 8; f++) {
            CHECK.due("news of " + f, x.fort(f, 3), 1 << f % 6 | 1 << 5 - f % 6);
        }
        int[] known = {97, 146, 12, 12, 146, 97};
        for (int n = 0; n < 6; n++) {
            CHECK.due("known(" + n + ")", x.known(n), known[n]);
        }
        CHECK.due("hay of all", x.count(7), 23);
        x.hours(4);
        CHECK.due("hay of all then", x.count(7), 31);
        CHECK.due("news of 0 still", x.fort(0, 3), 33);
        for (int n = 0; n < 6; n++) {
            CHECK.due("known(" + n + ") still", x.known(n), known[n]);
        }
    }

    /** One after the other comes into the lake, an hour apart. */
    private static void lateEach() {
        int lost = 20;
        for (int first = 0; first < 5; first++) {
            CannonPost x = Check.post(LEAGUE);
            int second = (first + 2) % 5;
            Check.tell(x, Check.LAW, "y:60");
            x.law(0);
            CHECK.due("shoot into the lake", x.shoot(first, lost, 1, 0), -2);
            CHECK.due("free()", x.free(), 31 & ~(1 << first));
            CHECK.due("no longer home", x.home(x.carrier(first, 2)) & 1 << first, 0);
            x.hours(1);
            CHECK.due("shoot another", x.shoot(second, lost, 1, 0), -2);
            for (int c = 0; c < 5; c++) {
                CHECK.due("late of " + c, x.carrier(c, 4), c == first ? 1 : c == second ? 2 : 0);
                CHECK.due("hurt of " + c, x.carrier(c, 3), 0);
            }
            CHECK.due("hay of all", x.count(7), 23);
            x.hours(1);
            CHECK.due("free() then", x.free(), 31 & ~(1 << second));
            x.hours(1);
            CHECK.due("free() at last", x.free(), 31);
            CHECK.due("log's from", x.log(1, 1), x.carrier(first, 2));
            CHECK.due("log's who", x.log(1, 0), first);
        }
    }

    /** Without hay each is hurt so many times as its number tells and once more. */
    private static void hurtEach() {
        CannonPost x = Check.post("sp99;fy0;fx5y0;fx10y0;fx15y0;fx20y0;fx25y0;fx30y0;fx35y0;c;cf1;cf3;cf5;cf7");
        Check.tell(x, Check.LAW, "y:0");
        x.law(0);
        for (int c = 0; c < 5; c++) {
            for (int i = 0; i <= c; i++) {
                x.shoot(c, 1, 0, 0);
            }
        }
        for (int c = 0; c < 5; c++) {
            CHECK.due("hurt of " + c, x.carrier(c, 3), c + 1);
        }
        CHECK.due("hurt of all", x.count(8), 15);
        x.hours(9);
        for (int c = 0; c < 5; c++) {
            CHECK.due("hurt of " + c + " still", x.carrier(c, 3), c + 1);
            CHECK.due("late of " + c, x.carrier(c, 4), 0);
        }
        CHECK.due("hay of all", x.count(7), 16);
        Check.tell(x, Check.LAW, "y:60");
        x.law(1);
        x.shoot(0, 1, 1, 0);
        CHECK.due("hurt of all when one is late", x.count(8), 15);
    }

    private static void hayOfEach() {
        CannonPost x = Check.post(LEAGUE);
        Check.tell(x, Check.LAW, "y:60");
        x.law(0);
        x.hours(3);
        x.shoot(4, 1, 1, 0);
        x.hours(1);
        CHECK.due("late of the last", x.carrier(4, 4), 1);
        for (int f = 0; f < 8; f++) {
            CHECK.due("hay of " + f, x.fort(f, 2), f == 0 ? 3 : f);
            CHECK.due("news of " + f, x.fort(f, 3), 0);
        }
        CHECK.due("stack(7, 2)", x.stack(7, 2), 9);
        CHECK.due("stack(3, 2)", x.stack(3, 2), 5);
        CHECK.due("hay of all", x.count(7), 35);
        CHECK.due("the least is 1", x.hays(1), 0);
        CHECK.due("the least will be 2", x.hays(2), 4);
    }

    private static void imageOfAll() {
        CannonPost x = Check.post(LEAGUE);
        for (int f = 0; f < 8; f++) {
            x.hear(f, f % 6);
        }
        x.damps(5);
        x.decades(13, 99);
        x.image();
        String then = Check.stateOf(x);
        x.decades(29, 7);
        x.back();
        CHECK.due("no acts", x.count(13), 0);
        String now = Check.stateOf(x);
        // the fourteenth number is how many acts can be undone
        String[] thens = then.split(" ");
        String[] nows = now.split(" ");
        CHECK.due("as many numbers", nows.length, thens.length);
        for (int i = 0; i < nows.length && nows.length == thens.length; i++) {
            CHECK.holds("number " + i + " of the state", i == 13 || nows[i].equals(thens[i]));
        }
    }
}
