/** Promises 24, 25, 46 and 47: LANDS, AIM, GUSTS, PASS. */
final class FlightTest {
    private static final Check CHECK = new Check();
    private static final String LEAGUE = "sw1d0p30b1;fy1;fx6h1y0;fx14;cm3n4;cm5n9f2";

    public static void main(String[] args) {
        reaches();
        nearest();
        refusedLands();
        aims();
        aimsNotRising();
        aimsFollowWeather();
        aimsInAllWeather();
        aimsBesideEachWeather();
        gusts();
        gustBeyondNine();
        passes();
        CHECK.close();
    }

    private static void reaches() {
        CannonPost x = Check.post(LEAGUE);
        CHECK.due("6 * 2 / 3 + 1", x.lands(0, 0, 2, 0, 1), 5);
        CHECK.due("6 * 2 / 5 + 1, cut", x.lands(1, 0, 2, 0, 1), 3);
        CHECK.due("6 * 2 / 3 + height + wind", x.lands(0, 1, 2, 0, 1), 12);
        CHECK.due("6 * 2 / 3 + height - wind, back", x.lands(0, 1, 2, 1, 1), 2);
        CHECK.due("6 * 20 / 3 + wind", x.lands(0, 2, 20, 0, 1), 55);
        CHECK.due("below 0", x.lands(0, 0, 20, 1, 1), -39);
        x.wind(9, 1);
        CHECK.due("not less than 0", x.lands(1, 2, 1, 0, 1), 14);
        CHECK.due("with the wind", x.lands(1, 2, 1, 1, 1), 4);
        x.damp(3);
        CHECK.due("less damp", x.lands(1, 2, 1, 1, 1), 7);
        CannonPost far = Check.post("sw9;f;fx9;cm1");
        CHECK.due("60 at most", far.lands(0, 0, 9, 0, 1), 60);
        CHECK.due("60 at most, more so", far.lands(0, 1, 20, 0, 1), 69);
        CHECK.due("60 at most, back", far.lands(0, 0, 20, 1, 1), -60);
    }

    private static void nearest() {
        CannonPost x = Check.post("sw0;fx10;fx12;fx13;fx20;cm6");
        CHECK.due("one beside", x.lands(0, 0, 1, 0, 1), 11);
        CHECK.due("of two as near the lowest", x.lands(0, 0, 1, 0, 0), 0);
        CHECK.due("just there", x.lands(0, 0, 2, 0, 0), 1);
        CHECK.due("just there, too", x.lands(0, 0, 3, 0, 0), 2);
        CHECK.due("one beyond", x.lands(0, 0, 4, 0, 0), 2);
        CHECK.due("two beyond", x.lands(0, 0, 5, 0, 0), -1);
        CHECK.due("one short", x.lands(0, 0, 9, 0, 0), 3);
        CHECK.due("two short", x.lands(0, 0, 8, 0, 0), -1);
        CHECK.due("where it was shot", x.lands(0, 3, 1, 1, 0), 3);
        CannonPost y = Check.post("sw0;fx12;fx10;c");
        Check.tell(y, Check.LAW, "y:1");
        y.law(0);
        CHECK.due("of two the lowest, another one", y.lands(0, 1, 1, 0, 0), 0);
        CHECK.due("where it is itself", y.lands(0, 0, 1, 1, 0), 0);
    }

    private static void refusedLands() {
        CannonPost x = Check.post(LEAGUE);
        for (int what = 0; what <= 1; what++) {
            CHECK.due("carrier 2", x.lands(2, 0, 1, 0, what), Check.HIDDEN);
            CHECK.due("carrier -1", x.lands(-1, 0, 1, 0, what), Check.HIDDEN);
            CHECK.due("fort 3", x.lands(0, 3, 1, 0, what), Check.HIDDEN);
            CHECK.due("fort -1", x.lands(0, -1, 1, 0, what), Check.HIDDEN);
            CHECK.due("powder 0", x.lands(0, 0, 0, 0, what), Check.HIDDEN);
            CHECK.due("powder 21", x.lands(0, 0, 21, 0, what), Check.HIDDEN);
            CHECK.due("way 2", x.lands(0, 0, 1, 2, what), Check.HIDDEN);
            CHECK.due("way -1", x.lands(0, 0, 1, -1, what), Check.HIDDEN);
            CHECK.due("without a league", new CannonPost().lands(0, 0, 1, 0, what), Check.HIDDEN);
        }
        CHECK.due("what 2", x.lands(0, 0, 1, 0, 2), Check.HIDDEN);
        CHECK.due("what -1", x.lands(0, 0, 1, 0, -1), Check.HIDDEN);
    }

    private static void aims() {
        CannonPost x = Check.post(LEAGUE);
        for (int f = 0; f < 3; f++) {
            for (int g = 0; g < 3; g++) {
                CHECK.due("aim(0, " + f + ", " + g + ")", x.aim(0, f, g), leastByHand(x, 0, f, g));
                CHECK.due("aim(1, " + f + ", " + g + ")", x.aim(1, f, g), leastByHand(x, 1, f, g));
            }
        }
        CHECK.due("aim(0, 0, 1)", x.aim(0, 0, 1), 2);
        CHECK.due("aim(0, 0, 2)", x.aim(0, 0, 2), 6);
        CHECK.due("aim(0, 1, 0)", x.aim(0, 1, 0), 3);
        CHECK.due("aim(1, 0, 1)", x.aim(1, 0, 1), 4);
        CHECK.due("to itself", x.aim(0, 1, 1), -1);
        CHECK.due("carrier 2", x.aim(2, 0, 1), -1);
        CHECK.due("carrier -1", x.aim(-1, 0, 1), -1);
        CHECK.due("fort 3", x.aim(0, 3, 1), -1);
        CHECK.due("fort -1", x.aim(0, -1, 1), -1);
        CHECK.due("other 3", x.aim(0, 1, 3), -1);
        CHECK.due("other -1", x.aim(0, 1, -1), -1);
        CHECK.due("without a league", new CannonPost().aim(0, 0, 1), -1);
        CannonPost far = Check.post("sw0;f;fx14;cm9");
        CHECK.due("with all of 20", far.aim(0, 0, 1), 20);
        far = Check.post("sw0;f;fx15;cm9");
        CHECK.due("beyond what 20 brings", far.aim(0, 0, 1), -1);
    }

    private static int leastByHand(CannonPost x, int carrier, int from, int to) {
        int way = x.fort(to, 0) > x.fort(from, 0) ? 0 : 1;
        for (int p = 1; p <= 20 && from != to; p++) {
            if (x.lands(carrier, from, p, way, 0) == to) {
                return p;
            }
        }
        return -1;
    }

    private static void aimsNotRising() {
        CannonPost x = Check.post("sw0;f;fx9;fx20;c");
        Check.tell(x, Check.LAW, "y:p=3|p=7?10;y:p<6?20");
        x.law(0);
        CHECK.due("the least of several", x.aim(0, 0, 1), 3);
        CHECK.due("the least that brings it further", x.aim(0, 0, 2), 1);
        CHECK.due("back", x.aim(0, 1, 0), 3);
        CHECK.due("further back", x.aim(0, 2, 0), 1);
        CHECK.due("back to the middle", x.aim(0, 2, 1), 3);
    }

    private static void aimsFollowWeather() {
        CannonPost x = Check.post("sw0;f;fx20;cm3");
        Check.tell(x, Check.LAW, "y:p*4");
        CHECK.due("calm", x.aim(0, 0, 1), 10);
        x.wind(4, 0);
        CHECK.due("wind", x.aim(0, 0, 1), 8);
        x.wind(4, 1);
        CHECK.due("its way", x.aim(0, 0, 1), 12);
        x.damp(4);
        CHECK.due("damp", x.aim(0, 0, 1), 14);
        x.law(0);
        CHECK.due("a law", x.aim(0, 0, 1), 5);
        x.law(-1);
        CHECK.due("no law", x.aim(0, 0, 1), 14);
        x.undo();
        CHECK.due("undone", x.aim(0, 0, 1), 12);
        Check.tell(x, Check.LEAGUE, "sw4d1;f;fx10;cm3");
        CHECK.due("another league", x.aim(0, 0, 1), 7);
    }

    /** Aims are kept as long as the weather is: it is changed to and fro, so that an old one would show. */
    private static void aimsInAllWeather() {
        long draws = 7;
        for (int i = 0; i < 30; i++) {
            CannonPost x = Check.post("sw0;f;fx20;fx31;cm3;cm4");
            Check.tell(x, Check.LAW, "y:p+w+9-d");
            for (int k = 0; k < 9; k++) {
                draws = draws * 6364136223846793005L + 1442695040888963407L;
                changeWeather(x, (int) (draws >>> 33));
                CHECK.due("aim(0, 0, 1), " + i + ", " + k, x.aim(0, 0, 1), leastByHand(x, 0, 0, 1));
                CHECK.due("aim(1, 2, 1), " + i + ", " + k, x.aim(1, 2, 1), leastByHand(x, 1, 2, 1));
            }
        }
    }

    /** From each LAW and weather to those beside it and back: none may be taken for another. */
    private static void aimsBesideEachWeather() {
        for (int i = 0; i < 2000; i++) {
            int[] here = {i / 400 - 1, i / 40 % 10, i / 20 % 2, i / 2 % 10};
            CannonPost x = Check.post("sw0;f;fx20;cm6");
            for (int law = 0; law < 4; law++) {
                Check.tell(x, Check.LAW, "y:p+w-d+" + (law + 1));
            }
            dueAim(x, here);
            for (int k = 0; k < 45; k++) {
                int[] there = {here[0] + k % 3 - 1, here[1] + k / 3 % 3 - 1, (here[2] + i) % 2, here[3] + new int[] {-9, -1, 0, 1, 9}[k / 9]};
                if (there[0] >= -1 && there[0] <= 3 && there[1] >= 0 && there[1] <= 9 && there[3] >= 0 && there[3] <= 9) {
                    dueAim(x, there);
                    dueAim(x, here);
                }
            }
        }
    }

    /** One of WEIGHT 6 without a LAW, and by the LAWS above one more each, flies as far as its POWDER and the wind. */
    private static void dueAim(CannonPost x, int[] weather) {
        x.law(weather[0]);
        x.wind(weather[1], weather[2]);
        x.damp(weather[3]);
        int least = 19 - (weather[2] == 0 ? weather[1] : -weather[1]) + weather[3] - weather[0] - 1;
        CHECK.due("aim in weather " + java.util.Arrays.toString(weather), x.aim(0, 0, 1), least > 20 ? -1 : least);
    }

    private static void changeWeather(CannonPost x, int draw) {
        switch (draw % 5) {
            case 0:
                x.law(draw / 5 % 2 - 1);
                break;
            case 1:
                x.damp(draw / 5 % 10);
                break;
            case 2:
                x.wind(x.rule(0), 1 - x.rule(1));
                break;
            case 3:
                x.undo();
                break;
            default:
                x.wind(draw / 5 % 10, x.rule(1));
                break;
        }
    }

    private static void gusts() {
        CannonPost x = Check.post(LEAGUE);
        CHECK.due("lands without alone", x.gusts(0, 0, 2, 0, 40), 60);
        CHECK.due("lands with alone", x.gusts(0, 0, 1, 0, 40), 40);
        CHECK.due("lands neither way", x.gusts(0, 0, 4, 0, 40), 0);
        CHECK.due("no chance", x.gusts(0, 0, 1, 0, 0), 0);
        CHECK.due("all chance", x.gusts(0, 0, 1, 0, 100), 100);
        CHECK.due("against the wind", x.gusts(0, 2, 4, 1, 30), 70);
        CHECK.due("where it was shot, both", x.gusts(0, 2, 1, 1, 30), 100);
        CHECK.due("chance 101", x.gusts(0, 0, 1, 0, 101), -1);
        CHECK.due("chance -1", x.gusts(0, 0, 1, 0, -1), -1);
        CHECK.due("chance -1, another", x.gusts(0, 0, 2, 0, -1), -1);
        CHECK.due("chance 101, another", x.gusts(0, 0, 2, 0, 101), -1);
        CHECK.due("carrier 2", x.gusts(2, 0, 1, 0, 50), -1);
        CHECK.due("fort 3", x.gusts(0, 3, 1, 0, 50), -1);
        CHECK.due("powder 0", x.gusts(0, 0, 0, 0, 50), -1);
        CHECK.due("powder 21", x.gusts(0, 0, 21, 0, 50), -1);
        CHECK.due("way 2", x.gusts(0, 0, 1, 2, 50), -1);
        CHECK.due("without a league", new CannonPost().gusts(0, 0, 1, 0, 50), -1);
        x.damp(2);
        CHECK.due("with damp", x.gusts(0, 0, 3, 0, 25), 75);
        CHECK.due("nothing changed", x.rule(0), 1);
    }

    private static void gustBeyondNine() {
        CannonPost x = Check.post("sw9;f;fx12;cm9");
        Check.tell(x, Check.LAW, "y:w");
        x.law(0);
        CHECK.due("twelve with it", x.gusts(0, 0, 1, 0, 35), 35);
        CHECK.due("against it, where it is", x.gusts(0, 0, 1, 1, 35), 100);
        x.wind(9, 1);
        CHECK.due("twelve by the other way", x.gusts(0, 1, 1, 1, 35), 35);
    }

    private static void passes() {
        CannonPost x = Check.post(LEAGUE);
        CHECK.due("3 and 6 against 5 and 14", x.passing(0, 1), 2);
        CHECK.due("the other way about", x.passing(1, 0), 1);
        CHECK.due("alike", x.passing(0, 0), -1);
        CHECK.due("no such one", x.passing(0, 2), -1);
        CHECK.due("no such first", x.passing(-1, 0), -1);
        CHECK.due("without a league", new CannonPost().passing(0, 1), -1);
        x.shoot(1, 20, 0, 0);
        CHECK.due("the second late", x.passing(0, 1), -1);
        CHECK.due("the first late", x.passing(1, 0), -1);
        CannonPost even = Check.post("sw0;f;fx12;cm3;cm3f1;cm9f1;cf1");
        CHECK.due("as much", even.passing(0, 1), 0);
        CHECK.due("in one fort", even.passing(1, 3), -1);
        CHECK.due("a heavy one", even.passing(0, 2), 2);
        CannonPost far = Check.post("sw0;f;fx20;cm3;cm9f1");
        CHECK.due("the first can", far.aim(0, 0, 1), 10);
        CHECK.due("the second can't", far.passing(0, 1), -1);
        CHECK.due("the first can't", far.passing(1, 0), -1);
        CannonPost mixed = Check.post("sw0;f;fx12;cm2;cm3f1");
        CHECK.due("weight and powder", mixed.passing(0, 1), 2);
    }
}
