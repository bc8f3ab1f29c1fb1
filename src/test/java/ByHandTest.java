/** Promises 11 to 17 and 20: SHOT, told, brought, set, HOURS, and the LOG. */
final class ByHandTest {
    private static final Check CHECK = new Check();
    private static final String LEAGUE = "sw1d0p30b2;fy1;fx6h1y0;fx14;cm3n4;cm5n9f2";

    public static void main(String[] args) {
        landsInHay();
        landsHurt();
        inTheLake();
        refusedShots();
        news();
        allNewsAtOnce();
        hurtAtMost();
        hears();
        stacks();
        grinds();
        winds();
        damps();
        hours();
        log();
        CHECK.close();
    }

    private static void landsInHay() {
        CannonPost x = Check.post(LEAGUE);
        CHECK.due("shoot to the fort at 14", x.shoot(0, 6, 0, 0), 2);
        CHECK.due("hay there", x.fort(2, 2), 1);
        CHECK.due("hay where it was", x.fort(0, 2), 1);
        CHECK.due("not hurt", x.carrier(0, 3), 0);
        CHECK.due("it is there", x.carrier(0, 2), 2);
        CHECK.due("not late", x.carrier(0, 4), 0);
        CHECK.due("powder", x.rule(2), 24);
        CHECK.due("an act", x.count(13), 1);
    }

    private static void landsHurt() {
        CannonPost x = Check.post(LEAGUE);
        CHECK.due("shoot without hay", x.shoot(0, 2, 0, 0), 1);
        CHECK.due("hurt once", x.carrier(0, 3), 1);
        CHECK.due("no hay still", x.fort(1, 2), 0);
        CHECK.due("it is there", x.carrier(0, 2), 1);
        CHECK.due("and back", x.shoot(0, 3, 1, 0), 0);
        CHECK.due("hurt no more", x.carrier(0, 3), 1);
        CHECK.due("hay is used", x.fort(0, 2), 0);
        CHECK.due("hurt of all", x.count(8), 1);
    }

    private static void inTheLake() {
        CannonPost x = Check.post(LEAGUE);
        x.hear(0, 1);
        CHECK.due("shoot into the lake", x.shoot(0, 1, 0, 2), -2);
        CHECK.due("late", x.carrier(0, 4), 2);
        CHECK.due("to which it will come", x.carrier(0, 2), 0);
        CHECK.due("not hurt", x.carrier(0, 3), 0);
        CHECK.due("hay of all", x.count(7), 3);
        CHECK.due("no other fort knows it", x.known(1), 1);
        CHECK.due("powder is less", x.rule(2), 29);
        CHECK.due("who is late is not shot", x.shoot(0, 6, 0, 0), -1);
        x.hours(1);
        CHECK.due("late for one", x.carrier(0, 4), 1);
        CHECK.due("still not shot", x.shoot(0, 6, 0, 0), -1);
        x.hours(1);
        CHECK.due("late no more", x.carrier(0, 4), 0);
        CHECK.due("it can be shot", x.shoot(0, 6, 0, 0), 2);
    }

    private static void refusedShots() {
        CannonPost x = Check.post(LEAGUE);
        x.hear(0, 0);
        x.hear(0, 1);
        x.hear(0, 2);
        String before = Check.stateOf(x);
        CHECK.due("carrier 2", x.shoot(2, 6, 0, 0), -1);
        CHECK.due("carrier -1", x.shoot(-1, 6, 0, 0), -1);
        CHECK.due("way 2", x.shoot(0, 6, 2, 0), -1);
        CHECK.due("way -1", x.shoot(0, 6, -1, 0), -1);
        CHECK.due("powder 0", x.shoot(0, 0, 0, 0), -1);
        CHECK.due("powder 21", x.shoot(0, 21, 0, 0), -1);
        CHECK.due("powder -1", x.shoot(0, -1, 0, 0), -1);
        CHECK.due("news 64", x.shoot(0, 6, 0, 64), -1);
        CHECK.due("news 65", x.shoot(0, 6, 0, 65), -1);
        CHECK.due("news -1", x.shoot(0, 6, 0, -1), -1);
        CHECK.due("news of the least number", x.shoot(0, 6, 0, Integer.MIN_VALUE), -1);
        CHECK.due("news not known", x.shoot(0, 6, 0, 8), -1);
        CHECK.due("news partly known", x.shoot(0, 6, 0, 9), -1);
        CHECK.due("news too long", x.shoot(0, 6, 0, 7), -1);
        CHECK.due("news known elsewhere", x.shoot(1, 6, 0, 1), -1);
        CHECK.holds("nothing changed", before.equals(Check.stateOf(x)));
        CHECK.due("as much news as breath", x.shoot(0, 6, 0, 5), 2);
        CHECK.due("powder", x.rule(2), 24);
        CHECK.due("shoot 20", x.shoot(0, 20, 0, 0), -2);
        CHECK.due("powder not there", x.shoot(1, 5, 0, 0), -1);
        CHECK.due("all powder that is there", x.shoot(1, 4, 0, 0), -2);
        CHECK.due("no powder", x.rule(2), 0);
        CHECK.due("without a league", new CannonPost().shoot(0, 1, 0, 0), -1);
    }

    private static void news() {
        CannonPost x = Check.post(LEAGUE);
        x.hear(0, 0);
        x.hear(0, 3);
        x.hear(0, 5);
        x.hear(2, 1);
        CHECK.due("shoot", x.shoot(0, 6, 0, 40), 2);
        CHECK.due("said there", x.fort(2, 3), 42);
        CHECK.due("known still", x.fort(0, 3), 41);
        CHECK.due("shoot on with what is known there", x.shoot(0, 8, 1, 10), 0);
        CHECK.due("said where it was", x.fort(0, 3), 43);
    }

    private static void allNewsAtOnce() {
        CannonPost x = Check.post("sb6;f;fx6;c");
        for (int n = 0; n < 6; n++) {
            x.hear(0, n);
        }
        CHECK.due("64 is no news", x.shoot(0, 2, 0, 64), -1);
        CHECK.due("nor is 127", x.shoot(0, 2, 0, 127), -1);
        CHECK.due("nor is -1", x.shoot(0, 2, 0, -1), -1);
        CHECK.due("nor is -64", x.shoot(0, 2, 0, -64), -1);
        CHECK.due("all six at once", x.shoot(0, 2, 0, 63), 1);
        CHECK.due("all six are said", x.fort(1, 3), 63);
    }

    private static void hurtAtMost() {
        CannonPost x = Check.post("sp99;fy0;fx9;c");
        Check.tell(x, Check.LAW, "y:0");
        x.law(0);
        for (int i = 0; i < 101; i++) {
            CHECK.due("shoot where it is", x.shoot(0, 1, i % 2, 0), 0);
            x.grind(1);
        }
        CHECK.due("hurt at most", x.carrier(0, 3), 99);
        CHECK.due("hurt of all", x.count(8), 99);
    }

    private static void hears() {
        CannonPost x = Check.post(LEAGUE);
        CHECK.fails("hear(3, 0)", x.hear(3, 0));
        CHECK.fails("hear(-1, 0)", x.hear(-1, 0));
        CHECK.fails("hear(0, 6)", x.hear(0, 6));
        CHECK.fails("hear(0, -1)", x.hear(0, -1));
        CHECK.due("no act", x.count(13), 0);
        for (int n = 0; n < 6; n++) {
            CHECK.holds("hear(1, n)", x.hear(1, n));
            CHECK.fails("hear(1, n) again", x.hear(1, n));
        }
        CHECK.due("all is known", x.fort(1, 3), 63);
        CHECK.due("acts", x.count(13), 6);
        CHECK.holds("hear elsewhere", x.hear(2, 0));
        CHECK.fails("hear without a league", new CannonPost().hear(0, 0));
    }

    private static void stacks() {
        CannonPost x = Check.post(LEAGUE);
        CHECK.due("stack(3, 1)", x.stack(3, 1), -1);
        CHECK.due("stack(-1, 1)", x.stack(-1, 1), -1);
        CHECK.due("stack(1, 0)", x.stack(1, 0), -1);
        CHECK.due("stack(1, -1)", x.stack(1, -1), -1);
        CHECK.due("stack(1, 10)", x.stack(1, 10), -1);
        CHECK.due("stack of the greatest number", x.stack(2, Integer.MAX_VALUE), -1);
        CHECK.due("stack above nine", x.stack(2, 8), -1);
        CHECK.due("no act", x.count(13), 0);
        CHECK.due("stack up to nine", x.stack(2, 7), 9);
        CHECK.due("stack(1, 9)", x.stack(1, 9), 9);
        CHECK.due("stack(0, 1)", x.stack(0, 1), 2);
        CHECK.due("hay there", x.fort(0, 2), 2);
        CHECK.due("acts", x.count(13), 3);
        CHECK.due("without a league", new CannonPost().stack(0, 1), -1);
    }

    private static void grinds() {
        CannonPost x = Check.post(LEAGUE);
        CHECK.due("grind(0)", x.grind(0), -1);
        CHECK.due("grind(-1)", x.grind(-1), -1);
        CHECK.due("grind(51)", x.grind(51), -1);
        CHECK.due("grind of the greatest number", x.grind(Integer.MAX_VALUE), -1);
        CHECK.due("no act", x.count(13), 0);
        CHECK.due("grind(50)", x.grind(50), 80);
        CHECK.due("grind above 99", x.grind(20), -1);
        CHECK.due("grind up to 99", x.grind(19), 99);
        CHECK.due("grind(1)", x.grind(1), -1);
        CHECK.due("powder", x.rule(2), 99);
        CHECK.due("acts", x.count(13), 2);
        CHECK.due("without a league", new CannonPost().grind(1), -1);
    }

    private static void winds() {
        CannonPost x = Check.post(LEAGUE);
        CHECK.fails("wind as it is", x.wind(1, 0));
        CHECK.fails("wind(10, 0)", x.wind(10, 0));
        CHECK.fails("wind(-1, 0)", x.wind(-1, 0));
        CHECK.fails("wind(2, 2)", x.wind(2, 2));
        CHECK.fails("wind(2, -1)", x.wind(2, -1));
        CHECK.due("no act", x.count(13), 0);
        CHECK.holds("wind(1, 1)", x.wind(1, 1));
        CHECK.fails("wind(1, 1) again", x.wind(1, 1));
        CHECK.holds("wind(9, 1)", x.wind(9, 1));
        CHECK.holds("wind(0, 1)", x.wind(0, 1));
        CHECK.holds("wind(0, 0)", x.wind(0, 0));
        CHECK.due("acts", x.count(13), 4);
        x.wind(3, 1);
        CHECK.due("wind", x.rule(0), 3);
        CHECK.due("way", x.rule(1), 1);
        CHECK.fails("without a league", new CannonPost().wind(0, 0));
        CHECK.fails("without a league, another", new CannonPost().wind(3, 1));
    }

    private static void damps() {
        CannonPost x = Check.post(LEAGUE);
        CHECK.fails("damp as it is", x.damp(0));
        CHECK.fails("damp(10)", x.damp(10));
        CHECK.fails("damp(-1)", x.damp(-1));
        CHECK.due("no act", x.count(13), 0);
        CHECK.holds("damp(9)", x.damp(9));
        CHECK.fails("damp(9) again", x.damp(9));
        CHECK.due("damp", x.rule(4), 9);
        CHECK.holds("damp(3)", x.damp(3));
        CHECK.due("less damp", x.lands(0, 0, 6, 0, 1), 10);
        CHECK.due("acts", x.count(13), 2);
        CHECK.fails("without a league", new CannonPost().damp(3));
    }

    private static void hours() {
        CannonPost x = Check.post("fy0;fx9y8;c");
        CHECK.due("hours(0)", x.hours(0), -1);
        CHECK.due("hours(-1)", x.hours(-1), -1);
        CHECK.due("hours(61)", x.hours(61), -1);
        CHECK.due("the hour", x.count(6), 0);
        CHECK.due("hours(3)", x.hours(3), 3);
        CHECK.due("no hay turned", x.fort(0, 2), 0);
        CHECK.due("acts", x.count(13), 3);
        CHECK.due("hours(1)", x.hours(1), 4);
        CHECK.due("hay is turned", x.fort(0, 2), 1);
        CHECK.due("hay is turned up to nine", x.fort(1, 2), 9);
        CHECK.due("hours(4)", x.hours(4), 8);
        CHECK.due("hay is turned again", x.fort(0, 2), 2);
        CHECK.due("nine at most", x.fort(1, 2), 9);
        CHECK.due("hours(60)", x.hours(60), 68);
        CHECK.due("acts at most", x.count(13), 40);
        CHECK.due("hay of all", x.count(7), 18);
        for (int i = 0; i < 165; i++) {
            x.hours(60);
        }
        CHECK.due("the hour", x.count(6), 9968);
        CHECK.due("beyond 9,999", x.hours(32), -1);
        CHECK.due("none went", x.count(6), 9968);
        CHECK.due("up to 9,999", x.hours(31), 9999);
        CHECK.due("one more", x.hours(1), -1);
        CHECK.due("without a league", new CannonPost().hours(1), -1);
    }

    private static void dueLog(CannonPost x, int i, int[] want) {
        for (int k = 0; k < 4; k++) {
            CHECK.due("log(" + i + ", " + k + ")", x.log(i, k), want[k]);
        }
    }

    private static void log() {
        CannonPost x = Check.post(LEAGUE);
        CHECK.due("log of nothing", x.log(0, 0), Check.HIDDEN);
        x.shoot(0, 6, 0, 0);
        x.shoot(1, 8, 1, 0);
        x.shoot(0, 1, 1, 0);
        CHECK.due("how long", x.count(12), 3);
        dueLog(x, 0, new int[] {0, 2, 2, 1});
        dueLog(x, 1, new int[] {1, 2, 1, 8});
        dueLog(x, 2, new int[] {0, 0, 2, 6});
        CHECK.due("log(3, 0)", x.log(3, 0), Check.HIDDEN);
        CHECK.due("log(-1, 0)", x.log(-1, 0), Check.HIDDEN);
        CHECK.due("log(0, 4)", x.log(0, 4), Check.HIDDEN);
        CHECK.due("log(0, -1)", x.log(0, -1), Check.HIDDEN);
        x.shoot(0, 15, 0, 0);
        dueLog(x, 0, new int[] {0, 2, -1, 15});
        CHECK.due("log without a league", new CannonPost().log(0, 0), Check.HIDDEN);
    }
}
