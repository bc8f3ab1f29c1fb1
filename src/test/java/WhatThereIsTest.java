/** Promises 6 to 8, 10, 40 to 45 and 50: what can be asked of a LEAGUE as it is. */
final class WhatThereIsTest {
    private static final Check CHECK = new Check();
    private static final String LEAGUE = "sw4d1p30b2;fx10h3y1;fx2h7y0;fx16h7y5;cm2n8f1;cm9n0f1;cf2";

    public static void main(String[] args) {
        rules();
        forts();
        carriers();
        dampsSet();
        stocks();
        hays();
        bests();
        bits();
        counts();
        CHECK.close();
    }

    private static void rules() {
        CannonPost x = Check.post(LEAGUE);
        int[] want = {4, 1, 30, 2, 0};
        for (int i = 0; i < want.length; i++) {
            CHECK.due("rule(" + i + ")", x.rule(i), want[i]);
        }
        CHECK.due("rule(5)", x.rule(5), -1);
        CHECK.due("rule(-1)", x.rule(-1), -1);
        x.shoot(0, 7, 0, 0);
        x.wind(8, 0);
        x.damp(6);
        int[] then = {8, 0, 23, 2, 6};
        for (int i = 0; i < then.length; i++) {
            CHECK.due("rule(" + i + ") then", x.rule(i), then[i]);
        }
    }

    private static void forts() {
        CannonPost x = Check.post(LEAGUE);
        int[][] want = {{10, 3, 1, 0}, {2, 7, 0, 0}, {16, 7, 5, 0}};
        for (int f = 0; f < 3; f++) {
            for (int i = 0; i < 4; i++) {
                CHECK.due("fort(" + f + ", " + i + ")", x.fort(f, i), want[f][i]);
            }
        }
        x.hear(1, 0);
        x.hear(1, 4);
        CHECK.due("news as bits", x.fort(1, 3), 17);
        CHECK.due("news elsewhere", x.fort(0, 3), 0);
        CHECK.due("fort(3, 0)", x.fort(3, 0), -1);
        CHECK.due("fort(-1, 0)", x.fort(-1, 0), -1);
        CHECK.due("fort(0, 4)", x.fort(0, 4), -1);
        CHECK.due("fort(0, -1)", x.fort(0, -1), -1);
        CHECK.due("fort of the greatest number", x.fort(Integer.MAX_VALUE, 0), -1);
    }

    private static void carriers() {
        CannonPost x = Check.post(LEAGUE);
        int[][] want = {{2, 8, 1, 0, 0}, {9, 0, 1, 0, 0}, {3, 5, 2, 0, 0}};
        for (int c = 0; c < 3; c++) {
            for (int i = 0; i < 5; i++) {
                CHECK.due("carrier(" + c + ", " + i + ")", x.carrier(c, i), want[c][i]);
            }
        }
        CHECK.dueThrow(x, 3, 0);
        CHECK.dueThrow(x, -1, 0);
        CHECK.dueThrow(x, 0, 5);
        CHECK.dueThrow(x, 0, -1);
        CHECK.dueThrow(x, Integer.MIN_VALUE, Integer.MAX_VALUE);
    }

    private static void dampsSet() {
        CannonPost x = new CannonPost();
        CHECK.fails("damps(0) at first", x.damps(0));
        CHECK.holds("damps(9)", x.damps(9));
        CHECK.due("count(9)", x.count(9), 9);
        CHECK.fails("damps(9) again", x.damps(9));
        CHECK.fails("damps(10)", x.damps(10));
        CHECK.fails("damps(-1)", x.damps(-1));
        CHECK.due("count(9) still", x.count(9), 9);
        CHECK.holds("damps(0)", x.damps(0));
        CHECK.due("count(9) then", x.count(9), 0);
        CHECK.due("no act", x.count(13), 0);
    }

    private static void stocks() {
        CannonPost x = Check.post(LEAGUE);
        CHECK.due("stock(1)", x.stock(1), 30);
        CHECK.due("stock(7)", x.stock(7), 4);
        CHECK.due("stock(15)", x.stock(15), 2);
        CHECK.due("stock(16)", x.stock(16), 1);
        CHECK.due("stock(20)", x.stock(20), 1);
        CHECK.due("stock(21)", x.stock(21), -1);
        CHECK.due("stock(0)", x.stock(0), -1);
        CHECK.due("stock(-1)", x.stock(-1), -1);
        x.shoot(0, 20, 0, 0);
        CHECK.due("stock(11) of ten", x.stock(11), 0);
        CHECK.due("stock without a league", new CannonPost().stock(1), -1);
    }

    private static void hays() {
        CannonPost x = Check.post(LEAGUE);
        for (int n = 0; n <= 9; n++) {
            CHECK.due("hays(" + n + ")", x.hays(n), 4 * n);
        }
        CHECK.due("hays(10)", x.hays(10), -1);
        CHECK.due("hays(-1)", x.hays(-1), -1);
        x.hours(3);
        CHECK.due("hays(1) an hour ahead", x.hays(1), 1);
        CHECK.due("hays(2) five hours ahead", x.hays(2), 5);
        CHECK.due("hays(0) now", x.hays(0), 0);
        x.hours(1);
        CHECK.due("hays(1) now", x.hays(1), 0);
        CHECK.due("hays(2) four hours ahead", x.hays(2), 4);
        x.stack(1, 8);
        CHECK.due("the least of others", x.hays(3), 4);
        CHECK.due("hays without a league", new CannonPost().hays(0), -1);
    }

    private static void bests() {
        CannonPost x = Check.post(LEAGUE);
        CHECK.due("highest, of two the lowest", x.best(0, 0), 1);
        CHECK.due("highest, wherever", x.best(0, Integer.MIN_VALUE), 1);
        CHECK.due("nearest to 2", x.best(1, 2), 1);
        CHECK.due("nearest to 5", x.best(1, 5), 1);
        CHECK.due("nearest to 6, of two the lowest", x.best(1, 6), 0);
        CHECK.due("nearest to 13, of two the lowest", x.best(1, 13), 0);
        CHECK.due("nearest to 14", x.best(1, 14), 2);
        CHECK.due("nearest to the least number", x.best(1, Integer.MIN_VALUE), 1);
        CHECK.due("nearest to the greatest number", x.best(1, Integer.MAX_VALUE), 2);
        CHECK.due("best(2, 0)", x.best(2, 0), -1);
        CHECK.due("best(-1, 0)", x.best(-1, 0), -1);
        CHECK.due("best(0, 0) without a league", new CannonPost().best(0, 0), -1);
        CHECK.due("best(1, 0) without a league", new CannonPost().best(1, 0), -1);
        CHECK.due("highest, the last", Check.post("f;fx1h1;fx2h2;c").best(0, 0), 2);
        CHECK.due("highest, the first", Check.post("fh4;fx1h1;fx2h2;c").best(0, 0), 0);
    }

    private static void bits() {
        CannonPost x = Check.post(LEAGUE);
        CHECK.due("free()", x.free(), 7);
        CHECK.due("home(0)", x.home(0), 0);
        CHECK.due("home(1)", x.home(1), 3);
        CHECK.due("home(2)", x.home(2), 4);
        CHECK.due("home(3)", x.home(3), -1);
        CHECK.due("home(-1)", x.home(-1), -1);
        CHECK.due("shoot into the lake", x.shoot(0, 20, 0, 0), -2);
        CHECK.due("free() then", x.free(), 6);
        CHECK.due("home(1) then", x.home(1), 2);
        x.hours(1);
        CHECK.due("free() an hour later", x.free(), 6);
        x.hours(1);
        CHECK.due("free() two hours later", x.free(), 7);
        CHECK.due("home(1) two hours later", x.home(1), 3);
        x.hear(0, 5);
        x.hear(2, 5);
        x.hear(2, 0);
        CHECK.due("known(5)", x.known(5), 5);
        CHECK.due("known(0)", x.known(0), 4);
        CHECK.due("known(1)", x.known(1), 0);
        CHECK.due("known(6)", x.known(6), -1);
        CHECK.due("known(-1)", x.known(-1), -1);
        CHECK.due("free() without a league", new CannonPost().free(), -1);
        CHECK.due("home(0) without a league", new CannonPost().home(0), -1);
        CHECK.due("known(0) without a league", new CannonPost().known(0), -1);
    }

    private static void counts() {
        CannonPost x = Check.post(LEAGUE);
        Check.tell(x, Check.LAW, "y:0");
        Check.tell(x, Check.LAW, "y:1");
        Check.tell(x, Check.PLAN, "h1");
        Check.feedText(x, "abc");
        x.law(1);
        x.damps(2);
        x.law(0);
        x.shoot(0, 1, 0, 0);
        x.shoot(1, 1, 0, 0);
        x.law(1);
        x.hours(4);
        x.seen(0, 0, 1, 0, 0);
        x.face(0, true);
        x.face(0, false);
        int[] want = {3, 3, 2, 1, 3, 1, 4, 9, 2, 2, 1, 2, 2, 6};
        for (int i = 0; i < want.length; i++) {
            CHECK.due("count(" + i + ")", x.count(i), want[i]);
        }
        CHECK.due("count(14)", x.count(14), Check.HIDDEN);
        CHECK.due("count(-1)", x.count(-1), Check.HIDDEN);
    }
}
