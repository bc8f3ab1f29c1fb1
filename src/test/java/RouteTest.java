/** Promises 26 to 29, 33 and 34: ROUTE, RELAY, SURE, SUREST, CUT, NET. */
final class RouteTest {
    private static final Check CHECK = new Check();
    /** With no wind one of WEIGHT 6 flies as far as its POWDER, 20 at most. */
    private static final String ROW = "sw0;f;fx18;fx36;fx10;fx28;cm6n4";

    public static void main(String[] args) {
        routes();
        ties();
        leastPowderBeatsDigits();
        longRow();
        tiesOfThree();
        refusedRoutes();
        sures();
        surests();
        nets();
        cuts();
        cutsByWays();
        relays();
        relayByMoving();
        relayTies();
        refusedRelays();
        CHECK.close();
    }

    private static void dueRoute(CannonPost x, int from, int to, int row, int powder) {
        CHECK.due("route(0, " + from + ", " + to + ", 0)", x.route(0, from, to, 0), row);
        CHECK.due("route(0, " + from + ", " + to + ", 1)", x.route(0, from, to, 1), powder);
    }

    private static void routes() {
        CannonPost x = Check.post(ROW);
        dueRoute(x, 0, 0, 0, 0);
        dueRoute(x, 0, 1, 1, 17);
        dueRoute(x, 0, 3, 3, 9);
        // 36 is two shots off: over 18 only, as 28 is too far from 0
        dueRoute(x, 0, 2, 12, 34);
        // 28 is two shots off: over 18 (17 + 9) or over 10 (9 + 17), as much powder
        dueRoute(x, 0, 4, 14, 26);
        dueRoute(x, 2, 0, 10, 34);
        dueRoute(x, 4, 0, 10, 26);
        dueRoute(x, 1, 0, 0, 17);
        dueRoute(x, 2, 3, 13, 24);
        dueRoute(x, 3, 2, 12, 24);
    }

    private static void ties() {
        CannonPost x = Check.post("sw0;fx20;fx10;fx30;fx0;fx40;cm6");
        dueRoute(x, 1, 2, 2, 19);
        dueRoute(x, 3, 4, 4, 38);
        // from 0 to 40: over 20 alone by two shots
        CHECK.due("its row begins with 0", x.route(0, 3, 4, 0), 4);
        dueRoute(x, 3, 2, 2, 28);
        dueRoute(x, 4, 3, 3, 38);
    }

    private static void leastPowderBeatsDigits() {
        // the fort at 12 has the height to send one on with little; with 11 one lands in that at 10, as near and lower
        CannonPost x = Check.post("sw0;f;fx10;fx12h9;fx30;cm6");
        dueRoute(x, 0, 3, 23, 20);
        CannonPost y = Check.post("sw0;f;fx12;fx10;fx30;cm6");
        dueRoute(y, 0, 3, 13, 28);
    }

    private static void longRow() {
        CannonPost x = Check.post("sw0;fx0;fx40;fx6;fx34;fx12;fx29;fx18;fx23;cm9");
        Check.tell(x, Check.LAW, "y:p<7?p");
        x.law(0);
        dueRoute(x, 0, 1, 2467531, 33);
        dueRoute(x, 1, 0, 3576420, 33);
        CHECK.due("sure over seven", x.sure(0, 0, 1), 27993600);
    }

    /** Two rows of three shots, 5 1 7 and 3 2 7; the law tells by the height from where it is. */
    private static void tiesOfThree() {
        String forts = "fh1;fx14h4;fx18h5;fx9h3;fx36;fx5h2;fx40;fx25;c";
        CannonPost x = Check.post(forts);
        Check.tell(x, Check.LAW, "y:h=1&p=1?5;y:h=1&p=2?9;y:h=2&p=3?9;y:h=3&p=2?9;y:h=4&p=1?11;y:h=5&p=1?7;y:60");
        x.law(0);
        dueRoute(x, 0, 7, 327, 5);
        Check.tell(x, Check.LAW, "y:h=1&p=1?5;y:h=1&p=3?9;y:h=2&p=3?9;y:h=3&p=2?9;y:h=4&p=1?11;y:h=5&p=1?7;y:60");
        x.law(1);
        dueRoute(x, 0, 7, 517, 5);
        Check.tell(x, Check.LAW, "y:h=1&p=2?5;y:h=1&p=1?9;y:h=2&p=3?9;y:h=3&p=2?9;y:h=4&p=1?11;y:h=5&p=1?7;y:60");
        x.law(2);
        dueRoute(x, 0, 7, 327, 4);
        CHECK.due("no way back", x.route(0, 7, 0, 0), -1);
        CHECK.due("some from 0", x.net(0), 175);
        CHECK.due("none from the end", x.net(7), 128);
    }

    private static void refusedRoutes() {
        CannonPost x = Check.post(ROW);
        CHECK.due("carrier 1", x.route(1, 0, 1, 0), -1);
        CHECK.due("carrier -1", x.route(-1, 0, 1, 0), -1);
        CHECK.due("fort 5", x.route(0, 5, 1, 0), -1);
        CHECK.due("fort -1", x.route(0, -1, 1, 0), -1);
        CHECK.due("other 5", x.route(0, 0, 5, 0), -1);
        CHECK.due("other -1", x.route(0, 0, -1, 0), -1);
        CHECK.due("what 2", x.route(0, 0, 1, 2), -1);
        CHECK.due("what -1", x.route(0, 0, 1, -1), -1);
        CHECK.due("without a league", new CannonPost().route(0, 0, 0, 0), -1);
        CannonPost far = Check.post("sw0;f;fx40;cm6");
        CHECK.due("there is none", far.route(0, 0, 1, 0), -1);
        CHECK.due("nor powder for it", far.route(0, 0, 1, 1), -1);
        CHECK.due("nor is it sure", far.sure(0, 0, 1), -1);
        CHECK.due("nor is there a surest", far.surest(0, 1), -1);
        CHECK.due("but to itself", far.sure(0, 1, 1), 1000000000);
    }

    private static void sures() {
        CannonPost x = Check.post(ROW);
        CHECK.due("to itself", x.sure(0, 2, 2), 1000000000);
        CHECK.due("over one", x.sure(0, 0, 1), 500000000);
        CHECK.due("over two", x.sure(0, 0, 2), 250000000);
        CHECK.due("carrier 1", x.sure(1, 0, 2), -1);
        CHECK.due("carrier -1", x.sure(-1, 0, 2), -1);
        CHECK.due("fort 5", x.sure(0, 5, 2), -1);
        CHECK.due("other 5", x.sure(0, 2, 5), -1);
        CHECK.due("other -1", x.sure(0, 2, -1), -1);
        CHECK.due("without a league", new CannonPost().sure(0, 0, 0), -1);
        CHECK.due("nerve 9", Check.post("sw0;f;fx9;cm6n9").sure(0, 0, 1), 1000000000);
        CHECK.due("nerve 0", Check.post("sw0;f;fx9;cm6n0").sure(0, 0, 1), 100000000);
    }

    private static void surests() {
        // one of weight 3 comes to 36 by one shot, those of weight 6 by two
        CannonPost x = Check.post("sw0;f;fx18;fx36;cm6n6;cm3n4;cm6n7;cm3n4;cm9n9");
        CHECK.due("half by one shot, 64 of 100 by two", x.surest(0, 2), 2);
        CHECK.due("by one shot the most nerve of those who can", x.surest(0, 1), 2);
        CHECK.due("of all alike the lowest", x.surest(1, 1), 0);
        CannonPost y = Check.post("sw0;f;fx18;fx36;cm9n9;cm6n6;cm3n4;cm3n4");
        CHECK.due("of two the lowest", y.surest(0, 2), 2);
        CHECK.due("fort 3", x.surest(3, 0), -1);
        CHECK.due("fort -1", x.surest(-1, 0), -1);
        CHECK.due("other 3", x.surest(0, 3), -1);
        CHECK.due("other -1", x.surest(0, -1), -1);
        CHECK.due("without a league", new CannonPost().surest(0, 0), -1);
    }

    private static void nets() {
        CannonPost x = Check.post("sw0;f;fx18;fx40;cm6");
        CHECK.due("net(0)", x.net(0), 3);
        CHECK.due("net(1)", x.net(1), 3);
        CHECK.due("net(2)", x.net(2), 4);
        CHECK.due("net(3)", x.net(3), -1);
        CHECK.due("net(-1)", x.net(-1), -1);
        CHECK.due("without a league", new CannonPost().net(0), -1);
        x.wind(3, 0);
        CHECK.due("the wind brings one over", x.net(0), 7);
        CHECK.due("but not back", x.net(2), 4);
        CannonPost two = Check.post("sw0;f;fx18;fx40;cm6;cm3");
        CHECK.due("any carrier will do", two.net(2), 7);
        CannonPost late = Check.post("sw0;f;fx18;fx40;cm3");
        late.shoot(0, 20, 0, 0);
        late.hours(2);
        late.shoot(0, 20, 1, 0);
        CHECK.due("who is late counts too", late.net(0), 7);
        CannonPost all = Check.post("sw0;fx0;fx40;fx6;fx34;fx12;fx29;fx18;fx23;cm9");
        Check.tell(all, Check.LAW, "y:p<7?p");
        all.law(0);
        CHECK.due("all along the ridge", all.net(1), 255);
        CannonPost down = Check.post("fx0;fx5;fx10;fx15;fx20;fx25;fx30;fx35;c");
        Check.tell(down, Check.LAW, "y:p<6?p");
        down.law(0);
        CHECK.due("down the ridge", down.net(7), 255);
        CHECK.due("up the ridge", down.net(0), 255);
    }

    private static void cuts() {
        CannonPost x = Check.post("sw0;f;fx18;fx36;cm6");
        CHECK.due("the middle cuts off the end", x.cuts(), 2);
        CannonPost two = Check.post("sw0;f;fx17;fx19;fx36;cm6");
        CHECK.due("of two neither does", two.cuts(), 0);
        CannonPost row = Check.post("sw0;fx0;fx40;fx6;fx34;fx12;fx29;fx18;fx23;cm9");
        Check.tell(row, Check.LAW, "y:p<7?p");
        row.law(0);
        CHECK.due("all but the ends", row.cuts(), 252);
        CannonPost middle = Check.post("sw0;fx18;f;fx36;cm6");
        CHECK.due("0 is none", middle.cuts(), 0);
        CannonPost off = Check.post("sw0;f;fx5;fx40;fx39;cm6");
        CHECK.due("what can't be come to anyway", off.cuts(), 0);
        CHECK.due("without a league", new CannonPost().cuts(), -1);
    }

    private static void cutsByWays() {
        // with the wind one flies on from 0 to the end, but over the middle alone back
        CannonPost x = Check.post("sw9;f;fx14;fx28;cm6");
        CHECK.due("with the wind", x.cuts(), 0);
        x.wind(0, 0);
        CHECK.due("without it", x.cuts(), 2);
        CannonPost y = Check.post("sw0;f;fx10h1;fx20h1;cm6");
        Check.tell(y, Check.LAW, "y:h=0?0;y:p");
        y.law(0);
        CHECK.due("none can be come to from 0", y.cuts(), 0);
        CHECK.due("though others can from 1", y.net(1), 7);
        Check.tell(y, Check.LAW, "y:h=1?0;y:p");
        y.law(1);
        CHECK.due("all from 0 at once", y.cuts(), 0);
    }

    private static void dueRelay(CannonPost x, int news, int fort, int shots, int first) {
        CHECK.due("relay(" + news + ", " + fort + ", 0)", x.relay(news, fort, 0), shots);
        CHECK.due("relay(" + news + ", " + fort + ", 1)", x.relay(news, fort, 1), first);
    }

    private static void relays() {
        CannonPost x = Check.post("sw0p1;f;fx18;fx36;cm6;cm6f1");
        dueRelay(x, 0, 2, -1, -1);
        x.hear(0, 0);
        dueRelay(x, 0, 0, 0, 0);
        dueRelay(x, 0, 1, 1, 1);
        dueRelay(x, 0, 2, 2, 1);
        x.hear(1, 3);
        dueRelay(x, 3, 2, 1, 12);
        dueRelay(x, 3, 0, 1, 10);
        dueRelay(x, 5, 0, -1, -1);
        CannonPost one = Check.post("sw0;f;fx18;fx36;cm6");
        one.hear(0, 0);
        dueRelay(one, 0, 2, 2, 1);
        one.shoot(0, 5, 0, 0);
        dueRelay(one, 0, 1, -1, -1);
        CHECK.due("nothing moved", one.carrier(0, 2), 0);
        CannonPost late = Check.post("sw0;f;fx18;fx36;cm6;cm3;cm6f1");
        late.hear(0, 0);
        dueRelay(late, 0, 2, 1, 12);
        late.shoot(1, 20, 0, 0);
        dueRelay(late, 0, 2, 2, 1);
    }

    private static void relayByMoving() {
        // it must fetch the news first: there, and back
        CannonPost x = Check.post("sw0;f;fx18;fx36;cm6");
        x.hear(1, 2);
        dueRelay(x, 2, 0, 2, 1);
        dueRelay(x, 2, 2, 2, 1);
        x.hear(2, 4);
        dueRelay(x, 4, 1, 3, 1);
        dueRelay(x, 4, 0, -1, -1);
        // another one stands nearer
        CannonPost y = Check.post("sw0;f;fx18;fx36;cm6;cm6f2");
        y.hear(2, 4);
        dueRelay(y, 4, 1, 1, 11);
        dueRelay(y, 4, 0, 2, 11);
        CannonPost four = Check.post("sw0;f;fx10;fx20;fx30;fx40;cm6");
        Check.tell(four, Check.LAW, "y:p<11?p");
        four.law(0);
        four.hear(0, 1);
        dueRelay(four, 1, 3, 3, 1);
        dueRelay(four, 1, 4, -1, -1);
    }

    private static void relayTies() {
        CannonPost x = Check.post("sw0;fx18;f;fx36;fx20;cm6;cm6;cm6f1");
        x.hear(0, 0);
        dueRelay(x, 0, 2, 1, 2);
        dueRelay(x, 0, 1, 1, 1);
        x.hear(1, 1);
        // the first could go and fetch it, but the third brings it by one
        dueRelay(x, 1, 0, 1, 20);
        dueRelay(x, 1, 3, 1, 23);
        // two shots: the first goes to fetch (1), or the third brings it to 0 or 3
        dueRelay(x, 1, 2, 2, 20);
    }

    private static void refusedRelays() {
        CannonPost x = Check.post(ROW);
        x.hear(0, 0);
        CHECK.due("news 6", x.relay(6, 0, 0), -1);
        CHECK.due("news -1", x.relay(-1, 0, 0), -1);
        CHECK.due("fort 5", x.relay(0, 5, 0), -1);
        CHECK.due("fort -1", x.relay(0, -1, 0), -1);
        CHECK.due("what 2", x.relay(0, 1, 2), -1);
        CHECK.due("what -1", x.relay(0, 0, -1), -1);
        CHECK.due("without a league", new CannonPost().relay(0, 0, 0), -1);
    }
}
