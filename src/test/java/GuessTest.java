/** Promises 30 to 32 and 37 to 39: SEEN, WINDS, ASK, FACES, FOR, NEXT. */
final class GuessTest {
    private static final Check CHECK = new Check();
    private static final String LEAGUE = "sw1d0p30b1;fy1;fx6h1y0;fx14;cm3n4;cm5n9f2";

    public static void main(String[] args) {
        allWinds();
        sights();
        sightsBothWays();
        withoutDamp();
        byTheLawThatHolds();
        refusedSights();
        asks();
        asksByLaw();
        asksAtTheEdges();
        asksBetweenTwo();
        faces();
        next();
        CHECK.close();
    }

    private static void allWinds() {
        CannonPost x = Check.post(LEAGUE);
        CHECK.due("all of them", x.winds(-1), 19);
        for (int i = 0; i < 19; i++) {
            CHECK.due("winds(" + i + ")", x.winds(i), i < 10 ? i : i + 1);
        }
        CHECK.due("winds(19)", x.winds(19), -1);
        CHECK.due("winds(-2)", x.winds(-2), -1);
        CHECK.due("without a league", new CannonPost().winds(-1), -1);
        CHECK.due("without a league", new CannonPost().winds(0), -1);
    }

    private static void sights() {
        CannonPost x = Check.post(LEAGUE);
        // 6 * 1 / 3 is 2; none comes back behind where it was shot
        CHECK.due("seen", x.seen(0, 0, 1, 0, 0), 1);
        CHECK.due("2 or more against it", x.winds(-1), 8);
        CHECK.due("the first", x.winds(0), 12);
        CHECK.due("the last", x.winds(7), 19);
        CHECK.due("no ninth", x.winds(8), -1);
        CHECK.due("seen", x.seen(0, 0, 3, 0, 1), 2);
        CHECK.due("one fits", x.winds(-1), 1);
        CHECK.due("it is 5 against it", x.winds(0), 15);
        CHECK.due("no second", x.winds(1), -1);
        CHECK.due("seen", x.seen(0, 0, 3, 0, 2), 3);
        CHECK.due("none fits", x.winds(-1), 0);
        CHECK.due("no first", x.winds(0), -1);
        CHECK.due("no act", x.count(13), 0);
        CHECK.due("how many", x.count(10), 3);
    }

    private static void sightsBothWays() {
        CannonPost x = Check.post(LEAGUE);
        CHECK.due("seen by the other way", x.seen(0, 2, 3, 1, 5), 1);
        CHECK.due("3 with it", x.winds(0), 13);
        CHECK.due("alone", x.winds(-1), 1);
        x = Check.post(LEAGUE);
        x.seen(1, 1, 5, 0, 13);
        CHECK.due("calm", x.winds(0), 0);
        CHECK.due("calm is once alone", x.winds(-1), 1);
        x = Check.post(LEAGUE);
        x.seen(0, 2, 20, 0, 54);
        CHECK.due("not held at 60 yet", x.winds(-1), 1);
    }

    private static void withoutDamp() {
        CannonPost x = Check.post(LEAGUE);
        x.damp(2);
        x.seen(0, 0, 2, 0, 6);
        CHECK.due("one fits", x.winds(-1), 1);
        CHECK.due("damp does not matter", x.winds(0), 2);
        x.damp(9);
        x.wind(8, 1);
        CHECK.due("nor does the wind that is", x.winds(0), 2);
        CannonPost dry = Check.post("f;fx9;cm9");
        CannonPost wet = Check.post("f;fx9;cm9");
        wet.damp(9);
        CHECK.due("nor for what to ask", wet.ask(0, 0), dry.ask(0, 0));
    }

    private static void byTheLawThatHolds() {
        CannonPost x = Check.post(LEAGUE);
        Check.tell(x, Check.LAW, "y:10+w*2-d");
        x.seen(0, 0, 3, 0, 14);
        CHECK.due("as at first", x.winds(0), 8);
        x.law(0);
        CHECK.due("by the law", x.winds(-1), 1);
        CHECK.due("by the law", x.winds(0), 2);
        x.damp(5);
        CHECK.due("d is 0", x.winds(0), 2);
    }

    private static void refusedSights() {
        CannonPost x = Check.post(LEAGUE);
        CHECK.due("carrier 2", x.seen(2, 0, 1, 0, 0), -1);
        CHECK.due("carrier -1", x.seen(-1, 0, 1, 0, 0), -1);
        CHECK.due("fort 3", x.seen(0, 3, 1, 0, 0), -1);
        CHECK.due("fort -1", x.seen(0, -1, 1, 0, 0), -1);
        CHECK.due("powder 0", x.seen(0, 0, 0, 0, 0), -1);
        CHECK.due("powder 21", x.seen(0, 0, 21, 0, 0), -1);
        CHECK.due("way 2", x.seen(0, 0, 1, 2, 0), -1);
        CHECK.due("way -1", x.seen(0, 0, 1, -1, 0), -1);
        CHECK.due("place -61", x.seen(0, 0, 1, 0, -61), -1);
        CHECK.due("place 101", x.seen(0, 0, 1, 0, 101), -1);
        CHECK.due("none was taken", x.count(10), 0);
        CHECK.due("place -60", x.seen(0, 0, 1, 0, -60), 1);
        CHECK.due("place 100", x.seen(0, 0, 1, 0, 100), 2);
        for (int i = 3; i <= 10; i++) {
            CHECK.due("seen", x.seen(1, 2, 20, 1, 14), i);
        }
        CHECK.due("an eleventh", x.seen(1, 2, 20, 1, 14), -1);
        CHECK.due("ten", x.count(10), 10);
        CHECK.due("without a league", new CannonPost().seen(0, 0, 1, 0, 0), -1);
    }

    private static void asks() {
        CannonPost x = Check.post(LEAGUE);
        // 19 winds, held at 0: with 2 for each powder, 5 powder (10 beyond 9) tell all of them apart
        CHECK.due("ask by a light one", x.ask(0, 0), 5);
        // 6 * p / 5 reaches 9 with 8
        CHECK.due("ask by a heavy one", x.ask(1, 0), 8);
        CHECK.due("ask from a height", x.ask(0, 1), 4);
        CHECK.due("carrier 2", x.ask(2, 0), -1);
        CHECK.due("carrier -1", x.ask(-1, 0), -1);
        CHECK.due("fort 3", x.ask(0, 3), -1);
        CHECK.due("fort -1", x.ask(0, -1), -1);
        CHECK.due("without a league", new CannonPost().ask(0, 0), -1);
        x.seen(0, 0, 1, 0, 0);
        // winds 2 to 9 against way 0 are left: 8 and 9 are still told apart by 10 alone
        CHECK.due("ask behind what was seen", x.ask(0, 0), 5);
        x.seen(0, 0, 3, 0, 1);
        CHECK.due("one wind alone", x.ask(0, 0), 1);
        x.seen(0, 0, 3, 0, 2);
        CHECK.due("none", x.ask(0, 0), -1);
    }

    private static void asksByLaw() {
        CannonPost x = Check.post(LEAGUE);
        Check.tell(x, Check.LAW, "y:5");
        Check.tell(x, Check.LAW, "y:w<0&p=13?0-w;y:20");
        Check.tell(x, Check.LAW, "y:p=9?30+w;y:p>3?w/5+9;y:w/9+9");
        x.law(0);
        CHECK.due("nothing tells them apart", x.ask(0, 0), 1);
        x.law(1);
        CHECK.due("half of them, either way", x.ask(0, 0), 13);
        x.law(2);
        CHECK.due("all of them", x.ask(0, 0), 9);
        Check.tell(x, Check.LAW, "y:w>0?20;y:w<0?w+p+20;y:20");
        x.law(3);
        x.seen(0, 0, 1, 0, 20);
        CHECK.due("those by way 0, and 1 by way 1", x.winds(-1), 11);
        // by way 1 calm and the one by way 1 come to 20; from 10 powder on no other does
        CHECK.due("they differ by way 1", x.ask(0, 0), 110);
    }

    private static void asksAtTheEdges() {
        CannonPost x = Check.post(LEAGUE);
        Check.tell(x, Check.LAW, "y:60");
        Check.tell(x, Check.LAW, "y:p=20?30+w;y:59");
        Check.tell(x, Check.LAW, "y:w>0?9;y:w<0?8;y:p<5?9;y:7");
        x.law(0);
        CHECK.due("all come to the furthest", x.ask(0, 0), 1);
        x.law(1);
        CHECK.due("all of 20 powder", x.ask(0, 0), 20);
        x.law(2);
        // calm and 1 to 9 by way 0 come to 9 with 1 powder
        x.seen(0, 0, 1, 0, 9);
        CHECK.due("ten are left", x.winds(-1), 10);
        // by way 1 calm joins none of the nine; by way 0 from 5 powder on it joins none either
        CHECK.due("the first that is apart", x.ask(0, 0), 5);
    }

    private static void asksBetweenTwo() {
        CannonPost x = Check.post(LEAGUE);
        Check.tell(x, Check.LAW, "y:p=1&w>7?20;y:p=1?10;y:p<6?30;y:w+20");
        x.law(0);
        x.seen(0, 0, 1, 0, 20);
        CHECK.due("two are left", x.winds(-1), 2);
        CHECK.due("8", x.winds(0), 8);
        CHECK.due("9", x.winds(1), 9);
        CHECK.due("the first that tells them apart", x.ask(0, 0), 6);
    }

    private static void faces() {
        CannonPost x = Check.post(LEAGUE);
        CHECK.due("alike at first", x.meant(2), 333333);
        CHECK.due("face lit", x.face(0, true), 1);
        CHECK.due("8 of 14", x.meant(0), 571428);
        CHECK.due("3 of 14", x.meant(1), 214285);
        CHECK.due("face not lit", x.face(1, false), 2);
        // 8 * 7, 3 * 2, 3 * 7 of 83
        CHECK.due("56 of 83", x.meant(0), 674698);
        CHECK.due("6 of 83", x.meant(1), 72289);
        CHECK.due("21 of 83", x.meant(2), 253012);
        CHECK.due("meant(3)", x.meant(3), -1);
        CHECK.due("meant(-1)", x.meant(-1), -1);
        CHECK.due("face(3)", x.face(3, true), -1);
        CHECK.due("face(-1)", x.face(-1, false), -1);
        for (int i = 3; i <= 12; i++) {
            CHECK.due("face", x.face(2, true), i);
        }
        CHECK.due("a thirteenth", x.face(2, true), -1);
        CHECK.due("twelve", x.count(11), 12);
        // 21 * 8^10 of 21 * 8^10 + 62 * 3^10
        CHECK.due("nearly all", x.meant(2), 999837);
        CHECK.due("nearly nothing", x.meant(0), 146);
        CHECK.due("no act", x.count(13), 0);
        CHECK.due("without a league", new CannonPost().meant(0), -1);
        CHECK.due("without a league", new CannonPost().face(0, true), -1);
        CannonPost sure = Check.post("f;fx1;fx2;fx3;fx4;fx5;fx6;fx7;c");
        for (int i = 0; i < 12; i++) {
            sure.face(7, true);
        }
        CHECK.due("twelve lit", sure.meant(7), 999945);
        CHECK.due("an eighth at first", Check.post("f;fx1;fx2;fx3;fx4;fx5;fx6;fx7;c").meant(7), 125000);
    }

    private static void next() {
        CannonPost x = Check.post(LEAGUE);
        CHECK.due("of all alike the lowest", x.following(), 0);
        x.face(0, true);
        CHECK.due("where none were told", x.following(), 1);
        x.face(2, false);
        CHECK.due("still", x.following(), 1);
        x.face(1, false);
        CHECK.due("all were told of", x.following(), -1);
        CHECK.due("without a league", new CannonPost().following(), -1);
        CannonPost y = Check.post(LEAGUE);
        y.face(1, true);
        CHECK.due("the lowest yet", y.following(), 0);
    }
}
