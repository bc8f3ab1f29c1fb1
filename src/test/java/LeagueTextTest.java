/** Promises 4 and 5 for a LEAGUE: where its text is wrong, and what it makes. */
final class LeagueTextTest {
    private static final Check CHECK = new Check();
    private static final int SORT = Check.LEAGUE;

    public static void main(String[] args) {
        sound();
        wrongSigns();
        numbers();
        tooMany();
        behindAFullOne();
        endsTooEarly();
        usualItems();
        toldItems();
        refused();
        another();
        CHECK.close();
    }

    private static void sound() {
        CHECK.dueSound(SORT, "f;fx1;c");
        CHECK.dueSound(SORT, "c;f;s;fx1");
        CHECK.dueSound(SORT, "sw9d1p99b6;fx40h9y9;fx0h0y0;cm9n9f1;cm1n0f0");
        CHECK.dueSound(SORT, "sb6p00d0w0;fy0x39;fh1x40y2;cf1m1n0");
        CHECK.dueSound(SORT, "  f  x 4 ; f ; c m 2  f 1 ; s w 3 d 1 ");
        CHECK.dueSound(SORT, "f;fx1;fx2;fx3;fx4;fx5;fx6;fx7;c;c;c;c;cf7");
        CHECK.dueSound(SORT, "fx01;fx02;cm01f01;sb01w09");
        CHECK.dueSound(SORT, "cf1;f;fx2");
    }

    private static void wrongSigns() {
        CHECK.dueFault(SORT, "x", 0);
        CHECK.dueFault(SORT, "  x", 2);
        CHECK.dueFault(SORT, ";f", 0);
        CHECK.dueFault(SORT, "F", 0);
        CHECK.dueFault(SORT, "fw1", 1);
        CHECK.dueFault(SORT, "fm1", 1);
        CHECK.dueFault(SORT, "fb1", 1);
        CHECK.dueFault(SORT, "sx1", 1);
        CHECK.dueFault(SORT, "sm1", 1);
        CHECK.dueFault(SORT, "sf1", 1);
        CHECK.dueFault(SORT, "cx1", 1);
        CHECK.dueFault(SORT, "cy1", 1);
        CHECK.dueFault(SORT, "cb1", 1);
        CHECK.dueFault(SORT, "f1", 1);
        CHECK.dueFault(SORT, "fxx", 2);
        CHECK.dueFault(SORT, "fx;", 2);
        CHECK.dueFault(SORT, "fx-1", 2);
        CHECK.dueFault(SORT, "fx1,", 3);
        CHECK.dueFault(SORT, "f;;", 2);
        CHECK.dueFault(SORT, "f;fx1;c;q", 8);
        CHECK.dueFault(SORT, "fx1x1", 3);
        CHECK.dueFault(SORT, "fx1h1x1", 5);
        CHECK.dueFault(SORT, "sw1d1p1b1w1", 9);
        CHECK.dueFault(SORT, "cm1n1f1m1", 7);
        CHECK.dueFault(SORT, "f\tx", 1);
    }

    private static void numbers() {
        CHECK.dueFault(SORT, "sw10;", 3);
        CHECK.dueFault(SORT, "sd2", 2);
        CHECK.dueFault(SORT, "sd02", 3);
        CHECK.dueFault(SORT, "sb0", 2);
        CHECK.dueFault(SORT, "sb00", 3);
        CHECK.dueFault(SORT, "sb7", 2);
        CHECK.dueFault(SORT, "sb0;f", 2);
        CHECK.dueFault(SORT, "fx41", 3);
        CHECK.dueFault(SORT, "fh10", 3);
        CHECK.dueFault(SORT, "fy10", 3);
        CHECK.dueFault(SORT, "cm0", 2);
        CHECK.dueFault(SORT, "cm10", 3);
        CHECK.dueFault(SORT, "cn10", 3);
        CHECK.dueFault(SORT, "cf8", 2);
        CHECK.dueFault(SORT, "cf08", 3);
        CHECK.dueFault(SORT, "sp100", 4);
        CHECK.dueFault(SORT, "fx991", 4);
        CHECK.dueFault(SORT, "sb001", 4);
        CHECK.dueFault(SORT, "fx1 2", 4);
        CHECK.dueFault(SORT, "sb0 1", 2);
        CHECK.dueFault(SORT, "fx 41", 4);
        CHECK.dueFault(SORT, "fx", 2);
        CHECK.dueFault(SORT, "fx  ", 4);
    }

    private static void tooMany() {
        CHECK.dueFault(SORT, "s;s", 2);
        CHECK.dueFault(SORT, "sw1;f; s", 7);
        CHECK.dueFault(SORT, "f;f;f;f;f;f;f;f;f", 16);
        CHECK.dueFault(SORT, "c;c;c;c;c;c", 10);
        CHECK.dueFault(SORT, "f;f;f;f;f;f;f;f;  f", 18);
        CHECK.dueFault(SORT, "c;c;c;c;c;  c", 12);
    }

    /** Once s, eight f and five c are told, blanks behind a ; are still none of the FAULT. */
    private static void behindAFullOne() {
        String[] full = {
            "s;fx0;fx1;fx2;fx3;fx4;fx5;fx6;fx7;c;c;c;c;c",
            "c;c;c;c;c;fx0;fx1;fx2;fx3;fx4;fx5;fx6;fx7;sw9",
            " c ;c;s;c;c;c ;fx9;fx1;fx2;fx3;fx4;fx5;fx6;fx7 y 1 "};
        for (String league : full) {
            CHECK.dueSound(SORT, league);
            for (String blanks : new String[] {"", " ", "   "}) {
                String open = league + ";" + blanks;
                CHECK.dueFault(SORT, open, open.length());
                for (char sign : "sfcxw;0~\t".toCharArray()) {
                    CHECK.dueFault(SORT, open + sign, open.length());
                    CHECK.dueFault(SORT, open + sign + " ", open.length());
                }
                CHECK.dueFault(SORT, league + blanks + "x1", league.length() + blanks.length());
            }
        }
    }

    private static void endsTooEarly() {
        CHECK.dueFault(SORT, "", 0);
        CHECK.dueFault(SORT, "   ", 3);
        CHECK.dueFault(SORT, "s", 1);
        CHECK.dueFault(SORT, "f;c", 3);
        CHECK.dueFault(SORT, "f;fx1", 5);
        CHECK.dueFault(SORT, "f;fx1;c;", 8);
        CHECK.dueFault(SORT, "f;f;c", 5);
        CHECK.dueFault(SORT, "fx3;f;fx03;c ", 13);
        CHECK.dueFault(SORT, "f;fx1;cf2", 9);
        CHECK.dueFault(SORT, "f;fx1;c;cf7", 11);
        CHECK.dueFault(SORT, "f;f;c;~", 6);
        CHECK.dueFault(SORT, "f;fx1;cm", 8);
        CHECK.dueFault(SORT, "f;fx1;cm ", 9);
    }

    private static void usualItems() {
        CannonPost x = new CannonPost();
        CHECK.due("text(0)", Check.tell(x, SORT, "f;c;fx1"), 2);
        int[] rules = {1, 0, 50, 3, 0};
        for (int i = 0; i < rules.length; i++) {
            CHECK.due("usual rule " + i, x.rule(i), rules[i]);
        }
        int[] fort = {0, 0, 2, 0};
        for (int i = 0; i < fort.length; i++) {
            CHECK.due("usual fort " + i, x.fort(0, i), fort[i]);
        }
        int[] carrier = {3, 5, 0, 0, 0};
        for (int i = 0; i < carrier.length; i++) {
            CHECK.due("usual carrier " + i, x.carrier(0, i), carrier[i]);
        }
        CHECK.due("tape", x.count(4), 0);
    }

    private static void toldItems() {
        CannonPost x = new CannonPost();
        CHECK.due("text(0)", Check.tell(x, SORT, "cn8f2m7;fx40y9h1;sb6d1w9p07;fh9;fx2y0;c"), 3);
        int[] rules = {9, 1, 7, 6, 0};
        for (int i = 0; i < rules.length; i++) {
            CHECK.due("rule " + i, x.rule(i), rules[i]);
        }
        int[][] forts = {{40, 1, 9, 0}, {0, 9, 2, 0}, {2, 0, 0, 0}};
        for (int f = 0; f < forts.length; f++) {
            for (int i = 0; i < 4; i++) {
                CHECK.due("fort " + f + " " + i, x.fort(f, i), forts[f][i]);
            }
        }
        int[][] carriers = {{7, 8, 2, 0, 0}, {3, 5, 0, 0, 0}};
        for (int c = 0; c < carriers.length; c++) {
            for (int i = 0; i < 5; i++) {
                CHECK.due("carrier " + c + " " + i, x.carrier(c, i), carriers[c][i]);
            }
        }
    }

    private static void refused() {
        CannonPost x = Check.post("f;fx3;c");
        x.hours(3);
        Check.feedText(x, "f;fx5;cf2");
        String before = Check.stateOf(x);
        CHECK.due("fault", x.fault(0), 9);
        CHECK.due("text(0) of a wrong one", x.text(0), -1);
        CHECK.due("text(-1)", x.text(-1), -1);
        CHECK.due("text(3)", x.text(3), -1);
        CHECK.due("fault(3)", x.fault(3), -2);
        CHECK.due("fault(-1)", x.fault(-1), -2);
        CHECK.holds("nothing changed", before.equals(Check.stateOf(x)));
        x.end(5);
        Check.feedText(x, ";c");
        CHECK.due("text(0) of what is left of it", x.text(0), 2);
    }

    private static void another() {
        CannonPost x = Check.post("sb6;fx1y1;fx9;cm1n1;c");
        Check.tell(x, Check.LAW, "y:9");
        Check.tell(x, Check.PLAN, "h1");
        x.law(0);
        x.damps(4);
        x.damp(3);
        x.hear(0, 0);
        x.seen(0, 0, 1, 0, 10);
        x.face(1, true);
        x.shoot(0, 1, 0, 1);
        x.hours(5);
        x.image();
        CHECK.due("text(0)", Check.tell(x, SORT, "f;fx2;fx4;c"), 3);
        int[] want = {3, 1, 1, 1, 0, 0, 0, 6, 0, 4, 0, 0, 0, 0};
        for (int i = 0; i < want.length; i++) {
            CHECK.due("count(" + i + ") of another one", x.count(i), want[i]);
        }
        CHECK.due("damp is gone", x.rule(4), 0);
        CHECK.due("breath", x.rule(3), 3);
        CHECK.due("nothing known", x.known(0), 0);
        CHECK.due("no image of it", x.back(), -1);
        CHECK.due("nothing to undo", x.undo(), -1);
        CHECK.due("nobody late", x.free(), 1);
        CHECK.due("the law holds", x.lands(0, 0, 1, 0, 1), 9);
        CHECK.due("the plan is there", x.run(0, 0), -1);
        CHECK.due("all winds fit", x.winds(-1), 19);
        CHECK.due("no faces", x.meant(1), 333333);
        x.law(-1);
        CHECK.due("aims are those of the new one", x.aim(0, 0, 1), 1);
        CHECK.due("and from there", x.aim(0, 2, 1), 1);
    }
}
