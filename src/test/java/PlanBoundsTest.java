/** The bounds of PLANS (Terms 1 and 3, promises 4, 5 and 21 to 23): their texts, their STEPS, RUN and DO. */
final class PlanBoundsTest {
    private static final Bounds LOOK = new Bounds();
    private static final int SORT = Check.PLAN;
    private static final int ALL = Check.NONE;
    private static final Bounds.Past BUSY = Pasts::busy;
    private static final Bounds.Past FULL = PlanBoundsTest::tellFour;

    public static void main(String[] args) {
        fourPlans();
        oneToSixteenSteps();
        fourDigitsOfS();
        oneDigitOfH();
        twoDigitsOfW();
        twoDigitsOfN();
        noSuchStep();
        blanks();
        endsTooEarly();
        wrongTextChangesNothing();
        asLongAsATape();
        stepsOfAPlan();
        whatOfAStep();
        runsOfAPlan();
        runIsApart();
        noHoursCantBe();
        hoursBeyondTheLast();
        newsAboveFive();
        newsThatIsKnown();
        powderOfAStep();
        powderThatIsThere();
        windAsItIs();
        carriersAndFortsNotThere();
        lateOnes();
        allThatItCanSay();
        behindHowMany();
        performOfAPlan();
        stepsAsActs();
        LOOK.close();
    }

    private static void sound(String text) {
        LOOK.sound(SORT, text);
    }

    private static void wrong(String text, int at) {
        LOOK.wrong(SORT, text, at);
    }

    /** The last of them has sixteen STEPS, and a fifth is on the tape. */
    private static void tellFour(CannonPost x) {
        Check.tell(x, Check.LEAGUE, Pasts.LEAGUE);
        Check.tell(x, SORT, "h1");
        Check.tell(x, SORT, "h2;h3");
        Check.tell(x, SORT, "n00;s0103;w50;h4");
        Check.tell(x, SORT, "h9;".repeat(15) + "h8");
        Check.feedText(x, "h5;h6;h7");
    }

    /** "PLANS (4 at most)", "NONE: .. there are four" */
    private static void fourPlans() {
        CannonPost x = new CannonPost();
        for (int i = 0; i < 4; i++) {
            LOOK.due("plan " + i, Check.tell(x, SORT, "h" + i), i);
            LOOK.due("plans", x.count(3), i + 1);
            LOOK.due("empty tape", x.count(4), 0);
        }
        LOOK.due("a fifth", Check.tell(x, SORT, "h4"), Check.NONE);
        LOOK.due("four still", x.count(3), 4);
        LOOK.refused("a fifth plan", FULL, y -> y.text(SORT), Check.NONE);
        LOOK.unchanged("the fault of a fifth plan", FULL, y -> y.fault(SORT));
        LOOK.due("others can be told", Check.tell(Bounds.after(FULL), Check.LAW, "y:1"), 0);
    }

    /** "STEPS with ; between, 1 to 16", "the ; ahead of a 17th STEP" */
    private static void oneToSixteenSteps() {
        wrong("", 0);
        wrong(" ", 1);
        wrong(";", 0);
        for (int n : new int[] {1, 2, 15, 16}) {
            String text = "w31;".repeat(n - 1) + "w30";
            sound(text);
            CannonPost x = new CannonPost();
            Check.tell(x, SORT, text);
            LOOK.due("the last of " + n, x.step(0, n - 1, 2), 0);
            LOOK.due("no more than " + n, x.step(0, n, 0), Check.HIDDEN);
        }
        String full = "w31;".repeat(15) + "w30";
        wrong(full + ";", 63);
        wrong(full + "  ;", 65);
        wrong(full + ";w30", 63);
        wrong(full + ";;", 63);
        wrong(full + " x", 64);
        sound(full + "  ");
        wrong("w31;".repeat(14) + "w30;", 60);
        wrong("w31;;", 4);
    }

    /** "s and four digits (CARRIER, way 0 .. 1, POWDER: two digits ..)", "a way of a STEP above 1" */
    private static void fourDigitsOfS() {
        wrong("s", 1);
        wrong("s0", 2);
        wrong("s01", 3);
        wrong("s010", 4);
        sound("s0105");
        wrong("s01055", 5);
        for (int way = 0; way <= 9; way++) {
            String text = "s9" + way + "99";
            LOOK.dueFault(SORT, text, way <= 1 ? Check.NONE : 2);
            LOOK.dueFault(SORT, "s9 " + way + "99", way <= 1 ? Check.NONE : 3);
        }
        wrong("s0205", 2);
        for (int carrier = 0; carrier <= 9; carrier++) {
            for (String powder : new String[] {"00", "01", "09", "10", "20", "21", "90", "99"}) {
                CannonPost x = new CannonPost();
                LOOK.due("text(2)", Check.tell(x, SORT, "s" + carrier + "1" + powder), 0);
                LOOK.due("the first digit", x.step(0, 0, 1), carrier);
                LOOK.due("the second", x.step(0, 0, 2), 1);
                LOOK.due("powder, the first by ten", x.step(0, 0, 3), Integer.parseInt(powder));
            }
        }
        for (int i = 1; i <= 4; i++) {
            wrong("s0000".substring(0, i) + "/", i);
            wrong("s0000".substring(0, i) + ":", i);
        }
    }

    /** "h and a digit (HOURS)" */
    private static void oneDigitOfH() {
        wrong("h", 1);
        wrong("h/", 1);
        wrong("h:", 1);
        wrong("h10", 2);
        wrong("h1 0", 3);
        for (int hours = 0; hours <= 9; hours++) {
            CannonPost x = new CannonPost();
            LOOK.due("text(2)", Check.tell(x, SORT, "h" + hours), 0);
            int[] want = {1, hours, Check.NONE, Check.NONE};
            for (int what = 0; what <= 3; what++) {
                LOOK.due("h" + hours + ", " + what, x.step(0, 0, what), want[what]);
            }
        }
    }

    /** "w and two digits (WIND, way 0 .. 1)" */
    private static void twoDigitsOfW() {
        wrong("w", 1);
        wrong("w1", 2);
        wrong("w/0", 1);
        wrong("w:0", 1);
        wrong("w100", 3);
        for (int wind = 0; wind <= 9; wind++) {
            for (int way = 0; way <= 9; way++) {
                String text = "w" + wind + way;
                LOOK.dueFault(SORT, text, way <= 1 ? Check.NONE : 2);
                if (way <= 1) {
                    CannonPost x = new CannonPost();
                    Check.tell(x, SORT, text);
                    int[] want = {2, wind, way, Check.NONE};
                    for (int what = 0; what <= 3; what++) {
                        LOOK.due(text + ", " + what, x.step(0, 0, what), want[what]);
                    }
                }
            }
        }
    }

    /** "n and two digits (a FORT is told NEWS)", "(A CARRIER, a FORT of a STEP that is not there is no FAULT ..)" */
    private static void twoDigitsOfN() {
        wrong("n", 1);
        wrong("n1", 2);
        wrong("n/0", 1);
        wrong("n0:", 2);
        wrong("n000", 3);
        for (int fort = 0; fort <= 9; fort++) {
            for (int news = 0; news <= 9; news++) {
                CannonPost x = new CannonPost();
                LOOK.due("text(2)", Check.tell(x, SORT, "n" + fort + news), 0);
                int[] want = {3, fort, news, Check.NONE};
                for (int what = 0; what <= 3; what++) {
                    LOOK.due("n" + fort + news + ", " + what, x.step(0, 0, what), want[what]);
                }
            }
        }
    }

    private static void noSuchStep() {
        for (int sign = 1; sign <= 255; sign++) {
            if ("shwn ".indexOf(sign) < 0) {
                LOOK.dueFault(SORT, (char) sign + "1111", 0);
                LOOK.dueFault(SORT, "h1; " + (char) sign, 4);
            }
        }
    }

    /** "Blanks (32) may stand between all signs", "(between digits of a STEP they may)" */
    private static void blanks() {
        String text = "s0105;h3;w41;n25";
        for (int i = 0; i <= text.length(); i++) {
            String blanked = text.substring(0, i) + "  " + text.substring(i);
            CannonPost x = new CannonPost();
            LOOK.due("text(2) of '" + blanked + "'", Check.tell(x, SORT, blanked), 0);
            LOOK.due("powder", x.step(0, 0, 3), 5);
            LOOK.due("news", x.step(0, 3, 2), 5);
            LOOK.dueFault(SORT, text.substring(0, i) + (char) 9 + text.substring(i), i);
            LOOK.dueFault(SORT, text.substring(0, i) + (char) 160 + text.substring(i), i);
        }
        sound(" s 0 1 0 5 ; h 3 ; w 4 1 ; n 2 5 ");
    }

    /** "the length, if it ends too early" */
    private static void endsTooEarly() {
        String text = "s0105;h3;w41;n25;h1";
        for (int n = 0; n <= text.length(); n++) {
            boolean whole = n == 5 || n == 8 || n == 12 || n == 16 || n == text.length();
            LOOK.dueFault(SORT, text.substring(0, n), whole ? Check.NONE : n);
            LOOK.dueFault(SORT, text.substring(0, n) + "  ", whole ? Check.NONE : n + 2);
        }
    }

    private static void wrongTextChangesNothing() {
        for (String text : new String[] {"", "h", "h1;", "s02", "w12", "n1", "h12", "h1;h2;h3;q"}) {
            Bounds.Past fed = Pasts.busyWith(text);
            LOOK.refused("text(2) of '" + text + "'", fed, x -> x.text(SORT), Check.NONE);
            LOOK.unchanged("fault(2) of '" + text + "'", fed, x -> x.fault(SORT));
        }
        LOOK.unchanged("fault(2) of a plan", BUSY, x -> x.fault(SORT));
    }

    private static void asLongAsATape() {
        String full = "s 0 1 0 5  ;  ".repeat(16).substring(0, 221);
        for (int length = 239; length <= 240; length++) {
            String text = full + " ".repeat(length - full.length());
            sound(text);
            LOOK.dueFault(SORT, text.substring(0, length - 1) + ";", length - 1);
        }
    }

    // ---- STEPS

    /** "HIDDEN: no such ones": PLANS, STEPS and what of them. */
    private static void stepsOfAPlan() {
        LOOK.within("step of a plan", BUSY, 0, Pasts.PLANS - 1, (x, plan) -> x.step(plan, 0, 0), Check.HIDDEN);
        LOOK.within("step of four plans", FULL, 0, 3, (x, plan) -> x.step(plan, 0, 0), Check.HIDDEN);
        LOOK.within("step of one", FULL, 0, 0, (x, i) -> x.step(0, i, 1), Check.HIDDEN);
        LOOK.within("step of two", FULL, 0, 1, (x, i) -> x.step(1, i, 1), Check.HIDDEN);
        LOOK.within("step of sixteen", FULL, 0, 15, (x, i) -> x.step(3, i, 1), Check.HIDDEN);
        LOOK.due("the first of sixteen", Bounds.after(FULL).step(3, 0, 1), 9);
        LOOK.due("the last of sixteen", Bounds.after(FULL).step(3, 15, 1), 8);
        LOOK.refused("step of no plan", Pasts::nothing, x -> x.step(0, 0, 0), Check.HIDDEN);
    }

    private static void whatOfAStep() {
        for (int i = 0; i < 4; i++) {
            int step = i;
            LOOK.within("what of step " + i, FULL, 0, 3, (x, what) -> x.step(2, step, what), Check.HIDDEN);
        }
        int[][] want = {{3, 0, 0, -1}, {0, 0, 1, 3}, {2, 5, 0, -1}, {1, 4, -1, -1}};
        for (int i = 0; i < 4; i++) {
            for (int what = 0; what <= 3; what++) {
                LOOK.due("step(2, " + i + ", " + what + ")", Bounds.after(FULL).step(2, i, what), want[i][what]);
            }
        }
    }

    // ---- RUN

    private static void runsOfAPlan() {
        LOOK.within("run of a plan", BUSY, 0, Pasts.PLANS - 1, (x, plan) -> x.run(plan, 0), Check.HIDDEN);
        LOOK.within("run of four plans", FULL, 0, 3, (x, plan) -> x.run(plan, 1), Check.HIDDEN);
        LOOK.within("what of a run", BUSY, 0, 1, (x, what) -> x.run(0, what), Check.HIDDEN);
        LOOK.refused("run of no plan", Pasts::league, x -> x.run(0, 0), Check.HIDDEN);
    }

    /** "(Apart, from as it is ..)" */
    private static void runIsApart() {
        for (int plan = 0; plan < Pasts.PLANS; plan++) {
            for (int what = 0; what <= 1; what++) {
                int asked = plan;
                int of = what;
                LOOK.unchanged("run(" + plan + ", " + what + ")", BUSY, x -> x.run(asked, of));
            }
        }
    }

    /** A LEAGUE with POWDER 20, of which the FORTS are in reach of another; the PLAN is its first. */
    private static CannonPost planned(String plan) {
        CannonPost x = Check.post("sw1p20b2;f;fx9;fx20y0;cm3;cm3f1");
        if (Check.tell(x, SORT, plan) != 0) {
            throw new IllegalStateException("no plan: " + plan);
        }
        return x;
    }

    private static void dueRun(String plan, int behind, int powder) {
        dueRun(planned(plan), plan, behind, powder);
    }

    /** RUN tells, and DO does as much; behind ALL there is none that can't be. */
    private static void dueRun(CannonPost x, String plan, int behind, int powder) {
        int there = x.rule(2);
        LOOK.due("run of " + plan, x.run(0, 0), behind);
        LOOK.due("powder of " + plan, x.run(0, 1), powder);
        LOOK.due("powder still", x.rule(2), there);
        LOOK.due("perform of " + plan, x.perform(0), behind == ALL ? plan.split(";").length : behind);
        LOOK.due("powder then", x.rule(2), there - powder);
    }

    /** "0 HOURS" */
    private static void noHoursCantBe() {
        dueRun("h0", 0, 0);
        dueRun("h1", ALL, 0);
        dueRun("h9", ALL, 0);
        dueRun("h1;h0", 1, 0);
        CannonPost x = planned("h0;h1");
        x.perform(0);
        LOOK.due("no hour went by", x.count(6), 0);
    }

    /** "HOURS beyond 9,999": up to it, one beyond it. */
    private static void hoursBeyondTheLast() {
        for (int ahead = 0; ahead <= 9; ahead++) {
            for (int hours = Math.max(1, ahead - 1); hours <= Math.min(9, ahead + 1); hours++) {
                CannonPost x = new CannonPost();
                Pasts.hoursAhead(x, ahead);
                Check.tell(x, SORT, "h" + hours);
                dueRun(x, "h" + hours, hours <= ahead ? ALL : 0, 0);
                LOOK.due("the hour then", x.count(6), 9999 - (hours <= ahead ? ahead - hours : ahead));
            }
        }
        CannonPost x = new CannonPost();
        Pasts.hoursAhead(x, 3);
        Check.tell(x, SORT, "h2;h2;h1");
        dueRun(x, "h2;h2;h1", 1, 0);
        LOOK.due("the hours that can be", x.count(6), 9998);
        LOOK.due("and go on from there", x.run(0, 0), 0);
    }

    /** "NEWS above 5" */
    private static void newsAboveFive() {
        for (int news = 0; news <= 9; news++) {
            dueRun("n0" + news, news <= 5 ? ALL : 0, 0);
        }
    }

    /** "NEWS that is known can't be" */
    private static void newsThatIsKnown() {
        dueRun("n05;n05", 1, 0);
        for (int fort = 0; fort <= 7; fort++) {
            CannonPost each = Check.post("f;fx1;fx2;fx3;fx4;fx5;fx6;fx7;c");
            Check.tell(each, SORT, "n" + fort + "5;n" + fort + "0;n" + fort + "5");
            LOOK.due("told in " + fort, each.perform(0), 2);
            LOOK.due("known there alone", each.known(5), 1 << fort);
            LOOK.due("all that it knows", each.fort(fort, 3), 33);
        }
        dueRun("n05;n15;n25;n04;n04", 4, 0);
        dueRun("n00;s0004;n10", 2, 4);
        CannonPost x = planned("n12");
        x.hear(1, 2);
        LOOK.due("known by hand", x.run(0, 0), 0);
        x.undo();
        LOOK.due("known no more", x.run(0, 0), ALL);
    }

    /** "POWDER 0 or above 20 can't be" */
    private static void powderOfAStep() {
        dueRun("s0000", 0, 0);
        dueRun("s0001", ALL, 1);
        dueRun("s0019", ALL, 19);
        dueRun("s0020", ALL, 20);
        for (String powder : new String[] {"21", "22", "40", "99"}) {
            CannonPost x = Check.post("sp99;f;fx9;c");
            Check.tell(x, SORT, "s00" + powder);
            dueRun(x, "s00" + powder, 0, 0);
        }
    }

    private static void powderThatIsThere() {
        for (int there = 0; there <= 20; there++) {
            for (int powder = Math.max(1, there - 1); powder <= Math.min(20, there + 1); powder++) {
                String plan = "s00" + powder / 10 + powder % 10;
                CannonPost x = Check.post("sp" + there + ";f;fx9;c");
                Check.tell(x, SORT, plan);
                dueRun(x, plan, powder <= there ? ALL : 0, powder <= there ? powder : 0);
            }
        }
        dueRun("s0019;s1101", ALL, 20);
        dueRun("s0019;s1102", 1, 19);
        dueRun("s0020;s1101", 1, 20);
    }

    /** "WIND as it is" */
    private static void windAsItIs() {
        dueRun("w10", 0, 0);
        dueRun("w11", ALL, 0);
        dueRun("w00", ALL, 0);
        dueRun("w20", ALL, 0);
        dueRun("w91;w91", 1, 0);
        dueRun("w91;w90;w91", ALL, 0);
        dueRun("w00;w01;w00;w00", 3, 0);
    }

    private static void carriersAndFortsNotThere() {
        dueRun("s0001", ALL, 1);
        dueRun("s1001", ALL, 1);
        dueRun("s2001", 0, 0);
        dueRun("s9001", 0, 0);
        dueRun("n00", ALL, 0);
        dueRun("n20", ALL, 0);
        dueRun("n30", 0, 0);
        dueRun("n90", 0, 0);
        CannonPost x = Check.post("f;fx1;fx2;fx3;fx4;fx5;fx6;fx7;c;c;c;c;c");
        Check.tell(x, SORT, "n75;s4001;n85");
        dueRun(x, "n75;s4001;n85", 2, 1);
    }

    /** LATE for 2 HOURS: it can be SHOT behind two, not behind one. */
    private static void lateOnes() {
        dueRun("s0012;s0001", 1, 12);
        dueRun("s0012;h1;s0001", 2, 12);
        dueRun("s0012;h2;s0001", ALL, 13);
        dueRun("s0012;h1;h1;s0001", ALL, 13);
    }

    /** "NEWS of its FORT, the lowest, as many as BREATH" */
    private static void allThatItCanSay() {
        for (int breath = 1; breath <= 6; breath++) {
            for (int known = 0; known <= 63; known++) {
                CannonPost x = Check.post("sw1b" + breath + ";f;fx9;cm3");
                for (int n = 0; n <= 5; n++) {
                    if ((known >> n & 1) != 0) {
                        x.hear(0, n);
                    }
                }
                Check.tell(x, SORT, "s0004");
                x.perform(0);
                int want = known;
                for (int n = 5; n >= 0; n--) {
                    want = Integer.bitCount(want) > breath ? want & ~(1 << n) : want;
                }
                LOOK.due("said of " + known + " with breath " + breath, x.fort(1, 3), want);
            }
        }
        CannonPost last = Check.post("sw0b1;f;fx1;fx2;fx3;fx4;fx5;fx31;fx40;cm6f7;cm6f7;cm6f7;cm6f7;cm6f7");
        last.hear(0, 0);
        last.hear(6, 1);
        last.hear(7, 2);
        last.hear(7, 4);
        Check.tell(last, SORT, "s4109");
        LOOK.due("the last from the last", last.perform(0), 1);
        LOOK.due("said there", last.fort(6, 3), 6);
        LOOK.due("not said elsewhere", last.known(2), 192);
    }

    /** "behind how many STEPS the first is that can't be" */
    private static void behindHowMany() {
        for (int n = 0; n <= 15; n++) {
            String plan = "h1;".repeat(n) + "h0" + ";h1".repeat(15 - n);
            dueRun(plan, n, 0);
        }
        dueRun("h1" + ";h1".repeat(15), ALL, 0);
    }

    // ---- DO

    /** "NONE: no such PLAN, no LEAGUE." */
    private static void performOfAPlan() {
        LOOK.within("perform", BUSY, 0, Pasts.PLANS - 1, (x, plan) -> x.perform(plan), Check.NONE);
        LOOK.within("perform of four", FULL, 0, 3, (x, plan) -> x.perform(plan), Check.NONE);
        LOOK.refused("perform of no plan", Pasts::league, x -> x.perform(0), Check.NONE);
        Bounds.Past stuck = x -> {
            Pasts.busy(x);
            x.end(0);
            Check.tell(x, SORT, "h0;h1");
        };
        LOOK.refused("perform of what can't be at once", stuck, x -> x.perform(2), 0);
    }

    /** "its STEPS as ACTS, up to there", each HOUR one. */
    private static void stepsAsActs() {
        CannonPost x = planned("n00;s0004;h3;w50;h0;h1");
        LOOK.due("perform", x.perform(0), 4);
        LOOK.due("acts", x.count(13), 6);
        int[] hours = {3, 2, 1, 0, 0, 0};
        int[] winds = {1, 1, 1, 1, 1, 1};
        int[] powders = {16, 16, 16, 16, 20, 20};
        int[] known = {3, 3, 3, 3, 1, 0};
        for (int i = 0; i < 6; i++) {
            LOOK.due("undo", x.undo(), 5 - i);
            LOOK.due("hour", x.count(6), hours[i]);
            LOOK.due("wind", x.rule(0), winds[i]);
            LOOK.due("powder", x.rule(2), powders[i]);
            LOOK.due("known", x.known(0), known[i]);
        }
        CannonPost many = planned("h9;h9;h9;h9;h3");
        many.perform(0);
        LOOK.due("39 acts", many.count(13), 39);
        many = planned("h9;h9;h9;h9;h4");
        many.perform(0);
        LOOK.due("40 acts", many.count(13), 40);
        many = planned("h9;h9;h9;h9;h5");
        many.perform(0);
        LOOK.due("of 41 the latest 40", many.count(13), 40);
    }
}
