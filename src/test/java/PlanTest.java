/** Promises 4, 5, 21 to 23: texts of PLANS, their STEPS, RUN and DO. */
final class PlanTest {
    private static final Check CHECK = new Check();
    private static final int SORT = Check.PLAN;
    private static final String LEAGUE = "sw1p40b2;f;fx9;fx20y0;cm3;cm3f1";

    public static void main(String[] args) {
        sound();
        wrong();
        steps();
        room();
        runs();
        cantBe();
        performs();
        saysLowest();
        lastHour();
        CHECK.close();
    }

    private static void sound() {
        CHECK.dueSound(SORT, "h0");
        CHECK.dueSound(SORT, "s0105");
        CHECK.dueSound(SORT, "s9199;h9;w91;n99");
        CHECK.dueSound(SORT, " s 0 1 0 5 ; h 3 ; w 4 0 ; n 1 2 ");
        CHECK.dueSound(SORT, "h1;h2;h3;h4;h5;h6;h7;h8;h9;h1;h2;h3;h4;h5;h6;h7");
    }

    private static void wrong() {
        CHECK.dueFault(SORT, "", 0);
        CHECK.dueFault(SORT, " ", 1);
        CHECK.dueFault(SORT, "x", 0);
        CHECK.dueFault(SORT, "s", 1);
        CHECK.dueFault(SORT, "s02", 2);
        CHECK.dueFault(SORT, "s0", 2);
        CHECK.dueFault(SORT, "sx", 1);
        CHECK.dueFault(SORT, "s01x", 3);
        CHECK.dueFault(SORT, "s01", 3);
        CHECK.dueFault(SORT, "s01:", 3);
        CHECK.dueFault(SORT, "s010:", 4);
        CHECK.dueFault(SORT, "s010/", 4);
        CHECK.dueFault(SORT, "n1:", 2);
        CHECK.dueFault(SORT, "n:", 1);
        CHECK.dueFault(SORT, "s010", 4);
        CHECK.dueFault(SORT, "s010;", 4);
        CHECK.dueFault(SORT, "s01055", 5);
        CHECK.dueFault(SORT, "h", 1);
        CHECK.dueFault(SORT, "h:", 1);
        CHECK.dueFault(SORT, "h/", 1);
        CHECK.dueFault(SORT, "h12", 2);
        CHECK.dueFault(SORT, "w1", 2);
        CHECK.dueFault(SORT, "w12", 2);
        CHECK.dueFault(SORT, "w1 9", 3);
        CHECK.dueFault(SORT, "n", 1);
        CHECK.dueFault(SORT, "n1", 2);
        CHECK.dueFault(SORT, "n1;", 2);
        CHECK.dueFault(SORT, "h1;", 3);
        CHECK.dueFault(SORT, "h1;;", 3);
        CHECK.dueFault(SORT, "h1 h", 3);
        CHECK.dueFault(SORT, "h1;h2;h3;h4;h5;h6;h7;h8;h9;h1;h2;h3;h4;h5;h6;h7;", 47);
        CHECK.dueFault(SORT, "h1;h2;h3;h4;h5;h6;h7;h8;h9;h1;h2;h3;h4;h5;h6;h7;h8", 47);
    }

    private static void dueStep(CannonPost x, int plan, int i, int[] want) {
        for (int k = 0; k < 4; k++) {
            CHECK.due("step(" + plan + ", " + i + ", " + k + ")", x.step(plan, i, k), want[k]);
        }
    }

    private static void steps() {
        CannonPost x = new CannonPost();
        CHECK.due("text(2) without a league", Check.tell(x, SORT, "s 4 1 0 7;h8;w91;n75;s0020"), 0);
        dueStep(x, 0, 0, new int[] {0, 4, 1, 7});
        dueStep(x, 0, 1, new int[] {1, 8, -1, -1});
        dueStep(x, 0, 2, new int[] {2, 9, 1, -1});
        dueStep(x, 0, 3, new int[] {3, 7, 5, -1});
        dueStep(x, 0, 4, new int[] {0, 0, 0, 20});
        CHECK.due("no sixth step", x.step(0, 5, 0), Check.HIDDEN);
        CHECK.due("step -1", x.step(0, -1, 0), Check.HIDDEN);
        CHECK.due("what -1", x.step(0, 0, -1), Check.HIDDEN);
        CHECK.due("what 4", x.step(0, 0, 4), Check.HIDDEN);
        CHECK.due("plan 1", x.step(1, 0, 0), Check.HIDDEN);
        CHECK.due("plan -1", x.step(-1, 0, 0), Check.HIDDEN);
        CHECK.due("run without a league", x.run(0, 0), Check.HIDDEN);
        CHECK.due("perform without a league", x.perform(0), -1);
    }

    private static void room() {
        CannonPost x = new CannonPost();
        for (int i = 0; i < 4; i++) {
            CHECK.due("text(2)", Check.tell(x, SORT, i == 2 ? "h5;h6" : "h" + i), i);
            CHECK.due("count(3)", x.count(3), i + 1);
        }
        CHECK.due("text(2), a fifth", Check.tell(x, SORT, "h9"), -1);
        CHECK.due("its tape is still there", x.count(4), 2);
        CHECK.due("reading it changed none", x.step(3, 0, 1), 3);
        CHECK.due("fault of a longer one", Check.tell(x, SORT, "h9;h9;h9"), -1);
        CHECK.due("the third has two", x.step(2, 1, 1), 6);
        CHECK.due("and no more", x.step(2, 2, 1), Check.HIDDEN);
        CHECK.due("a wrong one", Check.tell(x, SORT, "h"), -1);
    }

    private static CannonPost planned(String plan) {
        CannonPost x = Check.post(LEAGUE);
        Check.tell(x, SORT, plan);
        return x;
    }

    private static void dueRun(String plan, int behind, int powder) {
        CannonPost x = planned(plan);
        String before = Check.stateOf(x);
        CHECK.due("run of " + plan, x.run(0, 0), behind);
        CHECK.due("powder of " + plan, x.run(0, 1), powder);
        CHECK.holds("it is apart", before.equals(Check.stateOf(x)));
        CHECK.due("perform of " + plan, x.perform(0), behind == -1 ? steps(x) : behind);
        CHECK.due("powder then", x.rule(2), 40 - powder);
    }

    private static int steps(CannonPost x) {
        int n = 0;
        while (x.step(0, n, 0) != Check.HIDDEN) {
            n++;
        }
        return n;
    }

    private static void runs() {
        dueRun("s0004", -1, 4);
        dueRun("n00;s0004;h2;s0104;w31;h9", -1, 8);
        dueRun("s0020;h2;s0020", -1, 40);
        dueRun("s0020;h2;s0020;h2;s0001", 4, 40);
        dueRun("s0020;h1;s0020", 2, 20);
        dueRun("s0020;s1120", -1, 40);
        dueRun("h9;h9;w00;w10;w00", -1, 0);
        dueRun("h1;h2;h3;h4;h5;h6;h7;h8;h9;h1;h2;h3;h4;h5;h6;h7", -1, 0);
    }

    private static void cantBe() {
        dueRun("h0", 0, 0);
        dueRun("h1;h0;h1", 1, 0);
        dueRun("w10", 0, 0);
        dueRun("w11;w11", 1, 0);
        dueRun("n05", -1, 0);
        dueRun("n06", 0, 0);
        dueRun("n25;n25", 1, 0);
        dueRun("n35", 0, 0);
        dueRun("s0000", 0, 0);
        dueRun("s0021", 0, 0);
        dueRun("s0001;s2001", 1, 1);
        dueRun("s9001", 0, 0);
        dueRun("s0004;s0020;s0020", 2, 24);
        CannonPost x = planned("h1");
        CHECK.due("run(1, 0)", x.run(1, 0), Check.HIDDEN);
        CHECK.due("run(-1, 0)", x.run(-1, 0), Check.HIDDEN);
        CHECK.due("run(0, 2)", x.run(0, 2), Check.HIDDEN);
        CHECK.due("run(0, -1)", x.run(0, -1), Check.HIDDEN);
        CHECK.due("perform(1)", x.perform(1), -1);
        CHECK.due("perform(-1)", x.perform(-1), -1);
        CHECK.due("no hour went", x.count(6), 0);
    }

    private static void performs() {
        CannonPost x = planned("n04;s0004;h3;w52;h1");
        CHECK.due("a wrong way is a fault", x.perform(0), -1);
        x = planned("n04;s0004;h3;w51;s1120;s1101;h1");
        CHECK.due("perform", x.perform(0), 5);
        CHECK.due("acts", x.count(13), 7);
        CHECK.due("news was brought", x.fort(1, 3), 16);
        CHECK.due("hay was used", x.fort(1, 2), 1);
        CHECK.due("it is there", x.carrier(0, 2), 1);
        CHECK.due("the hour", x.count(6), 3);
        CHECK.due("the wind", x.rule(0), 5);
        CHECK.due("its way", x.rule(1), 1);
        CHECK.due("the other one is late", x.carrier(1, 4), 2);
        CHECK.due("log", x.count(12), 2);
        CHECK.due("log's latest", x.log(0, 0), 1);
        CHECK.due("undo", x.undo(), 6);
        CHECK.due("it is not late", x.carrier(1, 4), 0);
        CHECK.due("undo the wind", x.undo(), 5);
        CHECK.due("the wind ahead", x.rule(0), 1);
        CHECK.due("undo an hour", x.undo(), 4);
        CHECK.due("the hour ahead", x.count(6), 2);
        x = planned("w01");
        CHECK.due("perform a wind", x.perform(0), 1);
        CHECK.due("it tells nothing", x.fort(0, 3), 0);
        CHECK.due("it shoots nobody", x.rule(2), 40);
        CHECK.due("no hour goes by", x.count(6), 0);
        x = planned("h0;h1");
        CHECK.due("perform nothing", x.perform(0), 0);
        CHECK.due("no acts", x.count(13), 0);
    }

    private static void saysLowest() {
        CannonPost x = planned("n05;n03;n01;s0004");
        CHECK.due("perform", x.perform(0), 4);
        CHECK.due("the two lowest are said", x.fort(1, 3), 10);
        x = Check.post("sw1b1;f;fx9;cm3");
        Check.tell(x, SORT, "n05;n00;s0004");
        x.perform(0);
        CHECK.due("the lowest is said", x.fort(1, 3), 1);
        x = Check.post("sw1b6;f;fx9;cm3");
        Check.tell(x, SORT, "n05;n00;n01;n02;n03;n04;s0004");
        x.perform(0);
        CHECK.due("all is said", x.fort(1, 3), 63);
    }

    private static void lastHour() {
        CannonPost x = Check.post(LEAGUE);
        for (int i = 0; i < 166; i++) {
            x.hours(60);
        }
        CHECK.due("the hour", x.hours(35), 9995);
        Check.tell(x, SORT, "h4");
        Check.tell(x, SORT, "h5");
        Check.tell(x, SORT, "h4;h1");
        CHECK.due("up to the last", x.run(0, 0), -1);
        CHECK.due("beyond it", x.run(1, 0), 0);
        CHECK.due("beyond it later", x.run(2, 0), 1);
        CHECK.due("perform beyond it", x.perform(1), 0);
        CHECK.due("no hour of it went", x.count(6), 9995);
        CHECK.due("perform", x.perform(2), 1);
        CHECK.due("the last hour", x.count(6), 9999);
        CHECK.due("hours", x.hours(1), -1);
        CHECK.due("decades", x.decades(1, 1), -1);
        CHECK.due("all hay is there", x.hays(9), 0);
        CHECK.due("shoot", x.shoot(0, 4, 0, 0), 1);
        CHECK.due("hours go on for hays", x.hays(9), 1);
    }
}
