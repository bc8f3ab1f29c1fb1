/** Promise 1, "No LEAGUE.": what each call answers then, and that it changes nothing (promises 6 to 49). */
final class NoLeagueTest {
    private static final Bounds LOOK = new Bounds();
    /** LAWS, a PLAN, DAMPS and a tape can be there all the same. */
    private static final Bounds.Past TOLD = NoLeagueTest::tell;
    private static final Bounds.Past NEW = Pasts::nothing;

    public static void main(String[] args) {
        whatThereIs();
        byHand();
        plans();
        flights();
        guesses();
        gamesAndStock();
        whatNeedsNone();
        LOOK.close();
    }

    private static void tell(CannonPost x) {
        Check.tell(x, Check.LAW, "y:p");
        Check.tell(x, Check.PLAN, "h1;s0001");
        x.law(0);
        x.damps(4);
        Check.feedText(x, "f;fx1");
    }

    private static void none(String name, Bounds.Call call) {
        refused(name, call, Check.NONE);
    }

    private static void refused(String name, Bounds.Call call, int want) {
        LOOK.refused(name + " of a new one", NEW, call, want);
        LOOK.refused(name + " without a league", TOLD, call, want);
    }

    private static void whatThereIs() {
        for (int what = -1; what <= 5; what++) {
            int asked = what;
            none("rule(" + what + ")", x -> x.rule(asked));
            none("fort(0, " + what + ")", x -> x.fort(0, asked));
            refused("carrier(0, " + what + ")", x -> Bounds.carrierOf(x, 0, asked), Bounds.THROWN);
        }
    }

    private static void byHand() {
        none("shoot", x -> x.shoot(0, 1, 0, 0));
        refused("hear", x -> Bounds.asInt(x.hear(0, 0)), Bounds.FALSE);
        none("stack", x -> x.stack(0, 1));
        none("grind", x -> x.grind(1));
        refused("wind(0, 0)", x -> Bounds.asInt(x.wind(0, 0)), Bounds.FALSE);
        refused("wind(9, 1)", x -> Bounds.asInt(x.wind(9, 1)), Bounds.FALSE);
        refused("damp(0)", x -> Bounds.asInt(x.damp(0)), Bounds.FALSE);
        refused("damp(9)", x -> Bounds.asInt(x.damp(9)), Bounds.FALSE);
        none("hours", x -> x.hours(1));
        none("decades", x -> x.decades(1, 1));
        none("undo", CannonPost::undo);
        refused("log", x -> x.log(0, 0), Check.HIDDEN);
        none("image", CannonPost::image);
        none("back", CannonPost::back);
    }

    private static void plans() {
        refused("run(0, 0)", x -> x.run(0, 0), Check.HIDDEN);
        refused("run(0, 1)", x -> x.run(0, 1), Check.HIDDEN);
        none("perform", x -> x.perform(0));
    }

    private static void flights() {
        refused("lands(.., 0)", x -> x.lands(0, 0, 1, 0, 0), Check.HIDDEN);
        refused("lands(.., 1)", x -> x.lands(0, 0, 1, 0, 1), Check.HIDDEN);
        none("aim", x -> x.aim(0, 0, 1));
        none("route(0, 0, 0, 0)", x -> x.route(0, 0, 0, 0));
        none("route(0, 0, 1, 1)", x -> x.route(0, 0, 1, 1));
        none("relay(0, 0, 0)", x -> x.relay(0, 0, 0));
        none("relay(0, 0, 1)", x -> x.relay(0, 0, 1));
        none("sure", x -> x.sure(0, 0, 0));
        none("surest", x -> x.surest(0, 0));
        none("cuts", CannonPost::cuts);
        none("net", x -> x.net(0));
        none("gusts", x -> x.gusts(0, 0, 1, 0, 50));
        none("passing", x -> x.passing(0, 1));
    }

    private static void guesses() {
        none("seen", x -> x.seen(0, 0, 1, 0, 0));
        none("winds(-1)", x -> x.winds(-1));
        none("winds(0)", x -> x.winds(0));
        none("ask", x -> x.ask(0, 0));
        none("face", x -> x.face(0, true));
        none("meant", x -> x.meant(0));
        none("following", CannonPost::following);
    }

    private static void gamesAndStock() {
        refused("game(.., 0)", x -> x.game(0, 1, 0, 0, 0, 0), Check.HIDDEN);
        refused("game(.., 1)", x -> x.game(0, 1, 0, 1, 1, 1), Check.HIDDEN);
        none("rests(.., -1)", x -> x.rests(0, 1, 0, -1));
        none("rests(.., 0)", x -> x.rests(0, 1, 0, 0));
        none("stock", x -> x.stock(1));
        none("hays(0)", x -> x.hays(0));
        none("best(0, 0)", x -> x.best(0, 0));
        none("best(1, 0)", x -> x.best(1, 0));
        none("free", CannonPost::free);
        none("home", x -> x.home(0));
        none("known", x -> x.known(0));
    }

    /** What the document refuses for no such reason. */
    private static void whatNeedsNone() {
        CannonPost x = Bounds.after(TOLD);
        LOOK.due("step(0, 0, 0)", x.step(0, 0, 0), 1);
        LOOK.due("step(0, 1, 3)", x.step(0, 1, 3), 1);
        LOOK.due("law(-1)", x.law(-1), true);
        LOOK.due("law(0)", x.law(0), true);
        LOOK.due("damps(5)", x.damps(5), true);
        int[] counts = {0, 0, 1, 1, 5, 0, 0, 0, 0, 5, 0, 0, 0, 0};
        for (int what = 0; what < counts.length; what++) {
            LOOK.due("count(" + what + ")", x.count(what), counts[what]);
        }
        LOOK.due("fault(0)", x.fault(0), 5);
    }
}
