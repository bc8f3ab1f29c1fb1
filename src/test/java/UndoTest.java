/** Promises 19, 20, 48 and 49: ACTS UNDONE, the LOG with them, IMAGES. */
final class UndoTest {
    private static final Check CHECK = new Check();
    private static final String LEAGUE = "sw1d0p30b2;fy1;fx6h1y0;fx14;cm3n4;cm5n9f2";

    public static void main(String[] args) {
        eachAct();
        atMostForty();
        longLog();
        images();
        imageOfLongLog();
        whatIsNoAct();
        CHECK.close();
    }

    private static void eachAct() {
        CannonPost x = Check.post(LEAGUE);
        CHECK.due("undo of nothing", x.undo(), -1);
        CHECK.due("undo without a league", new CannonPost().undo(), -1);
        // each look has a post of its own, to stay within 512 calls
        for (int left = 0; left <= 10; left++) {
            CannonPost done = after(left);
            CannonPost undone = after(10);
            CHECK.due("acts", undone.count(13), 10);
            for (int act = 9; act >= left; act--) {
                CHECK.due("undo", undone.undo(), act);
            }
            CHECK.holds("as ahead of act " + left, Check.stateOf(done).equals(Check.stateOf(undone)));
            if (left == 0) {
                CHECK.due("undo of nothing then", undone.undo(), -1);
            }
        }
    }

    private static CannonPost after(int acts) {
        CannonPost x = Check.post(LEAGUE);
        for (int act = 0; act < acts; act++) {
            doAct(x, act);
        }
        return x;
    }

    private static void doAct(CannonPost x, int act) {
        switch (act) {
            case 0:
                x.hear(0, 0);
                break;
            case 1:
                x.shoot(0, 2, 0, 1);
                break;
            case 2:
                x.shoot(1, 20, 0, 0);
                break;
            case 3:
                x.hours(1);
                break;
            case 4:
                x.stack(1, 9);
                break;
            case 5:
                x.grind(50);
                break;
            case 6:
                x.wind(5, 1);
                break;
            case 7:
                x.damp(7);
                break;
            case 8:
                x.damps(9);
                x.decades(1, 1);
                x.damps(0);
                break;
            default:
                x.hear(2, 3);
                break;
        }
    }

    private static void atMostForty() {
        CannonPost x = Check.post(LEAGUE);
        x.hear(0, 0);
        CHECK.due("hours", x.hours(39), 39);
        CHECK.due("forty", x.count(13), 40);
        x.hours(1);
        CHECK.due("still forty", x.count(13), 40);
        for (int i = 39; i >= 0; i--) {
            CHECK.due("undo", x.undo(), i);
            CHECK.due("the hour", x.count(6), i);
        }
        CHECK.due("no more", x.undo(), -1);
        CHECK.due("what is older stays", x.known(0), 1);
        x.hours(50);
        x.undo();
        x.undo();
        CHECK.due("the hour", x.count(6), 48);
        x.hours(3);
        CHECK.due("forty again", x.count(13), 40);
        CHECK.due("undo", x.undo(), 39);
        CHECK.due("the hour", x.count(6), 50);
    }

    /** Nine shots of 1 to 9 powder that land where they began, then all their powder brought again: ten acts. */
    private static void shootNine(CannonPost x) {
        CHECK.due("nine shots", x.perform(0), 9);
        CHECK.due("their powder", x.grind(45), 45);
    }

    private static CannonPost inPlace() {
        CannonPost x = Check.post("sp45;fx1;fx9;c");
        Check.tell(x, Check.LAW, "y:0");
        x.law(0);
        Check.tell(x, Check.PLAN, "s0001;s0102;s0003;s0104;s0005;s0106;s0007;s0108;s0009");
        return x;
    }

    private static void longLog() {
        CannonPost x = inPlace();
        for (int i = 1; i <= 17; i++) {
            shootNine(x);
            CHECK.due("how long", x.count(12), Math.min(60, 9 * i));
        }
        dueShots(x, 152);
        for (int i = 39; i >= 0; i--) {
            CHECK.due("undo", x.undo(), i);
        }
        CHECK.due("still sixty", x.count(12), 60);
        dueShots(x, 116);
        shootNine(x);
        dueShots(x, 125);
    }

    private static void dueShots(CannonPost x, int latest) {
        for (int i = 0; i < 60; i++) {
            CHECK.due("log(" + i + ", 3)", x.log(i, 3), (latest - i) % 9 + 1);
        }
        CHECK.due("log(60, 3)", x.log(60, 3), Check.HIDDEN);
    }

    private static void images() {
        CannonPost x = Check.post(LEAGUE);
        CHECK.due("back without an image", x.back(), -1);
        CHECK.due("image without a league", new CannonPost().image(), -1);
        CHECK.due("back without a league", new CannonPost().back(), -1);
        x.hear(0, 0);
        x.shoot(0, 2, 0, 1);
        x.shoot(1, 20, 0, 0);
        x.wind(4, 1);
        x.damp(2);
        x.hours(1);
        CHECK.due("image", x.image(), 1);
        CHECK.due("it is no act", x.count(13), 6);
        String then = acted(x);
        x.hours(5);
        x.shoot(0, 3, 1, 1);
        x.shoot(1, 1, 1, 0);
        x.hear(2, 5);
        x.stack(1, 4);
        x.grind(9);
        x.wind(1, 0);
        x.damp(0);
        CHECK.due("back", x.back(), 1);
        CHECK.holds("as it was", then.equals(acted(x)));
        CHECK.due("no act can be undone", x.count(13), 0);
        CHECK.due("undo", x.undo(), -1);
        x.hours(7);
        CHECK.due("back again", x.back(), 1);
        CHECK.holds("as it was again", then.equals(acted(x)));
        x.hours(2);
        CHECK.due("another image", x.image(), 3);
        x.hours(2);
        CHECK.due("back to the other one", x.back(), 3);
        x.hours(1);
        CHECK.due("undo behind back", x.undo(), 0);
        Check.tell(x, Check.LEAGUE, "f;fx2;c");
        CHECK.due("no image of this league", x.back(), -1);
        CHECK.due("image", x.image(), 0);
        x.hours(9);
        CHECK.due("back", x.back(), 0);
    }

    /** The state but for how many acts can be undone. */
    private static String acted(CannonPost x) {
        StringBuilder all = new StringBuilder();
        for (int i = 0; i <= 4; i++) {
            all.append(x.rule(i)).append(' ');
        }
        for (int f = 0; f < x.count(0); f++) {
            all.append(x.fort(f, 2)).append(' ').append(x.fort(f, 3)).append(' ');
        }
        for (int c = 0; c < x.count(1); c++) {
            for (int i = 2; i <= 4; i++) {
                all.append(x.carrier(c, i)).append(' ');
            }
        }
        for (int i = 0; i < x.count(12); i++) {
            for (int k = 0; k <= 3; k++) {
                all.append(x.log(i, k)).append(' ');
            }
        }
        return all.append(x.count(6)).append(' ').append(x.count(12)).toString();
    }

    private static void imageOfLongLog() {
        CannonPost x = inPlace();
        for (int i = 0; i < 8; i++) {
            shootNine(x);
        }
        x.image();
        Check.tell(x, Check.PLAN, "s0001;s0001;s0001;s0001;s0001");
        for (int i = 0; i < 30; i++) {
            x.perform(1);
            x.grind(5);
        }
        x.back();
        CHECK.due("how long", x.count(12), 60);
        dueShots(x, 71);
        x.shoot(0, 1, 0, 0);
        dueShots(x, 72);
        x.undo();
        dueShots(x, 71);
    }

    private static void whatIsNoAct() {
        CannonPost x = Check.post(LEAGUE);
        Check.tell(x, Check.LAW, "y:1");
        x.law(0);
        x.damps(5);
        x.seen(0, 0, 1, 0, 1);
        x.face(1, false);
        x.image();
        CHECK.due("no act", x.count(13), 0);
        x.hours(1);
        CHECK.due("undo", x.undo(), 0);
        CHECK.due("the law holds still", x.count(5), 0);
        CHECK.due("damps still", x.count(9), 5);
        CHECK.due("seen still", x.count(10), 1);
        CHECK.due("faces still", x.count(11), 1);
        x.back();
        CHECK.due("seen still behind back", x.count(10), 1);
        CHECK.due("faces still behind back", x.count(11), 1);
        CHECK.due("damps still behind back", x.count(9), 5);
    }
}
