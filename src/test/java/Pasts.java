/** Pasts of a post, told anew for each look at it: an ordinary one, and those at the end of a bound. */
final class Pasts {
    /** Three FORTS, three CARRIERS, BREATH 2. */
    static final String LEAGUE = "sw2d1p60b2;fx2h1y1;fx9y0;fx20h3y8;cm3n4;cm2n9f1;cm9n0f2";
    static final int FORTS = 3;
    static final int CARRIERS = 3;
    static final int LAWS = 2;
    static final int PLANS = 2;
    static final int ACTS = 12;

    private Pasts() {
    }

    static void nothing(CannonPost x) {
    }

    static void league(CannonPost x) {
        Check.tell(x, Check.LEAGUE, LEAGUE);
    }

    /**
     * Something of all: by the first LAW each comes from each FORT to each other one; the first CARRIER
     * is in 1, the second in 0, the third LATE for one HOUR; 0 and 1 know NEWS; the tape has a PLAN.
     */
    static void busy(CannonPost x) {
        tellTexts(x);
        Check.tell(x, Check.LEAGUE, LEAGUE);
        x.law(0);
        x.damps(3);
        x.hear(0, 0);
        x.hear(0, 2);
        x.hear(0, 4);
        x.hear(1, 5);
        x.wind(3, 0);
        x.shoot(0, 2, 0, 5);
        x.damp(1);
        x.image();
        x.shoot(1, 10, 1, 32);
        x.shoot(2, 20, 0, 0);
        x.hours(1);
        x.stack(1, 3);
        x.grind(5);
        x.seen(0, 1, 1, 0, 9);
        x.face(0, true);
        x.face(2, false);
        Check.feedText(x, "h7;w31");
    }

    /** The busy one with another text on its tape. */
    static Bounds.Past busyWith(String text) {
        return x -> {
            busy(x);
            x.end(0);
            Check.feedText(x, text);
        };
    }

    static void tellTexts(CannonPost x) {
        Check.tell(x, Check.LAW, "y:p+h+w-d");
        Check.tell(x, Check.LAW, "y:60-m");
        Check.tell(x, Check.PLAN, "n03;s0004;h2");
        Check.tell(x, Check.PLAN, "h1;w41;n25;s0112");
    }

    /** The HOUR is so many ahead of 9,999. */
    static void hoursAhead(CannonPost x, int ahead) {
        Check.tell(x, Check.LEAGUE, LEAGUE);
        for (int i = 0; i < 166; i++) {
            x.hours(60);
        }
        if (ahead < 39) {
            x.hours(39 - ahead);
        }
    }

    static void lastHour(CannonPost x) {
        hoursAhead(x, 0);
    }
}
