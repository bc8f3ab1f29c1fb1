/** The bounds of what can be UNDONE, of the LOG and of IMAGES (Terms 2 and 4, promises 19, 20, 48 and 49). */
final class UndoBoundsTest {
    private static final Bounds LOOK = new Bounds();
    private static final Bounds.Past BUSY = Pasts::busy;
    private static final Bounds.Past LEAGUE = Pasts::league;

    public static void main(String[] args) {
        nothingToUndo();
        oneByOne();
        latestForty();
        undoneAndDoneAgain();
        refusedIsNoAct();
        logOfNothing();
        logOfSome();
        logWhat();
        latestSixty();
        logUndone();
        logLanded();
        imageInsteadOfAnother();
        imageChangesNothing();
        backWithout();
        backToThisLeagueAlone();
        backUndoesNoMore();
        backTakesNothingElse();
        imageOfAFullLog();
        LOOK.close();
    }

    /** "NONE: none." */
    private static void nothingToUndo() {
        LOOK.refused("undo of a new league", LEAGUE, CannonPost::undo, Check.NONE);
        Bounds.Past undone = x -> {
            Pasts.league(x);
            x.hours(2);
            x.undo();
            x.undo();
        };
        LOOK.refused("undo of what is undone", undone, CannonPost::undo, Check.NONE);
        Bounds.Past another = x -> {
            Pasts.busy(x);
            x.end(0);
            Pasts.league(x);
        };
        LOOK.refused("undo of another league's", another, CannonPost::undo, Check.NONE);
    }

    /** "The latest ACT is UNDONE: how many still can be." */
    private static void oneByOne() {
        CannonPost x = Bounds.after(BUSY);
        LOOK.due("acts", x.count(13), Pasts.ACTS);
        for (int left = Pasts.ACTS - 1; left >= 0; left--) {
            LOOK.due("undo", x.undo(), left);
            LOOK.due("count(13)", x.count(13), left);
        }
        LOOK.due("undo of none", x.undo(), Check.NONE);
        LOOK.due("count(13)", x.count(13), 0);
    }

    /** "the latest 40 can be UNDONE one by one": 39, 40, 41 */
    private static void latestForty() {
        for (int acts = 38; acts <= 43; acts++) {
            CannonPost x = Check.post("sp0;f;fx9;c");
            for (int i = 1; i <= acts; i++) {
                x.grind(1);
            }
            int most = Math.min(40, acts);
            LOOK.due("acts of " + acts, x.count(13), most);
            for (int left = most - 1; left >= 0; left--) {
                LOOK.due("undo of " + acts, x.undo(), left);
            }
            LOOK.due("no more of " + acts, x.undo(), Check.NONE);
            LOOK.due("what is older stays", x.rule(2), acts - most);
        }
    }

    private static void undoneAndDoneAgain() {
        CannonPost x = Check.post("sp0;f;fx9;c");
        for (int i = 0; i < 45; i++) {
            x.grind(1);
        }
        for (int i = 0; i < 10; i++) {
            x.undo();
        }
        LOOK.due("thirty still can be", x.count(13), 30);
        for (int i = 0; i < 9; i++) {
            x.grind(2);
        }
        LOOK.due("39", x.count(13), 39);
        x.grind(2);
        LOOK.due("40", x.count(13), 40);
        x.grind(2);
        LOOK.due("40 still", x.count(13), 40);
        LOOK.due("powder", x.rule(2), 57);
        for (int left = 39; left >= 0; left--) {
            LOOK.due("undo", x.undo(), left);
            LOOK.due("powder", x.rule(2), left >= 29 ? 35 + 2 * (left - 29) : 35 - (29 - left));
        }
        LOOK.due("no more", x.undo(), Check.NONE);
    }

    private static void refusedIsNoAct() {
        CannonPost x = Bounds.after(BUSY);
        x.shoot(0, 21, 0, 0);
        x.hear(0, 0);
        x.stack(2, 2);
        x.grind(51);
        x.wind(3, 0);
        x.damp(1);
        x.hours(0);
        x.decades(61, 1);
        x.perform(2);
        LOOK.due("as many acts", x.count(13), Pasts.ACTS);
    }

    // ---- LOG

    /** "HIDDEN: no such ones." */
    private static void logOfNothing() {
        for (int i = -1; i <= 1; i++) {
            int asked = i;
            LOOK.refused("log(" + i + ", 0) of nothing", LEAGUE, x -> x.log(asked, 0), Check.HIDDEN);
        }
        LOOK.due("how long", Bounds.after(LEAGUE).count(12), 0);
    }

    private static void logOfSome() {
        LOOK.within("log of three", BUSY, 0, 2, (x, i) -> x.log(i, 0), Check.HIDDEN);
        int[][] want = {{2, 2, Check.NONE, 20}, {1, 1, 0, 10}, {0, 0, 1, 2}};
        CannonPost x = Bounds.after(BUSY);
        for (int i = 0; i < 3; i++) {
            for (int what = 0; what <= 3; what++) {
                LOOK.due("log(" + i + ", " + what + ")", x.log(i, what), want[i][what]);
            }
        }
    }

    private static void logWhat() {
        for (int i = 0; i < 3; i++) {
            int asked = i;
            LOOK.within("what of log " + i, BUSY, 0, 3, (x, what) -> x.log(asked, what), Check.HIDDEN);
        }
    }

    /** One CARRIER is SHOT so many times and LANDS where it is; the n-th with (n - 1) % 7 and 1 POWDER. */
    private static Bounds.Past shots(int n) {
        return x -> {
            Check.tell(x, Check.LEAGUE, "sp99;f;fx9;c");
            Check.tell(x, Check.LAW, "y:0");
            x.law(0);
            for (int i = 0; i < n; i++) {
                x.shoot(0, i % 7 + 1, i % 2, 0);
                if (i % 7 == 6) {
                    x.grind(28);
                }
            }
        };
    }

    /** "(the latest 60 ..)": 59, 60, 61 */
    private static void latestSixty() {
        for (int n : new int[] {1, 58, 59, 60, 61, 62, 75}) {
            int length = Math.min(60, n);
            LOOK.within("log of " + n, shots(n), 0, length - 1, (x, i) -> x.log(i, 3), Check.HIDDEN);
            CannonPost x = Bounds.after(shots(n));
            LOOK.due("how long of " + n, x.count(12), length);
            for (int i = 0; i < length; i++) {
                LOOK.due("log(" + i + ", 3) of " + n, x.log(i, 3), (n - 1 - i) % 7 + 1);
            }
        }
    }

    /** "(.. UNDONE, too)": it is as it was ahead of the ACT, 59, 60 or 61 of them long. */
    private static void logUndone() {
        for (int n : new int[] {1, 2, 60, 61, 62, 64}) {
            CannonPost x = Bounds.after(shots(n));
            x.undo();
            LOOK.due("how long behind one undone of " + n, x.count(12), Math.min(60, n - 1));
            for (int i = 0; i < Math.min(60, n - 1); i++) {
                LOOK.due("log(" + i + ", 3)", x.log(i, 3), (n - 2 - i) % 7 + 1);
            }
            LOOK.due("no more", x.log(Math.min(60, n - 1), 3), Check.HIDDEN);
        }
    }

    /** "where it LANDED (NONE: the LAKE)" */
    private static void logLanded() {
        CannonPost x = Check.post("sw0;f;fx9;cm6");
        x.shoot(0, 5, 0, 0);
        LOOK.due("the lake", x.log(0, 2), Check.NONE);
        LOOK.due("from", x.log(0, 1), 0);
        x.hours(2);
        x.shoot(0, 9, 0, 0);
        LOOK.due("there", x.log(0, 2), 1);
        LOOK.due("from where it came round", x.log(0, 1), 0);
        x.shoot(0, 1, 0, 0);
        LOOK.due("where it was shot", x.log(0, 2), 1);
        LOOK.due("from there", x.log(0, 1), 1);
        LOOK.due("how long", x.count(12), 3);
    }

    // ---- IMAGES

    /** "An IMAGE (instead of the one ahead): the HOUR." */
    private static void imageInsteadOfAnother() {
        CannonPost x = Bounds.after(LEAGUE);
        LOOK.due("image", x.image(), 0);
        x.hours(3);
        LOOK.due("another image", x.image(), 3);
        x.hours(3);
        LOOK.due("back", x.back(), 3);
        LOOK.due("the hour", x.count(6), 3);
        LOOK.due("back again", x.back(), 3);
    }

    private static void imageChangesNothing() {
        Bounds.Past imaged = x -> {
            Pasts.busy(x);
            x.image();
        };
        LOOK.unchanged("an image of an image", imaged, CannonPost::image);
        LOOK.due("no act", Bounds.after(imaged).count(13), Pasts.ACTS);
    }

    /** "NONE: no IMAGE" */
    private static void backWithout() {
        Bounds.Past acted = x -> {
            Pasts.league(x);
            x.hours(5);
            x.shoot(0, 20, 0, 0);
        };
        LOOK.refused("back without an image", acted, CannonPost::back, Check.NONE);
        LOOK.due("its acts can be undone", Bounds.after(acted).undo(), 5);
    }

    /** "NONE: no IMAGE of this LEAGUE." */
    private static void backToThisLeagueAlone() {
        Bounds.Past another = x -> {
            Pasts.busy(x);
            x.end(0);
            Check.tell(x, Check.LEAGUE, "f;fx7;c");
            x.hours(2);
        };
        LOOK.refused("back to another league", another, CannonPost::back, Check.NONE);
        Bounds.Past same = x -> {
            Pasts.busy(x);
            x.end(0);
            Check.tell(x, Check.LEAGUE, Pasts.LEAGUE);
            x.hours(2);
        };
        LOOK.refused("back to a league told again", same, CannonPost::back, Check.NONE);
        CannonPost wrong = Bounds.after(BUSY);
        Check.tell(wrong, Check.LEAGUE, "f;f;c");
        LOOK.due("a league that was refused is none", wrong.back(), 0);
    }

    /** "(no ACT can be UNDONE then)" */
    private static void backUndoesNoMore() {
        CannonPost x = Bounds.after(BUSY);
        LOOK.due("back", x.back(), 0);
        LOOK.due("count(13)", x.count(13), 0);
        LOOK.due("undo", x.undo(), Check.NONE);
        LOOK.due("it is as it was still", x.rule(2), 58);
        x.grind(1);
        LOOK.due("one act", x.count(13), 1);
        LOOK.due("undo it", x.undo(), 0);
        LOOK.due("no more", x.undo(), Check.NONE);
        LOOK.due("powder of the image", x.rule(2), 58);
    }

    /** BACK brings what an IMAGE keeps, and leaves LAWS, PLANS, DAMPS, SEEN, FACES and the tape. */
    private static void backTakesNothingElse() {
        CannonPost x = Bounds.after(BUSY);
        x.law(1);
        x.damps(7);
        x.seen(0, 1, 1, 0, 9);
        x.face(1, true);
        x.back();
        int[] counts = {3, 3, 2, 2, 6, 1, 0, 9, 1, 7, 2, 3, 1, 0};
        for (int what = 0; what < counts.length; what++) {
            LOOK.due("count(" + what + ") behind back", x.count(what), counts[what]);
        }
        int[] rules = {3, 0, 58, 2, 1};
        for (int what = 0; what < rules.length; what++) {
            LOOK.due("rule(" + what + ") behind back", x.rule(what), rules[what]);
        }
        int[][] carriers = {{1, 1, 0}, {1, 0, 0}, {2, 0, 0}};
        for (int c = 0; c < 3; c++) {
            for (int what = 2; what <= 4; what++) {
                LOOK.due("carrier(" + c + ", " + what + ")", x.carrier(c, what), carriers[c][what - 2]);
            }
        }
        int[][] forts = {{1, 21}, {0, 37}, {8, 0}};
        for (int f = 0; f < 3; f++) {
            LOOK.due("hay of " + f, x.fort(f, 2), forts[f][0]);
            LOOK.due("known in " + f, x.fort(f, 3), forts[f][1]);
        }
    }

    private static void imageOfAFullLog() {
        for (int n : new int[] {59, 60, 61}) {
            CannonPost x = Bounds.after(shots(n));
            x.image();
            for (int i = 0; i < 60; i++) {
                LOOK.due("shoot", x.shoot(0, 1, 0, 0), 0);
            }
            x.back();
            LOOK.due("how long", x.count(12), Math.min(60, n));
            for (int i = 0; i < Math.min(60, n); i++) {
                LOOK.due("log(" + i + ", 3)", x.log(i, 3), (n - 1 - i) % 7 + 1);
            }
            LOOK.due("no more", x.log(Math.min(60, n), 3), Check.HIDDEN);
        }
    }
}
