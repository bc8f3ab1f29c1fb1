/** Promises 35 and 36: GAME and RESTS. */
final class GameTest {
    private static final Check CHECK = new Check();

    public static void main(String[] args) {
        gains();
        refusedGames();
        rests();
        refusedRests();
        CHECK.close();
    }

    private static CannonPost carriers() {
        return Check.post("f;fx9;cm3;cm5;cm9;cm2;cm6f1");
    }

    private static void dueGame(int one, int other, int p, int[] want) {
        CannonPost x = carriers();
        int i = 0;
        for (int a = 0; a <= 1; a++) {
            for (int b = 0; b <= 1; b++) {
                CHECK.due("game " + p + " " + a + b + " first", x.game(one, other, p, a, b, 0), want[i]);
                CHECK.due("game " + p + " " + a + b + " second", x.game(one, other, p, a, b, 1), want[i + 1]);
                i += 2;
            }
        }
    }

    private static void gains() {
        dueGame(0, 1, 6, new int[] {0, 0, 6, 2, 2, 6, 0, 0});
        dueGame(0, 2, 7, new int[] {0, 0, 6, 0, 2, 6, 0, -2});
        dueGame(3, 4, 0, new int[] {0, 0, 6, 4, 6, 6, 4, 2});
        dueGame(2, 3, 20, new int[] {0, 0, 6, -4, -7, 6, -9, -6});
        dueGame(3, 2, 1, new int[] {0, 0, 6, 3, 6, 6, 4, 1});
    }

    private static void refusedGames() {
        CannonPost x = carriers();
        CHECK.due("alike", x.game(1, 1, 6, 0, 0, 0), Check.HIDDEN);
        CHECK.due("one 5", x.game(5, 1, 6, 0, 0, 0), Check.HIDDEN);
        CHECK.due("one -1", x.game(-1, 1, 6, 0, 0, 0), Check.HIDDEN);
        CHECK.due("other 5", x.game(1, 5, 6, 0, 0, 0), Check.HIDDEN);
        CHECK.due("other -1", x.game(1, -1, 6, 0, 0, 0), Check.HIDDEN);
        CHECK.due("p 21", x.game(0, 1, 21, 0, 0, 0), Check.HIDDEN);
        CHECK.due("p -1", x.game(0, 1, -1, 0, 0, 0), Check.HIDDEN);
        CHECK.due("x 2", x.game(0, 1, 6, 2, 0, 0), Check.HIDDEN);
        CHECK.due("x -1", x.game(0, 1, 6, -1, 0, 0), Check.HIDDEN);
        CHECK.due("y 2", x.game(0, 1, 6, 0, 2, 0), Check.HIDDEN);
        CHECK.due("y -1", x.game(0, 1, 6, 0, -1, 0), Check.HIDDEN);
        CHECK.due("what 2", x.game(0, 1, 6, 0, 0, 2), Check.HIDDEN);
        CHECK.due("what -1", x.game(0, 1, 6, 0, 0, -1), Check.HIDDEN);
        CHECK.due("without a league", new CannonPost().game(0, 1, 0, 0, 0, 0), Check.HIDDEN);
        x.shoot(0, 20, 0, 0);
        CHECK.due("late does not matter", x.game(0, 1, 6, 1, 0, 0), 2);
    }

    private static void dueRests(int one, int other, int p, int... want) {
        CannonPost x = carriers();
        CHECK.due("rests for " + p, x.rests(one, other, p, -1), want.length);
        for (int i = 0; i < want.length; i++) {
            CHECK.due("rests for " + p + ", " + i, x.rests(one, other, p, i), want[i]);
        }
        CHECK.due("no more", x.rests(one, other, p, want.length), -1);
        CHECK.due("rests -2", x.rests(one, other, p, -2), -1);
    }

    private static void rests() {
        dueRests(0, 1, 6, 1, 10);
        dueRests(3, 4, 0, 1, 10);
        dueRests(2, 3, 20, 0);
        // six in all for being shot: as much as waiting together
        dueRests(0, 1, 10, 0, 1, 10);
        // the heavy one has less than nothing, the light one as much
        dueRests(2, 3, 12, 0, 1);
        dueRests(3, 2, 12, 0, 10);
        dueRests(2, 3, 10, 1);
        dueRests(3, 2, 10, 10);
    }

    private static void refusedRests() {
        CannonPost x = carriers();
        CHECK.due("alike", x.rests(1, 1, 6, -1), -1);
        CHECK.due("one 5", x.rests(5, 1, 6, -1), -1);
        CHECK.due("one -1", x.rests(-1, 1, 6, -1), -1);
        CHECK.due("other 5", x.rests(1, 5, 6, -1), -1);
        CHECK.due("other -1", x.rests(1, -1, 6, -1), -1);
        CHECK.due("p 21", x.rests(0, 1, 21, -1), -1);
        CHECK.due("p -1", x.rests(0, 1, -1, -1), -1);
        CHECK.due("without a league", new CannonPost().rests(0, 1, 0, -1), -1);
    }
}
