/** Promise 18 (and 10): HOURS by draws. The draws are reckoned here anew, and done by hand on a second post. */
final class DecadesTest {
    private static final Check CHECK = new Check();
    private static final String LEAGUE = "sw2p99b2;f;fx7h1y0;fx15;fx22;cm3n4;cm5f2;cm2f3";
    private static long x;

    public static void main(String[] args) {
        refused();
        firstHour();
        long[] seeds = {0, 1, 42, -7, 123456789012345L, Long.MIN_VALUE, Long.MAX_VALUE};
        for (long seed : seeds) {
            likeByHand(0, seed);
            likeByHand(5, seed);
            likeByHand(9, seed);
        }
        acts();
        CHECK.close();
    }

    private static void refused() {
        CHECK.due("without a league", new CannonPost().decades(1, 1), -1);
        CannonPost post = Check.post(LEAGUE);
        String before = Check.stateOf(post);
        CHECK.due("decades(0)", post.decades(0, 1), -1);
        CHECK.due("decades(-1)", post.decades(-1, 1), -1);
        CHECK.due("decades(61)", post.decades(61, 1), -1);
        CHECK.holds("nothing changed", before.equals(Check.stateOf(post)));
        CHECK.due("decades(60)", post.decades(60, 1), 60);
        for (int i = 0; i < 165; i++) {
            post.hours(60);
        }
        CHECK.due("beyond 9,999", post.decades(40, 1), -1);
        CHECK.due("up to 9,999", post.decades(39, 1), 9999);
    }

    /** From seed 0, x is the added number itself first. */
    private static void firstHour() {
        CHECK.due("the first draw of 10", (1442695040888963407L >>> 33) % 10, 7);
        CannonPost post = Check.post(LEAGUE);
        post.damps(7);
        post.decades(1, 0);
        CHECK.due("7 is not below 7", post.rule(4), 0);
        post = Check.post(LEAGUE);
        post.damps(8);
        post.decades(1, 0);
        long second = 1442695040888963407L * 6364136223846793005L + 1442695040888963407L;
        CHECK.due("7 is below 8", post.rule(4), (second >>> 33) % 10);
        CHECK.holds("which can be seen", (second >>> 33) % 10 != 0);
    }

    private static int draw(int of) {
        x = x * 6364136223846793005L + 1442695040888963407L;
        return (int) Long.remainderUnsigned(x >>> 33, of);
    }

    private static void likeByHand(int damps, long seed) {
        CannonPost drawn = Check.post(LEAGUE);
        CannonPost byHand = Check.post(LEAGUE);
        tellNews(drawn);
        tellNews(byHand);
        drawn.damps(damps);
        byHand.damps(damps);
        CHECK.due("decades", drawn.decades(25, seed), 25);
        x = seed;
        for (int i = 0; i < 25; i++) {
            oneByHand(byHand, damps);
        }
        CHECK.due("shots", drawn.count(12), byHand.count(12));
        CHECK.due("acts", drawn.count(13), 32);
        CHECK.holds("all else, seed " + seed, changed(drawn).equals(changed(byHand)));
        CHECK.due("more of them", drawn.decades(2, seed), 27);
    }

    private static void tellNews(CannonPost post) {
        for (int n = 0; n < 4; n++) {
            post.hear(0, n);
        }
        post.hear(2, 5);
        post.hear(3, 0);
        post.hear(3, 4);
    }

    private static void oneByHand(CannonPost post, int damps) {
        if (draw(10) < damps) {
            post.damp(draw(10));
        }
        int carrier = draw(3);
        int way = draw(2);
        int powder = draw(20) + 1;
        int known = post.fort(post.carrier(carrier, 2), 3);
        int lowest = Integer.lowestOneBit(known);
        post.shoot(carrier, powder, way, lowest | Integer.lowestOneBit(known & ~lowest));
        post.hours(1);
    }

    private static String changed(CannonPost post) {
        String all = Check.stateOf(post);
        // by hand there are more acts, the fourteenth number
        String[] parts = all.split(" ");
        parts[13] = "";
        return String.join(" ", parts);
    }

    private static void acts() {
        CannonPost post = Check.post(LEAGUE);
        post.damps(9);
        String before = Check.stateOf(post);
        post.decades(1, 5);
        CHECK.due("one act", post.count(13), 1);
        CHECK.due("undo", post.undo(), 0);
        CHECK.holds("as it was", before.equals(Check.stateOf(post)));
        post.decades(60, 5);
        CHECK.due("forty acts", post.count(13), 40);
        CannonPost other = Check.post(LEAGUE);
        other.damps(9);
        other.decades(59, 5);
        post.undo();
        CHECK.holds("as an hour ahead", changed(post).equals(changed(other)));
    }
}
