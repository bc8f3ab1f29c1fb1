/** Promises 1 to 3: a new object, feed, end. */
final class TapeTest {
    private static final Check CHECK = new Check();

    public static void main(String[] args) {
        newObject();
        bytesInOrder();
        room();
        ends();
        CHECK.close();
    }

    private static void newObject() {
        CannonPost x = new CannonPost();
        int[] want = {0, 0, 0, 0, 0, -1, 0, 0, 0, 0, 0, 0, 0, 0};
        for (int i = 0; i < want.length; i++) {
            CHECK.due("count(" + i + ") of a new one", x.count(i), want[i]);
        }
        CHECK.due("rule", x.rule(0), -1);
        CHECK.due("fort", x.fort(0, 0), -1);
        CHECK.due("fault(0) of an empty tape", x.fault(0), 0);
        CHECK.due("fault(1) of an empty tape", x.fault(1), 0);
        CHECK.due("fault(2) of an empty tape", x.fault(2), 0);
        CHECK.due("text(0) of an empty tape", x.text(0), -1);
        CHECK.due("back", x.back(), -1);
        CHECK.dueThrow(x, 0, 0);
        CHECK.due("NONE", CannonPost.NONE, -1);
        CHECK.due("HIDDEN", CannonPost.HIDDEN, -1000000);
    }

    private static void bytesInOrder() {
        CannonPost x = new CannonPost();
        // 'h' '1' ';' 'w' over five numbers, with zeros everywhere between
        CHECK.due("feed", x.feed('h' << 24, '1' << 16, ';' << 8, 'w', 0), 4);
        CHECK.due("feed of zeros", x.feed(0, 0, 0, 0, 0), 4);
        CHECK.due("feed", x.feed(0, 0, 0, 0, '3' << 24 | '1'), 6);
        CHECK.due("fault(2)", x.fault(2), -1);
        CHECK.due("text(2)", x.text(2), 0);
        CHECK.due("first step", x.step(0, 0, 1), 1);
        CHECK.due("second step", x.step(0, 1, 1), 3);
        CHECK.due("second step's way", x.step(0, 1, 2), 1);
        CHECK.due("the tape is empty then", x.count(4), 0);
        CHECK.due("bytes above 127 count", x.feed(-1, 0x80000000, 0, 0, 0), 5);
        CHECK.due("and are wrong", x.fault(0), 0);
        CHECK.due("in a law too", x.fault(1), 0);
        CHECK.due("and in a plan", x.fault(2), 0);
    }

    private static void room() {
        CannonPost x = new CannonPost();
        int full = 0x61616161;
        for (int i = 1; i <= 11; i++) {
            CHECK.due("feed " + i, x.feed(full, full, full, full, full), 20 * i);
        }
        CHECK.due("feed up to 239", x.feed(full, full, full, full, 0x61616100), 239);
        CHECK.due("feed beyond 240", x.feed(0x61610000, 0, 0, 0, 0), -1);
        CHECK.due("still 239", x.count(4), 239);
        CHECK.due("feed up to 240", x.feed(0, 0, 0, 0, 97), 240);
        CHECK.due("feed of nothing into a full one", x.feed(0, 0, 0, 0, 0), 240);
        CHECK.due("feed of a byte into a full one", x.feed(0, 0, 1, 0, 0), -1);
        CHECK.due("still 240", x.count(4), 240);
        for (int i = 0; i < 5; i++) {
            int[] all = new int[5];
            all[i] = full;
            x.end(237);
            CHECK.due("four bytes into room for three", x.feed(all[0], all[1], all[2], all[3], all[4]), -1);
            CHECK.due("still 237", x.count(4), 237);
            x.end(236);
            CHECK.due("four bytes into room for four", x.feed(all[0], all[1], all[2], all[3], all[4]), 240);
        }
    }

    private static void ends() {
        CannonPost x = new CannonPost();
        CHECK.holds("end(0) of an empty tape", x.end(0));
        CHECK.fails("end(1) of an empty tape", x.end(1));
        Check.feedText(x, "h1;h2;h3");
        CHECK.fails("end(-1)", x.end(-1));
        CHECK.fails("end(9)", x.end(9));
        CHECK.fails("end of the least number", x.end(Integer.MIN_VALUE));
        CHECK.due("nothing went", x.count(4), 8);
        CHECK.holds("end(8)", x.end(8));
        CHECK.due("all is there", x.count(4), 8);
        CHECK.holds("end(5)", x.end(5));
        CHECK.due("five are there", x.count(4), 5);
        CHECK.due("two steps", x.text(2), 0);
        CHECK.due("the second step", x.step(0, 1, 1), 2);
        CHECK.due("no third step", x.step(0, 2, 1), -1000000);
    }
}
