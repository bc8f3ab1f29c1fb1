/**
 * Promise 4 at each sign of a sound text: one sign more, another one instead, one less. The FAULT is held
 * against the second reading, which keeps the rules of a text as rules and reads them sign by sign.
 */
final class OneSignOffTest {
    private static final Check CHECK = new Check();
    private static final String[] SIGNS = {
        " sfcwdpbxhymn0179;~", " ypmwd019[]()!=<>+-*/?:;&|~", " shwn0129;~"};
    private static final String[][] TEXTS = {
        {"sw9d1p20b3;fx10h2y3;f;cm2n3f1", "s;f;fx1;fx2;fx3;fx4;fx5;fx6;fx7;c;c;c;c;c", " c ; f x 4 0 ; f "},
        {"y:!(p=1&m<23)|w>[4+d]?p*6/d-2;y:1", "y:[p];y:!!p=1?2", " y : ( 9999 = p ) ? w "},
        {"s0105;h3;w41;n25", "h1;h2;h3;h4;h5;h6;h7;h8;h9;h1;h2;h3;h4;h5;h6;h7", " s 1 0 2 0 ; w 3 1 "}};

    public static void main(String[] args) {
        for (int sort = 0; sort <= 2; sort++) {
            for (String text : TEXTS[sort]) {
                offBy(sort, text);
            }
        }
        CHECK.close();
    }

    private static void offBy(int sort, String text) {
        look(sort, text);
        for (int i = 0; i <= text.length(); i++) {
            String ahead = text.substring(0, i);
            look(sort, ahead);
            if (i < text.length()) {
                look(sort, ahead + text.substring(i + 1));
            }
            for (char sign : SIGNS[sort].toCharArray()) {
                look(sort, ahead + sign + text.substring(i));
                if (i < text.length()) {
                    look(sort, ahead + sign + text.substring(i + 1));
                }
            }
        }
    }

    private static void look(int sort, String text) {
        SecondReading reading = new SecondReading();
        for (char sign : text.toCharArray()) {
            reading.feed(sign, 0, 0, 0, 0);
        }
        CHECK.dueFault(sort, text, reading.fault(sort));
    }
}
