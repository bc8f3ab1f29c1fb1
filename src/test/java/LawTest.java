/** Promises 4, 5 and 9 for LAWS: where a text is wrong, what it is worth, which holds. */
final class LawTest {
    private static final Check CHECK = new Check();
    private static final int SORT = Check.LAW;

    public static void main(String[] args) {
        sound();
        wrong();
        nesting();
        worths();
        letters();
        bounds();
        holding();
        CHECK.close();
    }

    private static void sound() {
        CHECK.dueSound(SORT, "y:1");
        CHECK.dueSound(SORT, "y:9999");
        CHECK.dueSound(SORT, "y:p*3+m-w/h*n+d");
        CHECK.dueSound(SORT, "y:p=1?2;y:3");
        CHECK.dueSound(SORT, "y:p=1&m<2|w>3?[p+1]*2;y:!h=1?1;y:(n=1|d=2)&!(p=1)?2;y:0");
        CHECK.dueSound(SORT, "y:[p]=[m]?[[w]]");
        CHECK.dueSound(SORT, " y : p = 1 & ! ( m < 2 ) ? [ 12 + p ] ; y : 3 ");
        CHECK.dueSound(SORT, "y:0;y:1;y:2");
    }

    private static void wrong() {
        CHECK.dueFault(SORT, "", 0);
        CHECK.dueFault(SORT, "  ", 2);
        CHECK.dueFault(SORT, "p", 0);
        CHECK.dueFault(SORT, "y", 1);
        CHECK.dueFault(SORT, "yp", 1);
        CHECK.dueFault(SORT, "y:", 2);
        CHECK.dueFault(SORT, "y: ", 3);
        CHECK.dueFault(SORT, "y:-1", 2);
        CHECK.dueFault(SORT, "y:x", 2);
        CHECK.dueFault(SORT, "y:1;", 4);
        CHECK.dueFault(SORT, "y:1;;", 4);
        CHECK.dueFault(SORT, "y:1;p", 4);
        CHECK.dueFault(SORT, "y:pm", 3);
        CHECK.dueFault(SORT, "y:12345", 6);
        CHECK.dueFault(SORT, "y:p+12345", 8);
        CHECK.dueFault(SORT, "y:1 2", 4);
        CHECK.dueFault(SORT, "y:1p", 3);
        CHECK.dueFault(SORT, "y:p1", 3);
        CHECK.dueFault(SORT, "y:p+", 4);
        CHECK.dueFault(SORT, "y:p+*", 4);
        CHECK.dueFault(SORT, "y:p++m", 4);
        CHECK.dueFault(SORT, "y:p?1", 3);
        CHECK.dueFault(SORT, "y:p&m=1?1", 3);
        CHECK.dueFault(SORT, "y:p>1", 5);
        CHECK.dueFault(SORT, "y:p>1;", 5);
        CHECK.dueFault(SORT, "y:p>?", 4);
        CHECK.dueFault(SORT, "y:p=1=2", 5);
        CHECK.dueFault(SORT, "y:p=1?", 6);
        CHECK.dueFault(SORT, "y:p=1?2?3", 7);
        CHECK.dueFault(SORT, "y:p=1?m=2", 7);
        CHECK.dueFault(SORT, "y:p=1?!", 6);
        CHECK.dueFault(SORT, "y:p=1&", 6);
        CHECK.dueFault(SORT, "y:p=1&&", 6);
        CHECK.dueFault(SORT, "y:p=1|m?", 7);
        CHECK.dueFault(SORT, "y:(p)", 4);
        CHECK.dueFault(SORT, "y:(p=1", 6);
        CHECK.dueFault(SORT, "y:(p=1)", 7);
        CHECK.dueFault(SORT, "y:(p=1)+", 7);
        CHECK.dueFault(SORT, "y:(p=1)=", 7);
        CHECK.dueFault(SORT, "y:(p=1]", 6);
        CHECK.dueFault(SORT, "y:p=1)?1", 5);
        CHECK.dueFault(SORT, "y:!p", 4);
        CHECK.dueFault(SORT, "y:!p?", 4);
        CHECK.dueFault(SORT, "y:!", 3);
        CHECK.dueFault(SORT, "y:[p", 4);
        CHECK.dueFault(SORT, "y:[p=1]", 4);
        CHECK.dueFault(SORT, "y:[p)", 4);
        CHECK.dueFault(SORT, "y:[]", 3);
        CHECK.dueFault(SORT, "y:p]", 3);
        CHECK.dueFault(SORT, "y:[(p=1)]", 3);
        CHECK.dueFault(SORT, "y:p=(1)", 4);
        CHECK.dueFault(SORT, "y:p=!1", 4);
        CHECK.dueFault(SORT, "y:p=1?(1)", 6);
    }

    private static void nesting() {
        CHECK.dueSound(SORT, "y:[[[[[[1]]]]]]");
        CHECK.dueFault(SORT, "y:[[[[[[[1]]]]]]]", 8);
        CHECK.dueSound(SORT, "y:((((((p=1))))))?1");
        CHECK.dueFault(SORT, "y:(((((((p=1)))))))?1", 8);
        CHECK.dueSound(SORT, "y:!!!!!!p=1?1");
        CHECK.dueFault(SORT, "y:!!!!!!!p=1?1", 8);
        CHECK.dueSound(SORT, "y:!(!([[p]]=1))?1");
        CHECK.dueSound(SORT, "y:p=1?[[[[[[1]]]]]]");
        CHECK.dueFault(SORT, "y:p=1?[[[[[[[1]]]]]]]", 12);
        CHECK.dueSound(SORT, "y:!p=1?[[[[[[1]]]]]]");
        CHECK.dueFault(SORT, "y:!(!([[[p]]]=1))?1", 8);
        CHECK.dueFault(SORT, "y:!!!!!(p=[1])?1", 10);
        CHECK.dueFault(SORT, "y:!!!!!!p=[1]?1", 10);
        CHECK.dueSound(SORT, "y:!!!!!!p=1&[p]=1?[1]");
        CHECK.dueSound(SORT, "y:((((([1]=1)))))&[[[[[[1]]]]]]=[1]?[1]");
        CHECK.dueSound(SORT, "y:[[[[[[1]]]]]]+[[[[[[1]]]]]]=[1]?[1]");
    }

    /** What a law is worth with POWDER 7, WEIGHT 4, WIND 2, HEIGHT 3, NERVE 6, DAMP 1, which shows as a place. */
    private static int worth(String law) {
        CannonPost x = Check.post("sw2;fh3;fx9;cm4n6");
        x.damp(1);
        if (Check.tell(x, SORT, law) != 0 || !x.law(0)) {
            return -99;
        }
        return x.lands(0, 0, 7, 0, 1);
    }

    private static void dueWorth(String law, int want) {
        CHECK.due("worth of " + law, worth(law), want);
    }

    private static void worths() {
        dueWorth("y:2+3*4", 14);
        dueWorth("y:[2+3]*4", 20);
        dueWorth("y:20-3-4", 13);
        dueWorth("y:20-3+4", 21);
        dueWorth("y:20-[3+4]", 13);
        dueWorth("y:40/4/5", 2);
        dueWorth("y:40/4*5", 50);
        dueWorth("y:7/2", 3);
        dueWorth("y:10+[0-7]/2", 7);
        dueWorth("y:10+7/[0-2]", 7);
        dueWorth("y:10+[0-7]/[0-2]", 13);
        dueWorth("y:5/0+3", 3);
        dueWorth("y:1+2*3+4*5", 27);
        dueWorth("y:30-2*3-4*5", 4);
        dueWorth("y:2*3*4/6", 4);
        dueWorth("y:1<2?3;y:4", 3);
        dueWorth("y:2<2?3;y:4", 4);
        dueWorth("y:3>2?3;y:4", 3);
        dueWorth("y:2>2?3;y:4", 4);
        dueWorth("y:2=2?3;y:4", 3);
        dueWorth("y:2=3?3;y:4", 4);
        dueWorth("y:1=2?3", 0);
        dueWorth("y:1=2?3;y:2=3?4", 0);
        dueWorth("y:1=2?3;y:2=2?4;y:5", 4);
        dueWorth("y:6;y:7", 6);
        dueWorth("y:!1=2?3;y:4", 3);
        dueWorth("y:!!1=2?3;y:4", 4);
        dueWorth("y:!1=1&1=2?3;y:4", 4);
        dueWorth("y:!(1=1&1=2)?3;y:4", 3);
        dueWorth("y:1=1|1=1&1=2?3;y:4", 3);
        dueWorth("y:(1=1|1=1)&1=2?3;y:4", 4);
        dueWorth("y:1=2&1=1|1=1?3;y:4", 3);
        dueWorth("y:1=2|1=2|1=1?3;y:4", 3);
        dueWorth("y:1=2|1=2&1=1|1=2?3;y:4", 4);
        dueWorth("y:1=1&1=1&1=2?3;y:4", 4);
        dueWorth("y:1=1|1=2|1=2?3;y:4", 3);
        dueWorth("y:1=2|1=1&1=1|1=2?3;y:4", 3);
        dueWorth("y:1=2&1=1&1=1?3;y:4", 4);
        dueWorth("y:!1=1?3;y:4", 4);
        dueWorth("y:!1=2|1=2?3;y:4", 3);
        dueWorth("y:1+1=2&3*2>5?3;y:4", 3);
        dueWorth("y:1+1=2+0&2<1+2?3+4*2;y:4", 11);
    }

    private static void letters() {
        dueWorth("y:p", 7);
        dueWorth("y:m", 4);
        dueWorth("y:w", 2);
        dueWorth("y:h", 3);
        dueWorth("y:n", 6);
        dueWorth("y:d", 1);
        CannonPost x = Check.post("sw2;fx20h3;fx9;cm4n6");
        Check.tell(x, SORT, "y:9+w");
        x.law(0);
        CHECK.due("the wind with it", x.lands(0, 0, 7, 0, 1), 31);
        CHECK.due("the wind against it", x.lands(0, 0, 7, 1, 1), 13);
        x.wind(3, 1);
        CHECK.due("the other wind against it", x.lands(0, 0, 7, 0, 1), 26);
        CHECK.due("the other wind with it", x.lands(0, 0, 7, 1, 1), 8);
    }

    private static void bounds() {
        dueWorth("y:60", 60);
        dueWorth("y:61", 60);
        dueWorth("y:0-1", 0);
        dueWorth("y:9999*9999/9999", 60);
        dueWorth("y:9999*9999/[9999*5]", 20);
        dueWorth("y:[9999*9999+9999]/[9999*5]", 20);
        dueWorth("y:[9999*9999-9999]/[9999*5]", 19);
        dueWorth("y:40+[0-9999]*9999/[9999*5]", 20);
        dueWorth("y:40+[[0-9999]*9999-9999]/[9999*5]", 20);
        dueWorth("y:9999*9999*9999*9999=100*100*100?5;y:6", 5);
        dueWorth("y:9999*101=9999*100+9999?5;y:6", 5);
        dueWorth("y:9999*9999-9999*100-60", 40);
        dueWorth("y:[0-9999]*9999+9999*100+140", 40);
        dueWorth("y:[9999*100+9999]-9999*100-60", 40);
        dueWorth("y:5000*200=9999*9999?5;y:6", 5);
        dueWorth("y:9999*100<9999*9999?5;y:6", 5);
    }

    private static void holding() {
        CannonPost x = Check.post("sw0;f;fx9;cm3");
        CHECK.due("none at first", x.count(5), -1);
        CHECK.due("without a law", x.lands(0, 0, 4, 0, 1), 8);
        CHECK.holds("law(-1) when none holds", x.law(-1));
        CHECK.fails("law(0) when there is none", x.law(0));
        for (int i = 0; i < 4; i++) {
            CHECK.due("text(1)", Check.tell(x, SORT, "y:" + (11 + i)), i);
            CHECK.due("count(2)", x.count(2), i + 1);
            CHECK.due("the tape is empty then", x.count(4), 0);
        }
        CHECK.due("text(1), a fifth", Check.tell(x, SORT, "y:1"), -1);
        CHECK.due("its tape is still there", x.count(4), 3);
        CHECK.due("still four", x.count(2), 4);
        CHECK.due("none holds by being told", x.lands(0, 0, 4, 0, 1), 8);
        for (int i = 3; i >= 0; i--) {
            CHECK.holds("law(" + i + ")", x.law(i));
            CHECK.due("count(5)", x.count(5), i);
            CHECK.due("it holds", x.lands(0, 0, 4, 0, 1), 11 + i);
        }
        CHECK.fails("law(4)", x.law(4));
        CHECK.fails("law(-2)", x.law(-2));
        CHECK.fails("law of the least number", x.law(Integer.MIN_VALUE));
        CHECK.due("it is as it was", x.count(5), 0);
        CHECK.holds("law(0) again", x.law(0));
        CHECK.holds("law(-1)", x.law(-1));
        CHECK.due("none holds", x.count(5), -1);
        CHECK.due("as at first", x.lands(0, 0, 4, 0, 1), 8);
        CHECK.due("no act", x.count(13), 0);
        Check.tell(x, SORT, "y:p>");
        CHECK.due("a wrong law", x.text(1), -1);
    }
}
