import java.util.HashMap;
import java.util.Map;
import java.util.NoSuchElementException;

/**
 * Looks at calls at a bound, one below it and one above it, each on a post of its own with the same
 * past. What is refused must answer as told, and the post must answer like one that was never asked.
 */
final class Bounds {
    /** What was called ahead of the call that is looked at. */
    interface Past {
        void on(CannonPost x);
    }

    interface Call {
        int on(CannonPost x);
    }

    /** A call of which one number is looked at. */
    interface Numbered {
        int on(CannonPost x, int number);
    }

    /** Stands for an answer: the call threw NoSuchElementException. */
    static final int THROWN = -7777777;
    /** Stands for the answers of a call that tells by false that it is refused. */
    static final int FALSE = 0;
    static final int TRUE = 1;

    private final Check check = new Check();
    private final Map<Past, String> untouched = new HashMap<>();

    static int asInt(boolean answer) {
        return answer ? TRUE : FALSE;
    }

    /** What carrier answers, or that it threw what the document names. */
    static int carrierOf(CannonPost x, int carrier, int what) {
        try {
            return x.carrier(carrier, what);
        } catch (NoSuchElementException e) {
            return THROWN;
        }
    }

    static CannonPost after(Past past) {
        CannonPost x = new CannonPost();
        past.on(x);
        return x;
    }

    void due(String call, long got, long want) {
        check.due(call, got, want);
    }

    void due(String call, boolean got, boolean want) {
        check.due(call, asInt(got), asInt(want));
    }

    void dueFault(int sort, String text, int want) {
        check.dueFault(sort, text, want);
    }

    /** The text has no FAULT, and is taken as the first of its sort. */
    void sound(int sort, String text) {
        check.dueFault(sort, text, Check.NONE);
        CannonPost x = new CannonPost();
        check.holds("text(" + sort + ") of '" + text + "'", Check.tell(x, sort, text) != Check.NONE);
        check.due("its tape is empty then", x.count(4), 0);
    }

    /** The text has its FAULT there, is not taken, and stays on the tape; a LEAGUE that is there stays. */
    void wrong(int sort, String text, int at) {
        check.dueFault(sort, text, at);
        CannonPost x = Check.post("f;fx7;fx9;c");
        x.hours(2);
        Check.feedText(x, text);
        check.due("text(" + sort + ") of '" + text + "'", x.text(sort), Check.NONE);
        check.due("its tape stays", x.count(4), text.length());
        check.due("no law of it", x.count(2), 0);
        check.due("no plan of it", x.count(3), 0);
        check.due("the league stays", x.count(0), 3);
        check.due("and its hour", x.count(6), 2);
    }

    void close() {
        check.close();
    }

    /** It answers as told, and changes nothing. */
    void refused(String name, Past past, Call call, int want) {
        check.due(name + ", refused", call.on(after(past)), want);
        unchanged(name, past, call);
    }

    /** Whatever it answers, it changes nothing. */
    void unchanged(String name, Past past, Call call) {
        String was = untouched.computeIfAbsent(past, p -> allOf(p, x -> 0));
        check.holds(name + " changes nothing", was.equals(allOf(past, call)));
    }

    /** Whatever led there, both answer alike from then on. */
    void alike(String name, Past one, Past other) {
        check.holds(name, allOf(one, x -> 0).equals(allOf(other, x -> 0)));
    }

    /** From least to most the number is taken, one below and one above it is refused, as all beyond are. */
    void within(String name, Past past, int least, int most, Numbered call, int refusal) {
        for (int number : new int[] {least - 1, most + 1, Integer.MIN_VALUE, Integer.MAX_VALUE}) {
            refused(name + " with " + number, past, x -> call.on(x, number), refusal);
        }
        for (int number : new int[] {least, Math.min(least + 1, most), Math.max(most - 1, least), most}) {
            int got = call.on(after(past), number);
            check.holds(name + " with " + number + " answered " + got + ", not refused", got != refusal);
        }
    }

    /** All that can be asked of posts with this past and this call; each look has its own, to stay within 512 calls. */
    private static String allOf(Past past, Call call) {
        StringBuilder all = new StringBuilder();
        CannonPost asked = after(past);
        call.on(asked);
        all.append(Check.stateOf(asked)).append(asked.following()).append('\n');
        CannonPost told = after(past);
        call.on(told);
        all.append(textsOf(told)).append('\n');
        CannonPost undone = after(past);
        call.on(undone);
        all.append(actsOf(undone)).append('\n');
        CannonPost imaged = after(past);
        call.on(imaged);
        all.append(imaged.back()).append(' ').append(Check.stateOf(imaged));
        return all.toString();
    }

    /** What the tape is, what each LAW is worth, and what each PLAN tells. */
    private static String textsOf(CannonPost x) {
        StringBuilder all = new StringBuilder();
        for (int sort = 0; sort <= 2; sort++) {
            all.append(x.fault(sort)).append(' ');
        }
        for (int law = -1; law < x.count(2); law++) {
            all.append(x.law(law)).append(x.lands(0, 0, 5, 0, 1)).append(x.lands(0, 1, 9, 1, 1)).append(' ');
        }
        x.text(2);
        for (int plan = 0; plan < x.count(3); plan++) {
            for (int i = 0; x.step(plan, i, 0) != Check.HIDDEN; i++) {
                for (int what = 0; what <= 3; what++) {
                    all.append(x.step(plan, i, what)).append(' ');
                }
            }
        }
        return all.toString();
    }

    private static String actsOf(CannonPost x) {
        StringBuilder all = new StringBuilder();
        for (int i = 0; i <= 40; i++) {
            all.append(x.undo()).append(' ').append(x.rule(0)).append(' ').append(x.rule(2)).append(' ');
            all.append(x.count(6)).append(' ').append(x.count(7)).append(' ').append(x.count(12)).append(' ');
        }
        return all.toString();
    }
}
