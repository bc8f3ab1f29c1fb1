import java.lang.reflect.InvocationTargetException;
import java.lang.reflect.Method;
import java.lang.reflect.Modifier;
import java.util.ArrayList;
import java.util.HashMap;
import java.util.List;
import java.util.Map;
import java.util.Random;

/** Runs of drawn calls, at most 512 on an object, each answered alike by CannonPost and by SecondReading. */
final class SecondReadingTest {
    private static final int RUNS = 60;
    private static final int CALLS = 512;
    private static final int MOST_TOLD_WRONG = 20;
    private static final String[] SIGNS = {
        " sfcwdpbxhymn0123456789;", " ypmwhnd0123456789[]()!=<>+-*/?:;&|", " shwn0123456789;"};
    private static final int[] EDGES = {-2, -1, 0, 1, 2, 5, 6, 7, 8, 9, 10, 20, 21, 60, 61, 63, 64, 100, 101,
        Integer.MIN_VALUE, Integer.MAX_VALUE};
    private static final String[] OFTEN = {"shoot", "shoot", "shoot", "hear", "hear", "undo", "perform", "seen"};

    private final Random random;
    private final Map<String, Method> first = new HashMap<>();
    private final Map<String, Method> second = new HashMap<>();
    private final List<String> names = new ArrayList<>();
    private CannonPost post;
    private SecondReading reading;
    private int calls;
    private int made;
    private int wrong;

    private SecondReadingTest(long seed) {
        random = new Random(seed);
        for (Method method : CannonPost.class.getDeclaredMethods()) {
            if (Modifier.isPublic(method.getModifiers())) {
                first.put(method.getName(), method);
                names.add(method.getName());
            }
        }
        names.sort(null);
        names.removeAll(List.of("feed", "end", "fault", "text"));
        names.addAll(List.of(OFTEN));
        for (Method method : SecondReading.class.getDeclaredMethods()) {
            if (!Modifier.isPrivate(method.getModifiers())) {
                second.put(method.getName(), method);
            }
        }
    }

    public static void main(String[] args) throws ReflectiveOperationException {
        SecondReadingTest test = new SecondReadingTest(args.length > 0 ? Long.parseLong(args[0]) : 20261118L);
        int runs = args.length > 1 ? Integer.parseInt(args[1]) : RUNS;
        for (int i = 0; i < runs && test.wrong < MOST_TOLD_WRONG; i++) {
            test.oneRun(i);
        }
        System.out.println(test.made + " answers looked at, " + test.wrong + " not as due");
        if (test.wrong > 0) {
            System.exit(1);
        }
    }

    private void oneRun(int run) throws ReflectiveOperationException {
        post = new CannonPost();
        reading = new SecondReading();
        calls = 0;
        boolean texts = run % 8 == 0;
        if (!texts && run % 8 != 1) {
            tellAll();
        }
        if (run % 8 == 2) {
            nearTheLastHour();
        } else if (run % 8 == 3) {
            fillTheLog();
        }
        while (calls < CALLS) {
            double kind = random.nextDouble();
            if (kind < (texts ? 0.9 : 0.03)) {
                tellWrong();
            } else if (kind > 0.995) {
                tell(0, league());
            } else {
                String name = names.get(random.nextInt(names.size()));
                call(name, drawn(name));
            }
        }
    }

    private void tellAll() throws ReflectiveOperationException {
        for (int i = random.nextInt(5); i > 0; i--) {
            tell(1, law());
        }
        for (int i = random.nextInt(5); i > 0; i--) {
            tell(2, plan());
        }
        tell(0, league());
    }

    /** Few drawn runs would come to 9,999, the bound of HOURS. */
    private void nearTheLastHour() throws ReflectiveOperationException {
        for (int i = 0; i < 166; i++) {
            call("hours", 60);
        }
        call("hours", 1 + random.nextInt(38));
    }

    /** Few would be SHOT sixty times, as POWDER ends: they are SHOT by a PLAN, and POWDER is brought. */
    private void fillTheLog() throws ReflectiveOperationException {
        tell(2, "s0001;s0002;s1001;h1;s0003;s1102;s2001;s0104;s1001");
        for (int i = random.nextInt(40); i >= 0; i--) {
            call("perform", 0);
            call("perform", reading.count(3) - 1);
            call("grind", 1 + random.nextInt(30));
        }
    }

    // ---- one call on both

    private void call(String name, Object... given) throws ReflectiveOperationException {
        if (calls >= CALLS) {
            return;
        }
        calls++;
        made++;
        String one = answer(first.get(name), post, given);
        String other = answer(second.get(name), reading, given);
        if (!one.equals(other)) {
            wrong++;
            System.out.println(name + List.of(given) + " answered " + one + ", by the second reading " + other);
        }
    }

    private static String answer(Method method, Object on, Object[] given) throws ReflectiveOperationException {
        try {
            return String.valueOf(method.invoke(on, given));
        } catch (InvocationTargetException e) {
            return e.getCause().getClass().getName();
        }
    }

    private Object[] drawn(String name) {
        Class<?>[] types = first.get(name).getParameterTypes();
        Object[] given = new Object[types.length];
        boolean odd = random.nextInt(8) == 0;
        int[][] bounds = boundsOf(name);
        for (int i = 0; i < types.length; i++) {
            if (types[i] == boolean.class) {
                given[i] = random.nextBoolean();
            } else if (types[i] == long.class) {
                given[i] = random.nextInt(4) == 0 ? (long) random.nextInt(3) - 1 : random.nextLong();
            } else if (odd && random.nextInt(types.length) == 0) {
                given[i] = EDGES[random.nextInt(EDGES.length)];
            } else {
                given[i] = bounds[i][0] + random.nextInt(bounds[i][1] - bounds[i][0] + 1);
            }
        }
        if (name.equals("seen") && random.nextInt(5) > 0) {
            given[4] = likelyPlace(given);
        }
        return given;
    }

    /** A place that some wind explains, as a drawn one hardly ever is. */
    private int likelyPlace(Object[] given) {
        int place = reading.lands((int) given[0], (int) given[1], (int) given[2], (int) given[3], 1);
        return place == Check.HIDDEN ? 0 : place + random.nextInt(2) * reading.rule(4);
    }

    private int[][] boundsOf(String name) {
        int[] fort = {0, Math.max(1, reading.count(0) - 1)};
        int[] carrier = {0, Math.max(1, reading.count(1) - 1)};
        int[] powder = {1, 20};
        int[] way = {0, 1};
        int[] news = {0, 5};
        switch (name) {
            case "rule": case "hays":
                return new int[][] {{0, name.equals("rule") ? 4 : 9}};
            case "fort":
                return new int[][] {fort, {0, 3}};
            case "carrier":
                return new int[][] {carrier, {0, 4}};
            case "law": case "perform":
                return new int[][] {{name.equals("law") ? -1 : 0, 3}};
            case "damps": case "damp":
                return new int[][] {{0, 9}};
            case "shoot":
                return new int[][] {carrier, {1, random.nextInt(3) == 0 ? 20 : 6}, way, {0, random.nextInt(3) == 0 ? 63 : 0}};
            case "hear":
                return new int[][] {fort, news};
            case "stack":
                return new int[][] {fort, {1, 4}};
            case "grind":
                return new int[][] {{1, 50}};
            case "wind":
                return new int[][] {{0, 9}, way};
            case "hours": case "decades":
                return new int[][] {{1, random.nextInt(3) == 0 ? 60 : 4}, {0, 0}};
            case "log":
                return new int[][] {{0, Math.max(2, reading.count(12))}, {0, 3}};
            case "step":
                return new int[][] {{0, 3}, {0, 6}, {0, 3}};
            case "run":
                return new int[][] {{0, 3}, way};
            case "lands":
                return new int[][] {carrier, fort, powder, way, way};
            case "aim": case "sure":
                return new int[][] {carrier, fort, fort};
            case "route":
                return new int[][] {carrier, fort, fort, way};
            case "relay":
                return new int[][] {news, fort, way};
            case "surest":
                return new int[][] {fort, fort};
            case "seen":
                return new int[][] {carrier, fort, powder, way, {-60, 100}};
            case "winds":
                return new int[][] {{-1, 19}};
            case "ask":
                return new int[][] {carrier, fort};
            case "net": case "meant": case "home":
                return new int[][] {fort};
            case "game":
                return new int[][] {carrier, carrier, {0, 20}, way, way, way};
            case "rests":
                return new int[][] {carrier, carrier, {0, 14}, {-1, 3}};
            case "face":
                return new int[][] {fort, way};
            case "stock":
                return new int[][] {powder};
            case "best":
                return new int[][] {way, {-10, 60}};
            case "known":
                return new int[][] {news};
            case "gusts":
                return new int[][] {carrier, fort, powder, way, {0, 100}};
            case "passing":
                return new int[][] {carrier, carrier};
            default:
                return new int[][] {{0, 13}};
        }
    }

    // ---- texts

    private void tell(int sort, String text) throws ReflectiveOperationException {
        call("end", 0);
        feed(text);
        call("fault", sort);
        call("text", sort);
    }

    private void tellWrong() throws ReflectiveOperationException {
        int sort = random.nextInt(3);
        StringBuilder text = new StringBuilder(sort == 0 ? league() : sort == 1 ? law() : plan());
        boolean longer = random.nextInt(4) == 0;
        if (longer) {
            goOn(text, sort);
        }
        for (int i = random.nextInt(longer ? 2 : 4); i > 0; i--) {
            int at = random.nextInt(text.length() + 1);
            char sign = random.nextInt(20) == 0 ? (char) (1 + random.nextInt(255))
                    : SIGNS[sort].charAt(random.nextInt(SIGNS[sort].length()));
            int way = random.nextInt(3);
            if (way == 0 || at == text.length()) {
                text.insert(at, sign);
            } else if (way == 1) {
                text.setCharAt(at, sign);
            } else {
                text.deleteCharAt(at);
            }
        }
        call("end", random.nextInt(6) > 0 ? 0 : random.nextInt(250) - 5);
        feed(text.toString());
        call("fault", random.nextInt(9) > 0 ? sort : random.nextInt(5) - 1);
        if (random.nextInt(3) == 0) {
            call("text", random.nextInt(9) > 0 ? sort : random.nextInt(5) - 1);
        }
    }

    /** One part more behind the last one, as it may be just the one too many, and blanks about it. */
    private void goOn(StringBuilder text, int sort) {
        String[][] parts = {{"s", "f", "c"}, {"y:p", "y:!p=1?1"}, {"h1", "w11"}};
        text.append("  ", 0, random.nextInt(3)).append(';').append("  ", 0, random.nextInt(3));
        if (random.nextInt(4) > 0) {
            text.append(parts[sort][random.nextInt(parts[sort].length)]);
        }
        text.append("  ", 0, random.nextInt(3));
    }

    private void feed(String text) throws ReflectiveOperationException {
        for (int i = 0; i < text.length(); i += 20) {
            Object[] words = new Object[5];
            for (int k = 0; k < 5; k++) {
                int word = 0;
                for (int j = i + 4 * k; j < i + 4 * k + 4; j++) {
                    word = word << 8 | (j < text.length() ? text.charAt(j) & 255 : 0);
                }
                words[k] = word;
            }
            call("feed", words);
        }
    }

    private String blanked(String text) {
        StringBuilder all = new StringBuilder();
        boolean blanks = random.nextInt(5) == 0;
        for (char sign : text.toCharArray()) {
            all.append(blanks && !Character.isDigit(sign) && random.nextInt(6) == 0 ? " " : "").append(sign);
        }
        return all.toString();
    }

    private String league() {
        List<Integer> places = new ArrayList<>();
        int span = new int[] {9, 20, 40}[random.nextInt(3)];
        for (int i = 0; i <= span; i++) {
            places.add(i);
        }
        java.util.Collections.shuffle(places, random);
        boolean full = random.nextInt(5) == 0;
        int forts = full ? 8 : 2 + random.nextInt(7);
        List<String> clauses = new ArrayList<>();
        for (int i = 0; i < forts; i++) {
            clauses.add("fx" + places.get(i) + item('h', 0, 9) + item('y', 0, 9));
        }
        for (int i = full ? 4 : random.nextInt(5); i >= 0; i--) {
            clauses.add("c" + item('f', 0, forts - 1) + item('m', 1, 9) + item('n', 0, 9));
        }
        if (full || random.nextInt(4) > 0) {
            clauses.add("s" + item('w', 0, 9) + item('d', 0, 1) + item('p', 20, 99) + item('b', 1, 6));
        }
        java.util.Collections.shuffle(clauses, random);
        return blanked(String.join(";", clauses));
    }

    private String item(char letter, int least, int most) {
        return random.nextInt(4) == 0 ? "" : letter + "" + (least + random.nextInt(most - least + 1));
    }

    private String plan() {
        List<String> steps = new ArrayList<>();
        for (int i = random.nextInt(random.nextInt(4) == 0 ? 18 : 6); i >= 0; i--) {
            switch (random.nextInt(6)) {
                case 0:
                    steps.add("h" + random.nextInt(10));
                    break;
                case 1:
                    steps.add("w" + random.nextInt(10) + random.nextInt(2));
                    break;
                case 2:
                    steps.add("n" + random.nextInt(8) + random.nextInt(7));
                    break;
                default:
                    steps.add("s" + random.nextInt(3) + random.nextInt(2) + random.nextInt(2) + random.nextInt(10));
                    break;
            }
        }
        return blanked(String.join(";", steps));
    }

    private int left;

    private String law() {
        left = 2 + random.nextInt(30);
        List<String> clauses = new ArrayList<>();
        for (int i = random.nextInt(3); i >= 0; i--) {
            String condition = random.nextBoolean() ? condition(0) + "?" : "";
            String[] plain = {"p*3", "p+w+h", "6*p/m+w-d", "p*2-d", "n+p", "60-p*2"};
            clauses.add("y:" + condition + (random.nextInt(3) > 0 ? plain[random.nextInt(plain.length)] : sum(0)));
        }
        String all = blanked(String.join(";", clauses));
        return all.length() > 240 ? "y:p" : all;
    }

    private String sum(int nested) {
        StringBuilder all = new StringBuilder(atom(nested));
        while (left > 0 && random.nextInt(5) < 2) {
            all.append("+-*/".charAt(random.nextInt(4))).append(atom(nested));
        }
        return all.toString();
    }

    private String atom(int nested) {
        left--;
        if (left > 0 && nested < 6 && random.nextInt(6) == 0) {
            return "[" + sum(nested + 1) + "]";
        }
        int[] numbers = {0, 1, 2, 3, 5, 7, 20, 100, 9999, random.nextInt(10000)};
        return random.nextBoolean() ? "" + "pmwhnd".charAt(random.nextInt(6)) : "" + numbers[random.nextInt(numbers.length)];
    }

    private String condition(int nested) {
        StringBuilder all = new StringBuilder(unit(nested));
        while (left > 0 && random.nextInt(5) < 2) {
            all.append("&|".charAt(random.nextInt(2))).append(unit(nested));
        }
        return all.toString();
    }

    private String unit(int nested) {
        left--;
        int kind = left > 0 && nested < 6 ? random.nextInt(5) : 4;
        if (kind == 0) {
            return "!" + unit(nested + 1);
        }
        if (kind == 1) {
            return "(" + condition(nested + 1) + ")";
        }
        return sum(nested) + "=<>".charAt(random.nextInt(3)) + sum(nested);
    }
}
