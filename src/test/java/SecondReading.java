import java.util.ArrayList;
import java.util.HashMap;
import java.util.HashSet;
import java.util.List;
import java.util.Map;
import java.util.NoSuchElementException;
import java.util.Set;
import java.util.TreeSet;

/**
 * The document read a second time, as plainly as the Java library allows and without a thought for
 * speed or room: what CannonPost answers is held against it.
 */
final class SecondReading {
    private static final int NONE = -1;
    private static final int HIDDEN = -1000000;
    private static final String[] LETTERS = {"wdpb", "xhy", "mnf"};
    private static final int[][] LEAST = {{0, 0, 0, 1}, {0, 0, 0}, {1, 0, 0}};
    private static final int[][] MOST = {{9, 1, 99, 6}, {40, 9, 9}, {9, 9, 7}};
    private static final int[][] USUAL = {{1, 0, 50, 3}, {0, 0, 2}, {3, 5, 0}};

    /** All that an act can change. */
    private static final class World {
        int powder;
        int wind;
        int windWay;
        int damp;
        int hour;
        List<Integer> at = new ArrayList<>();
        List<Integer> hurt = new ArrayList<>();
        List<Integer> late = new ArrayList<>();
        List<Integer> hay = new ArrayList<>();
        List<TreeSet<Integer>> news = new ArrayList<>();
        List<int[]> log = new ArrayList<>();

        World copy() {
            World w = new World();
            w.powder = powder;
            w.wind = wind;
            w.windWay = windWay;
            w.damp = damp;
            w.hour = hour;
            w.at.addAll(at);
            w.hurt.addAll(hurt);
            w.late.addAll(late);
            w.hay.addAll(hay);
            for (TreeSet<Integer> n : news) {
                w.news.add(new TreeSet<>(n));
            }
            w.log.addAll(log);
            return w;
        }

        void anHour() {
            late.replaceAll(n -> n > 0 ? n - 1 : 0);
            hour++;
            if (hour % 4 == 0) {
                hay.replaceAll(n -> n < 9 ? n + 1 : 9);
            }
        }
    }

    private String tape = "";
    private int[] rules = USUAL[0];
    private List<int[]> forts = new ArrayList<>();
    private List<int[]> carriers = new ArrayList<>();
    private final List<String> laws = new ArrayList<>();
    private final List<String[]> plans = new ArrayList<>();
    private int holds = NONE;
    private int damps;
    private World world = new World();
    private World image;
    private final List<World> acts = new ArrayList<>();
    private final List<int[]> sights = new ArrayList<>();
    private final List<int[]> faces = new ArrayList<>();

    // ---- texts

    int feed(int a, int b, int c, int d, int e) {
        StringBuilder more = new StringBuilder(tape);
        for (int number : new int[] {a, b, c, d, e}) {
            for (byte one : new byte[] {(byte) (number >> 24), (byte) (number >> 16), (byte) (number >> 8), (byte) number}) {
                if (one != 0) {
                    more.append((char) (one & 255));
                }
            }
        }
        if (more.length() > 240) {
            return NONE;
        }
        tape = more.toString();
        return tape.length();
    }

    boolean end(int n) {
        if (n < 0 || n > tape.length()) {
            return false;
        }
        tape = tape.substring(0, n);
        return true;
    }

    int fault(int sort) {
        switch (sort) {
            case 0:
                return leagueFault(new ArrayList<>());
            case 1:
                return grammarFault("LAW0");
            case 2:
                return grammarFault("PLAN0");
            default:
                return -2;
        }
    }

    /** Clauses come to the list, each with its sort in front of its items. */
    private int leagueFault(List<int[]> clauses) {
        int i = 0;
        int[] now = null;
        Set<Character> told = new HashSet<>();
        boolean open = true;
        while (true) {
            while (i < tape.length() && tape.charAt(i) == ' ') {
                i++;
            }
            if (i == tape.length()) {
                return open || !fits(clauses) ? i : NONE;
            }
            char sign = tape.charAt(i);
            if (open) {
                int sort = "sfc".indexOf(sign);
                if (sort < 0 || clauses.stream().filter(c -> c[0] == sort).count() == new int[] {1, 8, 5}[sort]) {
                    return i;
                }
                now = new int[USUAL[sort].length + 1];
                now[0] = sort;
                System.arraycopy(USUAL[sort], 0, now, 1, USUAL[sort].length);
                clauses.add(now);
                told.clear();
                open = false;
                i++;
            } else if (sign == ';') {
                open = true;
                i++;
            } else {
                int item = LETTERS[now[0]].indexOf(sign);
                if (item < 0 || !told.add(sign)) {
                    return i;
                }
                i++;
                while (i < tape.length() && tape.charAt(i) == ' ') {
                    i++;
                }
                int start = i;
                while (i < tape.length() && Character.isDigit(tape.charAt(i))) {
                    i++;
                }
                if (i == start) {
                    return i;
                }
                if (i - start > 2) {
                    return start + 2;
                }
                int value = Integer.parseInt(tape.substring(start, i));
                if (value < LEAST[now[0]][item] || value > MOST[now[0]][item]) {
                    return i - 1;
                }
                now[item + 1] = value;
            }
        }
    }

    private static boolean fits(List<int[]> clauses) {
        Set<Integer> places = new HashSet<>();
        int forts = 0;
        int carriers = 0;
        for (int[] c : clauses) {
            if (c[0] == 1) {
                forts++;
                places.add(c[1]);
            }
        }
        for (int[] c : clauses) {
            if (c[0] == 2) {
                carriers++;
                if (c[3] >= forts) {
                    return false;
                }
            }
        }
        return forts >= 2 && carriers >= 1 && places.size() == forts;
    }

    /**
     * All that may still come is held as rows of words: 'abc stands for one of these signs, ~abc for
     * one that must follow at once, other words for what they can become.
     */
    private int grammarFault(String start) {
        Set<String> rows = grown(Set.of(start));
        for (int i = 0; i < tape.length(); i++) {
            char sign = tape.charAt(i);
            Set<String> next = new HashSet<>();
            for (String row : rows) {
                boolean glued = row.startsWith("~");
                if (sign == ' ' && !glued) {
                    next.add(row);
                }
                String word = row.split(" ")[0];
                if (sign != ' ' && word.length() > 1 && word.indexOf(sign, 1) > 0) {
                    next.add(row.substring(word.length()).trim());
                }
            }
            rows = grown(next);
            if (rows.isEmpty()) {
                return i;
            }
        }
        return rows.contains("") ? NONE : tape.length();
    }

    private static Set<String> grown(Set<String> rows) {
        Set<String> done = new HashSet<>();
        List<String> left = new ArrayList<>(rows);
        while (!left.isEmpty()) {
            String row = left.remove(left.size() - 1);
            if (row.isEmpty() || row.charAt(0) == '\'' || row.charAt(0) == '~') {
                done.add(row);
                continue;
            }
            String word = row.split(" ")[0];
            String rest = row.substring(word.length()).trim();
            String name = word.replaceAll("\\d", "");
            for (String form : forms(name, Integer.parseInt(word.substring(name.length())))) {
                left.add((form + " " + rest).trim());
            }
        }
        return done;
    }

    private static String[] forms(String name, int n) {
        switch (name) {
            case "LAW":
                return new String[] {"CLAUSE0 LAWS0"};
            case "LAWS":
                return new String[] {"", "'; CLAUSE0 LAWS0"};
            case "CLAUSE":
                return new String[] {"'y ': SUM0", "'y ': CONDITION0 '? SUM0"};
            case "CONDITION":
                return new String[] {"TRUTH" + n, "TRUTH" + n + " '| CONDITION" + n};
            case "TRUTH":
                return new String[] {"UNIT" + n, "UNIT" + n + " '& TRUTH" + n};
            case "UNIT":
                String compared = "SUM" + n + " '=<> SUM" + n;
                return n == 6 ? new String[] {compared}
                        : new String[] {compared, "'! UNIT" + (n + 1), "'( CONDITION" + (n + 1) + " ')"};
            case "SUM":
                return new String[] {"TERM" + n, "TERM" + n + " '+- SUM" + n};
            case "TERM":
                return new String[] {"ATOM" + n, "ATOM" + n + " '*/ TERM" + n};
            case "ATOM":
                String number = "'0123456789 DIGITS3";
                return n == 6 ? new String[] {number, "'pmwhnd"}
                        : new String[] {number, "'pmwhnd", "'[ SUM" + (n + 1) + " ']"};
            case "DIGITS":
                return n == 0 ? new String[] {""} : new String[] {"", "~0123456789 DIGITS" + (n - 1)};
            case "PLAN":
                return n == 15 ? new String[] {"STEP0"} : new String[] {"STEP0", "STEP0 '; PLAN" + (n + 1)};
            default:
                String digit = " '0123456789";
                return new String[] {"'s" + digit + " '01" + digit + digit, "'h" + digit, "'w" + digit + " '01", "'n" + digit + digit};
        }
    }

    int text(int sort) {
        if (sort < 0 || sort > 2 || fault(sort) != NONE || sort == 1 && laws.size() == 4 || sort == 2 && plans.size() == 4) {
            return NONE;
        }
        int answer;
        if (sort == 0) {
            begin();
            answer = forts.size();
        } else if (sort == 1) {
            laws.add(tape.replace(" ", ""));
            answer = laws.size() - 1;
        } else {
            plans.add(tape.replace(" ", "").split(";"));
            answer = plans.size() - 1;
        }
        tape = "";
        return answer;
    }

    private void begin() {
        List<int[]> clauses = new ArrayList<>();
        leagueFault(clauses);
        forts = new ArrayList<>();
        carriers = new ArrayList<>();
        rules = USUAL[0];
        world = new World();
        for (int[] c : clauses) {
            int[] items = java.util.Arrays.copyOfRange(c, 1, c.length);
            if (c[0] == 0) {
                rules = items;
            } else if (c[0] == 1) {
                forts.add(items);
                world.hay.add(items[2]);
                world.news.add(new TreeSet<>());
            } else {
                carriers.add(items);
                world.at.add(items[2]);
                world.hurt.add(0);
                world.late.add(0);
            }
        }
        world.wind = rules[0];
        world.windWay = rules[1];
        world.powder = rules[2];
        image = null;
        acts.clear();
        sights.clear();
        faces.clear();
    }

    // ---- laws

    /** Reads a law's text again each time, one sign after the other. */
    private static final class Reckoner {
        private final String text;
        private final Map<Character, Integer> letters;
        private int i;

        Reckoner(String text, Map<Character, Integer> letters) {
            this.text = text;
            this.letters = letters;
        }

        private char sign() {
            return i < text.length() ? text.charAt(i) : 0;
        }

        private static long held(long v) {
            return v > 1000000 ? 1000000 : v < -1000000 ? -1000000 : v;
        }

        long sum() {
            long v = term();
            while (sign() == '+' || sign() == '-') {
                boolean plus = sign() == '+';
                i++;
                long w = term();
                v = held(plus ? v + w : v - w);
            }
            return v;
        }

        private long term() {
            long v = atom();
            while (sign() == '*' || sign() == '/') {
                boolean times = sign() == '*';
                i++;
                long w = atom();
                v = held(times ? v * w : w == 0 ? 0 : v / w);
            }
            return v;
        }

        private long atom() {
            char c = sign();
            i++;
            if (c == '[') {
                long v = sum();
                i++;
                return v;
            }
            if (letters.containsKey(c)) {
                return letters.get(c);
            }
            long v = c - '0';
            while (Character.isDigit(sign())) {
                v = v * 10 + sign() - '0';
                i++;
            }
            return v;
        }

        boolean condition() {
            boolean v = truth();
            while (sign() == '|') {
                i++;
                v = truth() || v;
            }
            return v;
        }

        private boolean truth() {
            boolean v = unit();
            while (sign() == '&') {
                i++;
                v = unit() && v;
            }
            return v;
        }

        private boolean unit() {
            if (sign() == '!') {
                i++;
                return !unit();
            }
            if (sign() == '(') {
                i++;
                boolean v = condition();
                i++;
                return v;
            }
            long v = sum();
            char c = sign();
            i++;
            long w = sum();
            return c == '=' ? v == w : c == '<' ? v < w : v > w;
        }
    }

    private long worth(String law, Map<Character, Integer> letters) {
        for (String clause : law.split(";")) {
            String[] halves = clause.substring(2).split("\\?");
            if (halves.length == 1 || new Reckoner(halves[0], letters).condition()) {
                return new Reckoner(halves[halves.length - 1], letters).sum();
            }
        }
        return 0;
    }

    private int comes(int[] carrier, int[] fort, int powder, int way, int[] weather) {
        int along = weather[1] == way ? weather[0] : 0 - weather[0];
        long reach;
        if (holds == NONE) {
            reach = 6 * powder / carrier[0] + fort[1] + along - weather[2];
        } else {
            Map<Character, Integer> letters = new HashMap<>();
            letters.put('p', powder);
            letters.put('m', carrier[0]);
            letters.put('w', along);
            letters.put('h', fort[1]);
            letters.put('n', carrier[1]);
            letters.put('d', weather[2]);
            reach = worth(laws.get(holds), letters);
        }
        reach = reach < 0 ? 0 : reach > 60 ? 60 : reach;
        return (int) (way == 0 ? fort[0] + reach : fort[0] - reach);
    }

    private int landing(int place) {
        for (int off = 0; off <= 1; off++) {
            for (int f = 0; f < forts.size(); f++) {
                if (Math.abs(forts.get(f)[0] - place) == off) {
                    return f;
                }
            }
        }
        return NONE;
    }

    private int[] weather(World w) {
        return new int[] {w.wind, w.windWay, w.damp};
    }

    private int landsIn(World w, int c, int f, int powder, int way) {
        return landing(comes(carriers.get(c), forts.get(f), powder, way, weather(w)));
    }

    // ---- what there is

    private boolean told() {
        return !forts.isEmpty();
    }

    private static boolean in(int v, int least, int most) {
        return least <= v && v <= most;
    }

    private boolean fortIs(int f) {
        return in(f, 0, forts.size() - 1);
    }

    private boolean carrierIs(int c) {
        return in(c, 0, carriers.size() - 1);
    }

    int rule(int what) {
        if (!told() || !in(what, 0, 4)) {
            return NONE;
        }
        return new int[] {world.wind, world.windWay, world.powder, rules[3], world.damp}[what];
    }

    int fort(int f, int what) {
        if (!fortIs(f) || !in(what, 0, 3)) {
            return NONE;
        }
        return new int[] {forts.get(f)[0], forts.get(f)[1], world.hay.get(f), bits(world.news.get(f))}[what];
    }

    private static int bits(Iterable<Integer> set) {
        int bits = 0;
        for (int i : set) {
            bits += 1 << i;
        }
        return bits;
    }

    int carrier(int c, int what) {
        if (!carrierIs(c) || !in(what, 0, 4)) {
            throw new NoSuchElementException();
        }
        return new int[] {carriers.get(c)[0], carriers.get(c)[1], world.at.get(c), world.hurt.get(c), world.late.get(c)}[what];
    }

    boolean law(int law) {
        if (!in(law, -1, laws.size() - 1)) {
            return false;
        }
        holds = law;
        return true;
    }

    boolean damps(int v) {
        if (!in(v, 0, 9) || v == damps) {
            return false;
        }
        damps = v;
        return true;
    }

    int count(int what) {
        if (!in(what, 0, 13)) {
            return HIDDEN;
        }
        int hay = world.hay.stream().mapToInt(n -> n).sum();
        int hurt = world.hurt.stream().mapToInt(n -> n).sum();
        return new int[] {forts.size(), carriers.size(), laws.size(), plans.size(), tape.length(), holds, world.hour, hay, hurt,
            damps, sights.size(), faces.size(), world.log.size(), acts.size()}[what];
    }

    // ---- acts

    private void act() {
        acts.add(world.copy());
        if (acts.size() > 40) {
            acts.remove(0);
        }
    }

    private boolean canBeShot(World w, int c, int powder) {
        return carrierIs(c) && w.late.get(c) == 0 && in(powder, 1, 20) && powder <= w.powder;
    }

    private TreeSet<Integer> allSaid(World w, int c) {
        TreeSet<Integer> said = new TreeSet<>();
        for (int n : w.news.get(w.at.get(c))) {
            if (said.size() < rules[3]) {
                said.add(n);
            }
        }
        return said;
    }

    private int shot(World w, int c, int powder, int way, Set<Integer> news) {
        int from = w.at.get(c);
        int to = landsIn(w, c, from, powder, way);
        w.powder -= powder;
        if (to == NONE) {
            w.late.set(c, 2);
        } else {
            if (w.hay.get(to) > 0) {
                w.hay.set(to, w.hay.get(to) - 1);
            } else if (w.hurt.get(c) < 99) {
                w.hurt.set(c, w.hurt.get(c) + 1);
            }
            w.at.set(c, to);
            w.news.get(to).addAll(news);
        }
        w.log.add(0, new int[] {c, from, to, powder});
        if (w.log.size() > 60) {
            w.log.remove(60);
        }
        return to;
    }

    int shoot(int c, int powder, int way, int news) {
        if (!canBeShot(world, c, powder) || !in(way, 0, 1) || !in(news, 0, 63)) {
            return NONE;
        }
        TreeSet<Integer> said = new TreeSet<>();
        for (int n = 0; n < 6; n++) {
            if ((news & 1 << n) != 0) {
                said.add(n);
            }
        }
        if (!world.news.get(world.at.get(c)).containsAll(said) || said.size() > rules[3]) {
            return NONE;
        }
        act();
        int to = shot(world, c, powder, way, said);
        return to == NONE ? -2 : to;
    }

    private boolean canHear(World w, int f, int n) {
        return fortIs(f) && in(n, 0, 5) && !w.news.get(f).contains(n);
    }

    boolean hear(int f, int n) {
        if (!canHear(world, f, n)) {
            return false;
        }
        act();
        return world.news.get(f).add(n);
    }

    int stack(int f, int n) {
        if (!fortIs(f) || !in(n, 1, 9) || world.hay.get(f) + n > 9) {
            return NONE;
        }
        act();
        world.hay.set(f, world.hay.get(f) + n);
        return world.hay.get(f);
    }

    int grind(int n) {
        if (!told() || !in(n, 1, 50) || world.powder + n > 99) {
            return NONE;
        }
        act();
        world.powder += n;
        return world.powder;
    }

    boolean wind(int v, int way) {
        if (!told() || !in(v, 0, 9) || !in(way, 0, 1) || v == world.wind && way == world.windWay) {
            return false;
        }
        act();
        world.wind = v;
        world.windWay = way;
        return true;
    }

    boolean damp(int v) {
        if (!told() || !in(v, 0, 9) || v == world.damp) {
            return false;
        }
        act();
        world.damp = v;
        return true;
    }

    int hours(int n) {
        if (!told() || !in(n, 1, 60) || world.hour + n > 9999) {
            return NONE;
        }
        for (int i = 0; i < n; i++) {
            act();
            world.anHour();
        }
        return world.hour;
    }

    private long x;

    private int draw(int of) {
        x = x * 6364136223846793005L + 1442695040888963407L;
        return (int) ((x >>> 33) % of);
    }

    int decades(int n, long seed) {
        if (!told() || !in(n, 1, 60) || world.hour + n > 9999) {
            return NONE;
        }
        x = seed;
        for (int i = 0; i < n; i++) {
            act();
            if (draw(10) < damps) {
                world.damp = draw(10);
            }
            int c = draw(carriers.size());
            int way = draw(2);
            int powder = draw(20) + 1;
            if (canBeShot(world, c, powder)) {
                shot(world, c, powder, way, allSaid(world, c));
            }
            world.anHour();
        }
        return world.hour;
    }

    int undo() {
        if (acts.isEmpty()) {
            return NONE;
        }
        world = acts.remove(acts.size() - 1);
        return acts.size();
    }

    int log(int i, int what) {
        return in(i, 0, world.log.size() - 1) && in(what, 0, 3) ? world.log.get(i)[what] : HIDDEN;
    }

    int image() {
        if (!told()) {
            return NONE;
        }
        image = world.copy();
        return world.hour;
    }

    int back() {
        if (image == null) {
            return NONE;
        }
        world = image.copy();
        acts.clear();
        return world.hour;
    }

    // ---- plans

    int step(int plan, int i, int what) {
        if (!in(plan, 0, plans.size() - 1) || !in(i, 0, plans.get(plan).length - 1) || !in(what, 0, 3)) {
            return HIDDEN;
        }
        String step = plans.get(plan)[i];
        switch (what) {
            case 0:
                return "shwn".indexOf(step.charAt(0));
            case 1:
                return step.charAt(1) - '0';
            case 2:
                return step.length() > 2 ? step.charAt(2) - '0' : NONE;
            default:
                return step.length() > 3 ? Integer.parseInt(step.substring(3)) : NONE;
        }
    }

    int run(int plan, int what) {
        if (!told() || !in(plan, 0, plans.size() - 1) || !in(what, 0, 1)) {
            return HIDDEN;
        }
        World apart = world.copy();
        int done = follow(apart, plan, false);
        if (what == 1) {
            return world.powder - apart.powder;
        }
        return done == plans.get(plan).length ? NONE : done;
    }

    int perform(int plan) {
        return told() && in(plan, 0, plans.size() - 1) ? follow(world, plan, true) : NONE;
    }

    private int follow(World w, int plan, boolean asActs) {
        int done = 0;
        for (String step : plans.get(plan)) {
            int a = step.charAt(1) - '0';
            int b = step.length() > 2 ? step.charAt(2) - '0' : 0;
            int powder = step.length() > 3 ? Integer.parseInt(step.substring(3)) : 0;
            char sort = step.charAt(0);
            boolean can = sort == 's' ? canBeShot(w, a, powder)
                    : sort == 'h' ? a > 0 && w.hour + a <= 9999
                    : sort == 'w' ? a != w.wind || b != w.windWay : canHear(w, a, b);
            if (!can) {
                return done;
            }
            for (int i = 0; i < (sort == 'h' ? a : 1); i++) {
                if (asActs) {
                    act();
                }
                if (sort == 's') {
                    shot(w, a, powder, b, allSaid(w, a));
                } else if (sort == 'h') {
                    w.anHour();
                } else if (sort == 'w') {
                    w.wind = a;
                    w.windWay = b;
                } else {
                    w.news.get(a).add(b);
                }
            }
            done++;
        }
        return done;
    }

    // ---- where one comes

    private boolean shotIs(int c, int f, int powder, int way) {
        return carrierIs(c) && fortIs(f) && in(powder, 1, 20) && in(way, 0, 1);
    }

    int lands(int c, int f, int powder, int way, int what) {
        if (!shotIs(c, f, powder, way) || !in(what, 0, 1)) {
            return HIDDEN;
        }
        int place = comes(carriers.get(c), forts.get(f), powder, way, weather(world));
        return what == 1 ? place : landing(place);
    }

    int aim(int c, int f, int other) {
        if (!carrierIs(c) || !fortIs(f) || !fortIs(other) || f == other) {
            return NONE;
        }
        int way = forts.get(other)[0] > forts.get(f)[0] ? 0 : 1;
        for (int p = 1; p <= 20; p++) {
            if (landsIn(world, c, f, p, way) == other) {
                return p;
            }
        }
        return NONE;
    }

    private int[][] aims(int c) {
        int[][] table = new int[forts.size()][forts.size()];
        for (int f = 0; f < forts.size(); f++) {
            for (int g = 0; g < forts.size(); g++) {
                table[f][g] = aim(c, f, g);
            }
        }
        return table;
    }

    /** {shots, powder, row}: of all rows of so many shots, tried one after the other; null without. */
    private int[] bestRoute(int c, int f, int other) {
        if (f == other) {
            return new int[] {0, 0, 0};
        }
        int[][] aims = aims(c);
        for (int shots = 1; shots < forts.size(); shots++) {
            int[] best = bestOf(aims, f, other, shots, 1 << f);
            if (best != null) {
                return new int[] {shots, best[0], best[1]};
            }
        }
        return null;
    }

    private int[] bestOf(int[][] aims, int f, int other, int shots, int been) {
        int[] best = null;
        int above = 1;
        for (int i = 1; i < shots; i++) {
            above *= 10;
        }
        for (int g = 0; g < forts.size(); g++) {
            if ((been & 1 << g) != 0 || aims[f][g] == NONE || (shots == 1) != (g == other)) {
                continue;
            }
            int[] rest = shots == 1 ? new int[] {0, 0} : bestOf(aims, g, other, shots - 1, been | 1 << g);
            if (rest != null) {
                int[] all = {aims[f][g] + rest[0], above * g + rest[1]};
                if (best == null || all[0] < best[0] || all[0] == best[0] && all[1] < best[1]) {
                    best = all;
                }
            }
        }
        return best;
    }

    int route(int c, int f, int other, int what) {
        if (!carrierIs(c) || !fortIs(f) || !fortIs(other) || !in(what, 0, 1)) {
            return NONE;
        }
        int[] best = bestRoute(c, f, other);
        return best == null ? NONE : best[2 - what];
    }

    int relay(int news, int f, int what) {
        if (!in(news, 0, 5) || !fortIs(f) || !in(what, 0, 1)) {
            return NONE;
        }
        int knowing = known(news);
        if ((knowing & 1 << f) != 0) {
            return 0;
        }
        List<int[][]> aims = new ArrayList<>();
        for (int c = 0; c < carriers.size(); c++) {
            aims.add(aims(c));
        }
        // where all are and who knows it, with the least first shot that leads there
        Map<List<Integer>, Integer> reached = new HashMap<>();
        List<Integer> start = new ArrayList<>(world.at);
        start.add(knowing);
        reached.put(start, NONE);
        for (int shots = 1; shots <= 3; shots++) {
            Map<List<Integer>, Integer> next = new HashMap<>();
            int least = Integer.MAX_VALUE;
            for (Map.Entry<List<Integer>, Integer> one : reached.entrySet()) {
                for (int shot = 0; shot < 10 * carriers.size(); shot++) {
                    int c = shot / 10;
                    int to = shot % 10;
                    List<Integer> then = new ArrayList<>(one.getKey());
                    int from = then.get(c);
                    if (to >= forts.size() || world.late.get(c) > 0 || aims.get(c)[from][to] == NONE) {
                        continue;
                    }
                    int knows = then.get(carriers.size());
                    then.set(c, to);
                    then.set(carriers.size(), (knows & 1 << from) != 0 ? knows | 1 << to : knows);
                    int first = shots == 1 ? shot : one.getValue();
                    next.merge(then, first, Math::min);
                    if ((then.get(carriers.size()) & 1 << f) != 0) {
                        least = Math.min(least, first);
                    }
                }
            }
            if (least < Integer.MAX_VALUE) {
                return what == 0 ? shots : least;
            }
            reached = next;
        }
        return NONE;
    }

    int sure(int c, int f, int other) {
        int[] best = carrierIs(c) && fortIs(f) && fortIs(other) ? bestRoute(c, f, other) : null;
        if (best == null) {
            return NONE;
        }
        long parts = 1000000000;
        for (int i = 0; i < best[0]; i++) {
            parts = parts * (carriers.get(c)[1] + 1) / 10;
        }
        return (int) parts;
    }

    int surest(int f, int other) {
        int best = NONE;
        for (int c = carriers.size() - 1; c >= 0; c--) {
            int parts = sure(c, f, other);
            if (parts != NONE && (best == NONE || parts >= sure(best, f, other))) {
                best = c;
            }
        }
        return best;
    }

    private Set<Integer> come(int f, int without) {
        Set<Integer> there = new TreeSet<>(Set.of(f));
        List<int[][]> aims = new ArrayList<>();
        for (int c = 0; c < carriers.size(); c++) {
            aims.add(aims(c));
        }
        boolean more = true;
        while (more) {
            more = false;
            for (int from : new ArrayList<>(there)) {
                for (int to = 0; to < forts.size(); to++) {
                    for (int[][] table : aims) {
                        if (to != without && table[from][to] != NONE) {
                            more |= there.add(to);
                        }
                    }
                }
            }
        }
        return there;
    }

    int cuts() {
        if (!told()) {
            return NONE;
        }
        Set<Integer> cut = new TreeSet<>();
        for (int f = 1; f < forts.size(); f++) {
            Set<Integer> lost = new TreeSet<>(come(0, NONE));
            lost.removeAll(come(0, f));
            lost.remove(f);
            if (!lost.isEmpty()) {
                cut.add(f);
            }
        }
        return bits(cut);
    }

    int net(int f) {
        return fortIs(f) ? bits(come(f, NONE)) : NONE;
    }

    int gusts(int c, int f, int powder, int way, int chance) {
        if (!shotIs(c, f, powder, way) || !in(chance, 0, 100)) {
            return NONE;
        }
        int[] calm = weather(world);
        int[] gust = {calm[0] + 3, calm[1], calm[2]};
        int of = 0;
        if (landing(comes(carriers.get(c), forts.get(f), powder, way, calm)) != NONE) {
            of += 100 - chance;
        }
        if (landing(comes(carriers.get(c), forts.get(f), powder, way, gust)) != NONE) {
            of += chance;
        }
        return of;
    }

    int passing(int one, int other) {
        if (!carrierIs(one) || !carrierIs(other) || one == other || world.late.get(one) > 0 || world.late.get(other) > 0) {
            return NONE;
        }
        int a = aim(one, world.at.get(one), world.at.get(other));
        int b = aim(other, world.at.get(other), world.at.get(one));
        if (a == NONE || b == NONE) {
            return NONE;
        }
        int more = Integer.compare(a + carriers.get(one)[0], b + carriers.get(other)[0]);
        return more == 0 ? 0 : more > 0 ? 1 : 2;
    }

    // ---- guesses

    int seen(int c, int f, int powder, int way, int place) {
        if (!shotIs(c, f, powder, way) || !in(place, -60, 100) || sights.size() == 10) {
            return NONE;
        }
        sights.add(new int[] {c, f, powder, way, place});
        return sights.size();
    }

    private List<int[]> fitting() {
        List<int[]> fit = new ArrayList<>();
        for (int code = 0; code < 20; code++) {
            int[] weather = {code % 10, code / 10, 0};
            boolean all = code != 10;
            for (int[] s : sights) {
                all = all && comes(carriers.get(s[0]), forts.get(s[1]), s[2], s[3], weather) == s[4];
            }
            if (all) {
                fit.add(weather);
            }
        }
        return fit;
    }

    int winds(int i) {
        if (!told()) {
            return NONE;
        }
        List<int[]> fit = fitting();
        if (i == NONE) {
            return fit.size();
        }
        return in(i, 0, fit.size() - 1) ? 10 * fit.get(i)[1] + fit.get(i)[0] : NONE;
    }

    int ask(int c, int f) {
        if (!carrierIs(c) || !fortIs(f) || fitting().isEmpty()) {
            return NONE;
        }
        List<int[]> fit = fitting();
        int best = NONE;
        int fewest = Integer.MAX_VALUE;
        for (int code = 0; code < 200; code++) {
            if (!in(code % 100, 1, 20)) {
                continue;
            }
            Map<Integer, Integer> places = new HashMap<>();
            for (int[] weather : fit) {
                places.merge(comes(carriers.get(c), forts.get(f), code % 100, code / 100, weather), 1, Integer::sum);
            }
            int most = places.values().stream().mapToInt(n -> n).max().getAsInt();
            if (most < fewest) {
                fewest = most;
                best = code;
            }
        }
        return best;
    }

    int face(int f, boolean lit) {
        if (!fortIs(f) || faces.size() == 12) {
            return NONE;
        }
        faces.add(new int[] {f, lit ? 1 : 0});
        return faces.size();
    }

    private long product(int f) {
        long product = 1;
        for (int[] face : faces) {
            int lit = face[0] == f ? 8 : 3;
            product *= face[1] == 1 ? lit : 10 - lit;
        }
        return product;
    }

    int meant(int f) {
        if (!fortIs(f)) {
            return NONE;
        }
        long all = 0;
        for (int g = 0; g < forts.size(); g++) {
            all += product(g);
        }
        return (int) (1000000 * product(f) / all);
    }

    int following() {
        int best = NONE;
        for (int f = 0; f < forts.size(); f++) {
            int fort = f;
            if (faces.stream().noneMatch(face -> face[0] == fort) && (best == NONE || meant(f) > meant(best))) {
                best = f;
            }
        }
        return best;
    }

    // ---- the game, stock, who is where

    private int has(int c, int p, boolean own, boolean others) {
        int has = own || others ? 6 : 0;
        has -= own ? p / 2 + carriers.get(c)[0] / 3 : 0;
        return own && others ? has - 2 : has;
    }

    private boolean gameIs(int one, int other, int p) {
        return carrierIs(one) && carrierIs(other) && one != other && in(p, 0, 20);
    }

    int game(int one, int other, int p, int x, int y, int what) {
        if (!gameIs(one, other, p) || !in(x, 0, 1) || !in(y, 0, 1) || !in(what, 0, 1)) {
            return HIDDEN;
        }
        return what == 0 ? has(one, p, x == 1, y == 1) : has(other, p, y == 1, x == 1);
    }

    int rests(int one, int other, int p, int i) {
        if (!gameIs(one, other, p)) {
            return NONE;
        }
        List<Integer> rests = new ArrayList<>();
        for (int xy : new int[] {0, 1, 10, 11}) {
            int a = xy / 10;
            int b = xy % 10;
            if (game(one, other, p, 1 - a, b, 0) <= game(one, other, p, a, b, 0)
                    && game(one, other, p, a, 1 - b, 1) <= game(one, other, p, a, b, 1)) {
                rests.add(xy);
            }
        }
        if (i == NONE) {
            return rests.size();
        }
        return in(i, 0, rests.size() - 1) ? rests.get(i) : NONE;
    }

    int stock(int p) {
        return told() && in(p, 1, 20) ? world.powder / p : NONE;
    }

    int hays(int n) {
        if (!told() || !in(n, 0, 9)) {
            return NONE;
        }
        World apart = world.copy();
        for (int t = 0; t <= 60; t++) {
            if (apart.hay.stream().allMatch(h -> h >= n)) {
                return t;
            }
            apart.anHour();
        }
        return NONE;
    }

    int best(int what, int place) {
        if (!told() || !in(what, 0, 1)) {
            return NONE;
        }
        int best = NONE;
        long least = Long.MAX_VALUE;
        for (int f = 0; f < forts.size(); f++) {
            long v = what == 0 ? -forts.get(f)[1] : Math.abs((long) place - forts.get(f)[0]);
            if (v < least) {
                least = v;
                best = f;
            }
        }
        return best;
    }

    int free() {
        int bits = 0;
        for (int c = 0; c < carriers.size(); c++) {
            bits += world.late.get(c) == 0 ? 1 << c : 0;
        }
        return told() ? bits : NONE;
    }

    int home(int f) {
        int bits = 0;
        for (int c = 0; c < carriers.size(); c++) {
            bits += world.at.get(c) == f && world.late.get(c) == 0 ? 1 << c : 0;
        }
        return fortIs(f) ? bits : NONE;
    }

    int known(int news) {
        int bits = 0;
        for (int f = 0; f < forts.size(); f++) {
            bits += world.news.get(f).contains(news) ? 1 << f : 0;
        }
        return told() && in(news, 0, 5) ? bits : NONE;
    }
}
