import java.util.Arrays;
import java.util.NoSuchElementException;

/**
 * The cannonball post: forts along a ridge, carriers who are shot from one to another, and the
 * news that they bring. README.md tells how it is used; DOC.md numbers what it promises.
 */
public final class CannonPost {
    public static final int NONE = -1;
    public static final int HIDDEN = -1000000;

    private static final int LAKE = -2;
    private static final int NO_SORT = -2;
    private static final int MOST_IN_A_SHOT = 20;
    private static final int MOST_POWDER = 99;
    private static final int MOST_GROUND = 50;
    private static final int MOST_HAY = 9;
    private static final int MOST_WIND = 9;
    private static final int MOST_DAMP = 9;
    private static final int MOST_HURT = 99;
    private static final int MOST_HOURS = 60;
    private static final int LAST_HOUR = 9999;
    private static final int HOURS_LATE = 2;
    private static final int HAY_EVERY = 4;
    private static final int NEWS_KINDS = 6;
    private static final int ALL_NEWS = 63;
    private static final int ALL_PARTS = 1000000000;
    private static final int GUST = 3;

    private final Tape tape;
    private final League league;
    private final LeagueReader leagueReader;
    private final LawReader lawReader;
    private final Lawbook laws;
    private final Planbook plans;
    private final Flight flight;
    private final Paths paths;
    private final Guesses guesses;
    private final History history;
    private final State now;
    private final State trial;
    private final State kept;
    private boolean keeps;
    private int dampChance;

    public CannonPost() {
        tape = new Tape();
        league = new League();
        leagueReader = new LeagueReader(tape);
        lawReader = new LawReader(tape);
        laws = new Lawbook();
        plans = new Planbook(tape);
        flight = new Flight(league, laws);
        paths = new Paths(league, flight);
        guesses = new Guesses(league, flight);
        history = new History();
        now = new State();
        trial = new State();
        kept = new State();
    }

    // ---- texts

    public int feed(int a, int b, int c, int d, int e) {
        int more = Tape.bytesIn(a) + Tape.bytesIn(b) + Tape.bytesIn(c) + Tape.bytesIn(d) + Tape.bytesIn(e);
        if (tape.length + more > Tape.ROOM) {
            return NONE;
        }
        tape.put(a);
        tape.put(b);
        tape.put(c);
        tape.put(d);
        tape.put(e);
        return tape.length;
    }

    public boolean end(int n) {
        if (n < 0 || n > tape.length) {
            return false;
        }
        tape.length = n;
        return true;
    }

    public int fault(int sort) {
        switch (sort) {
            case 0:
                return leagueReader.readTape();
            case 1:
                return lawReader.readTape();
            case 2:
                return plans.readTape();
            default:
                return NO_SORT;
        }
    }

    public int text(int sort) {
        if (sort == 0 && leagueReader.readTape() == NONE) {
            beginLeague();
            return league.fortCount;
        }
        if (sort == 1 && laws.hasRoom() && lawReader.readTape() == NONE) {
            tape.length = 0;
            return laws.add(lawReader.code, lawReader.size);
        }
        if (sort == 2 && plans.hasRoom() && plans.readTape() == NONE) {
            tape.length = 0;
            return plans.add();
        }
        return NONE;
    }

    private void beginLeague() {
        tape.length = 0;
        league.copyFrom(leagueReader.draft);
        now.begin(league);
        history.forget();
        guesses.forget();
        flight.forget();
        keeps = false;
    }

    // ---- what there is

    public int rule(int what) {
        if (!league.isTold()) {
            return NONE;
        }
        switch (what) {
            case 0:
                return now.cells[State.WIND];
            case 1:
                return now.cells[State.WIND_WAY];
            case 2:
                return now.cells[State.POWDER];
            case 3:
                return league.breath();
            case 4:
                return now.cells[State.DAMP];
            default:
                return NONE;
        }
    }

    public int fort(int fort, int what) {
        if (!league.hasFort(fort)) {
            return NONE;
        }
        switch (what) {
            case 0:
                return league.place(fort);
            case 1:
                return league.height(fort);
            case 2:
                return now.cells[State.HAY + fort];
            case 3:
                return now.cells[State.NEWS + fort];
            default:
                return NONE;
        }
    }

    public int carrier(int carrier, int what) throws NoSuchElementException {
        if (!league.hasCarrier(carrier)) {
            throw new NoSuchElementException("no such carrier");
        }
        switch (what) {
            case 0:
                return league.weight(carrier);
            case 1:
                return league.nerve(carrier);
            case 2:
                return now.cells[State.AT + carrier];
            case 3:
                return now.cells[State.HURT + carrier];
            case 4:
                return now.cells[State.LATE + carrier];
            default:
                throw new NoSuchElementException("no such thing of a carrier");
        }
    }

    public boolean law(int law) {
        if (law < NONE || law >= laws.count) {
            return false;
        }
        laws.holding = law;
        return true;
    }

    public boolean damps(int v) {
        if (v < 0 || v > MOST_DAMP || v == dampChance) {
            return false;
        }
        dampChance = v;
        return true;
    }

    public int count(int what) {
        switch (what) {
            case 0:
                return league.fortCount;
            case 1:
                return league.carrierCount;
            case 2:
                return laws.count;
            case 3:
                return plans.count;
            case 4:
                return tape.length;
            case 5:
                return laws.holding;
            case 6:
                return now.cells[State.HOUR];
            case 7:
                return now.sumOf(State.HAY, league.fortCount);
            case 8:
                return now.sumOf(State.HURT, league.carrierCount);
            case 9:
                return dampChance;
            case 10:
                return guesses.sightCount;
            case 11:
                return guesses.faceCount;
            case 12:
                return now.logLength();
            case 13:
                return history.count;
            default:
                return HIDDEN;
        }
    }

    // ---- by hand

    public int shoot(int carrier, int powder, int way, int news) {
        if (!canFire(now, carrier, powder) || !isWay(way) || !canSay(carrier, news)) {
            return NONE;
        }
        history.keep(now);
        int landed = fire(now, carrier, powder, way, news);
        return landed == NONE ? LAKE : landed;
    }

    public boolean hear(int fort, int news) {
        if (!canHear(now, fort, news)) {
            return false;
        }
        history.keep(now);
        now.cells[State.NEWS + fort] |= 1 << news;
        return true;
    }

    public int stack(int fort, int n) {
        if (!league.hasFort(fort) || n < 1 || n > MOST_HAY || now.cells[State.HAY + fort] + n > MOST_HAY) {
            return NONE;
        }
        history.keep(now);
        now.cells[State.HAY + fort] += n;
        return now.cells[State.HAY + fort];
    }

    public int grind(int n) {
        if (!league.isTold() || n < 1 || n > MOST_GROUND || now.cells[State.POWDER] + n > MOST_POWDER) {
            return NONE;
        }
        history.keep(now);
        now.cells[State.POWDER] += n;
        return now.cells[State.POWDER];
    }

    public boolean wind(int v, int way) {
        if (!league.isTold() || v < 0 || v > MOST_WIND || !isWay(way) || now.blows(v, way)) {
            return false;
        }
        history.keep(now);
        now.cells[State.WIND] = v;
        now.cells[State.WIND_WAY] = way;
        return true;
    }

    public boolean damp(int v) {
        if (!league.isTold() || v < 0 || v > MOST_DAMP || v == now.cells[State.DAMP]) {
            return false;
        }
        history.keep(now);
        now.cells[State.DAMP] = v;
        return true;
    }

    public int hours(int n) {
        if (!hoursFit(n)) {
            return NONE;
        }
        for (int i = 0; i < n; i++) {
            history.keep(now);
            now.passHour(league.fortCount);
        }
        return now.cells[State.HOUR];
    }

    public int decades(int n, long seed) {
        if (!hoursFit(n)) {
            return NONE;
        }
        long x = seed;
        for (int i = 0; i < n; i++) {
            history.keep(now);
            x = drawAheadOfHour(x);
            now.passHour(league.fortCount);
        }
        return now.cells[State.HOUR];
    }

    public int undo() {
        return history.takeBack(now) ? history.count : NONE;
    }

    public int log(int i, int what) {
        if (i < 0 || i >= now.logLength() || what < 0 || what >= State.LOG_PARTS) {
            return HIDDEN;
        }
        return now.logged(i, what);
    }

    public int image() {
        if (!league.isTold()) {
            return NONE;
        }
        kept.copyFrom(now);
        keeps = true;
        return now.cells[State.HOUR];
    }

    public int back() {
        if (!keeps) {
            return NONE;
        }
        now.copyFrom(kept);
        history.forget();
        return now.cells[State.HOUR];
    }

    private boolean canFire(State s, int carrier, int powder) {
        return league.hasCarrier(carrier) && s.cells[State.LATE + carrier] == 0
                && isPowder(powder) && powder <= s.cells[State.POWDER];
    }

    private boolean canSay(int carrier, int news) {
        int known = now.cells[State.NEWS + now.cells[State.AT + carrier]];
        return news >= 0 && news <= ALL_NEWS && (news & ~known) == 0 && Integer.bitCount(news) <= league.breath();
    }

    private boolean canHear(State s, int fort, int news) {
        return league.hasFort(fort) && isNews(news) && (s.cells[State.NEWS + fort] >> news & 1) == 0;
    }

    private boolean hoursFit(int n) {
        return league.isTold() && n >= 1 && n <= MOST_HOURS && now.cells[State.HOUR] + n <= LAST_HOUR;
    }

    private int fire(State s, int carrier, int powder, int way, int news) {
        int from = s.cells[State.AT + carrier];
        int landed = league.fortNear(flight.comesTo(s, carrier, from, powder, way));
        s.cells[State.POWDER] -= powder;
        if (landed == NONE) {
            s.cells[State.LATE + carrier] = HOURS_LATE;
        } else {
            s.land(carrier, landed, news);
        }
        s.noteShot(carrier, from, landed, powder);
        return landed;
    }

    private int allSayable(State s, int carrier) {
        int known = s.cells[State.NEWS + s.cells[State.AT + carrier]];
        int said = 0;
        for (int i = 0; i < NEWS_KINDS; i++) {
            if ((known >> i & 1) != 0 && Integer.bitCount(said) < league.breath()) {
                said |= 1 << i;
            }
        }
        return said;
    }

    private long drawAheadOfHour(long seed) {
        long x = turned(seed);
        if (drawn(x, 10) < dampChance) {
            x = turned(x);
            now.cells[State.DAMP] = drawn(x, 10);
        }
        x = turned(x);
        int carrier = drawn(x, league.carrierCount);
        x = turned(x);
        int way = drawn(x, 2);
        x = turned(x);
        int powder = drawn(x, MOST_IN_A_SHOT) + 1;
        if (canFire(now, carrier, powder)) {
            fire(now, carrier, powder, way, allSayable(now, carrier));
        }
        return x;
    }

    private static long turned(long x) {
        return x * 6364136223846793005L + 1442695040888963407L;
    }

    private static int drawn(long x, int of) {
        return of < 1 ? 0 : (int) ((x >>> 33) % of);
    }

    // ---- plans

    public int step(int plan, int i, int what) {
        if (!plans.has(plan) || i < 0 || i >= plans.sizes[plan] || what < 0 || what >= Planbook.PARTS) {
            return HIDDEN;
        }
        return plans.part(plan, i, what);
    }

    public int run(int plan, int what) {
        if (!league.isTold() || !plans.has(plan) || what < 0 || what > 1) {
            return HIDDEN;
        }
        trial.copyFrom(now);
        int done = follow(trial, plan, false);
        if (what == 1) {
            return now.cells[State.POWDER] - trial.cells[State.POWDER];
        }
        return done == plans.sizes[plan] ? NONE : done;
    }

    public int perform(int plan) {
        if (!league.isTold() || !plans.has(plan)) {
            return NONE;
        }
        return follow(now, plan, true);
    }

    private int follow(State s, int plan, boolean asActs) {
        for (int i = 0; i < plans.sizes[plan]; i++) {
            if (!canStep(s, plan, i)) {
                return i;
            }
            int acts = plans.part(plan, i, 0) == Planbook.HOURS ? plans.part(plan, i, 1) : 1;
            for (int k = 0; k < acts; k++) {
                if (asActs) {
                    history.keep(s);
                }
                stepOnce(s, plan, i);
            }
        }
        return plans.sizes[plan];
    }

    private boolean canStep(State s, int plan, int i) {
        int first = plans.part(plan, i, 1);
        int second = plans.part(plan, i, 2);
        switch (plans.part(plan, i, 0)) {
            case Planbook.SHOT:
                return canFire(s, first, plans.part(plan, i, 3));
            case Planbook.HOURS:
                return first > 0 && s.cells[State.HOUR] + first <= LAST_HOUR;
            case Planbook.WIND:
                return !s.blows(first, second);
            default:
                return canHear(s, first, second);
        }
    }

    private void stepOnce(State s, int plan, int i) {
        int first = plans.part(plan, i, 1);
        int second = plans.part(plan, i, 2);
        switch (plans.part(plan, i, 0)) {
            case Planbook.SHOT:
                fire(s, first, plans.part(plan, i, 3), second, allSayable(s, first));
                break;
            case Planbook.HOURS:
                s.passHour(league.fortCount);
                break;
            case Planbook.WIND:
                s.cells[State.WIND] = first;
                s.cells[State.WIND_WAY] = second;
                break;
            default:
                s.cells[State.NEWS + first] |= 1 << second;
                break;
        }
    }

    // ---- where one comes, and how

    public int lands(int carrier, int fort, int powder, int way, int what) {
        if (!isShot(carrier, fort, powder, way) || what < 0 || what > 1) {
            return HIDDEN;
        }
        int place = flight.comesTo(now, carrier, fort, powder, way);
        return what == 1 ? place : league.fortNear(place);
    }

    public int aim(int carrier, int fort, int other) {
        if (!isPassage(carrier, fort, other)) {
            return NONE;
        }
        return flight.leastPowder(now, carrier, fort, other);
    }

    public int route(int carrier, int fort, int other, int what) {
        if (!isPassage(carrier, fort, other) || what < 0 || what > 1) {
            return NONE;
        }
        paths.trace(now, carrier, fort);
        if (paths.hops[other] == NONE) {
            return NONE;
        }
        return what == 1 ? paths.costs[other] : paths.rows[other];
    }

    public int relay(int news, int fort, int what) {
        if (!isNews(news) || !league.hasFort(fort) || what < 0 || what > 1) {
            return NONE;
        }
        int best = paths.bestRelay(now, now.fortsKnowing(news, league.fortCount), fort);
        if (best == NONE) {
            return NONE;
        }
        return what == 1 ? best % Paths.RELAY_SHOT : best / Paths.RELAY_SHOT;
    }

    public int sure(int carrier, int fort, int other) {
        return isPassage(carrier, fort, other) ? partsRight(carrier, fort, other) : NONE;
    }

    public int surest(int fort, int other) {
        if (!league.hasFort(fort) || !league.hasFort(other)) {
            return NONE;
        }
        int best = NONE;
        int most = NONE;
        for (int c = 0; c < league.carrierCount; c++) {
            int parts = partsRight(c, fort, other);
            if (parts > most) {
                most = parts;
                best = c;
            }
        }
        return best;
    }

    private int partsRight(int carrier, int fort, int other) {
        paths.trace(now, carrier, fort);
        if (paths.hops[other] == NONE) {
            return NONE;
        }
        long parts = ALL_PARTS;
        for (int i = 0; i < paths.hops[other]; i++) {
            parts = parts * (league.nerve(carrier) + 1) / 10;
        }
        return (int) parts;
    }

    public int cuts() {
        if (!league.isTold()) {
            return NONE;
        }
        paths.link(now);
        int whole = paths.netFrom(0, NONE);
        int cut = 0;
        for (int f = 1; f < league.fortCount; f++) {
            if ((whole & ~paths.netFrom(0, f) & ~(1 << f)) != 0) {
                cut |= 1 << f;
            }
        }
        return cut;
    }

    public int net(int fort) {
        if (!league.hasFort(fort)) {
            return NONE;
        }
        paths.link(now);
        return paths.netFrom(fort, NONE);
    }

    public int gusts(int carrier, int fort, int powder, int way, int chance) {
        if (!isShot(carrier, fort, powder, way) || chance < 0 || chance > 100) {
            return NONE;
        }
        int calm = landsWithMore(0, carrier, fort, powder, way) ? 100 - chance : 0;
        int blown = landsWithMore(GUST, carrier, fort, powder, way) ? chance : 0;
        return calm + blown;
    }

    private boolean landsWithMore(int more, int carrier, int fort, int powder, int way) {
        int along = Flight.along(now.cells[State.WIND] + more, now.cells[State.WIND_WAY], way);
        int reach = flight.reach(carrier, fort, powder, along, now.cells[State.DAMP]);
        return league.fortNear(Flight.comeTo(league.place(fort), reach, way)) != NONE;
    }

    public int passing(int one, int other) {
        if (!isPair(one, other) || now.cells[State.LATE + one] != 0 || now.cells[State.LATE + other] != 0) {
            return NONE;
        }
        int oneAt = now.cells[State.AT + one];
        int otherAt = now.cells[State.AT + other];
        int onePowder = flight.leastPowder(now, one, oneAt, otherAt);
        int otherPowder = flight.leastPowder(now, other, otherAt, oneAt);
        if (onePowder == NONE || otherPowder == NONE) {
            return NONE;
        }
        int oneAll = league.weight(one) + onePowder;
        int otherAll = league.weight(other) + otherPowder;
        if (oneAll == otherAll) {
            return 0;
        }
        return oneAll > otherAll ? 1 : 2;
    }

    // ---- what was seen, and whom it is for

    public int seen(int carrier, int fort, int powder, int way, int place) {
        if (!isShot(carrier, fort, powder, way) || place < -60 || place > 100 || !guesses.hasRoomForSight()) {
            return NONE;
        }
        guesses.addSight(carrier, fort, powder, way, place);
        return guesses.sightCount;
    }

    public int winds(int i) {
        if (!league.isTold()) {
            return NONE;
        }
        guesses.weighWinds();
        if (i == NONE) {
            return guesses.fitCount;
        }
        return i >= 0 && i < guesses.fitCount ? guesses.fitting[i] : NONE;
    }

    public int ask(int carrier, int fort) {
        if (!league.hasCarrier(carrier) || !league.hasFort(fort)) {
            return NONE;
        }
        guesses.weighWinds();
        return guesses.tellingShot(carrier, fort);
    }

    public int face(int fort, boolean lit) {
        if (!league.hasFort(fort) || !guesses.hasRoomForFace()) {
            return NONE;
        }
        guesses.addFace(fort, lit);
        return guesses.faceCount;
    }

    public int meant(int fort) {
        return league.hasFort(fort) ? guesses.partsFor(fort) : NONE;
    }

    public int following() {
        int best = NONE;
        int most = NONE;
        for (int f = 0; f < league.fortCount; f++) {
            int parts = guesses.hasFaceOf(f) ? NONE : guesses.partsFor(f);
            if (parts > most) {
                most = parts;
                best = f;
            }
        }
        return best;
    }

    // ---- who is shot and who waits

    public int game(int one, int other, int p, int x, int y, int what) {
        if (!isPair(one, other) || !isGamePowder(p) || !isWay(x) || !isWay(y) || what < 0 || what > 1) {
            return HIDDEN;
        }
        return what == 0 ? gained(one, p, x, y) : gained(other, p, y, x);
    }

    public int rests(int one, int other, int p, int i) {
        if (!isPair(one, other) || !isGamePowder(p)) {
            return NONE;
        }
        int found = 0;
        for (int x = 0; x <= 1; x++) {
            for (int y = 0; y <= 1; y++) {
                boolean still = gained(one, p, x, y) >= gained(one, p, 1 - x, y)
                        && gained(other, p, y, x) >= gained(other, p, 1 - y, x);
                if (still && found == i) {
                    return 10 * x + y;
                }
                found += still ? 1 : 0;
            }
        }
        return i == NONE ? found : NONE;
    }

    private int gained(int carrier, int p, int own, int others) {
        int gain = own + others > 0 ? 6 : 0;
        if (own == 1) {
            gain -= p / 2 + league.weight(carrier) / 3;
        }
        return own + others == 2 ? gain - 2 : gain;
    }

    // ---- stock, and who is where

    public int stock(int p) {
        return league.isTold() && isPowder(p) ? now.cells[State.POWDER] / p : NONE;
    }

    public int hays(int n) {
        if (!league.isTold() || n < 0 || n > MOST_HAY) {
            return NONE;
        }
        int least = MOST_HAY;
        for (int f = 0; f < league.fortCount; f++) {
            least = Math.min(least, now.cells[State.HAY + f]);
        }
        int hour = now.cells[State.HOUR];
        for (int t = 0; t <= MOST_HOURS; t++) {
            if (least + (hour + t) / HAY_EVERY - hour / HAY_EVERY >= n) {
                return t;
            }
        }
        return NONE;
    }

    public int best(int what, int place) {
        if (!league.isTold() || what < 0 || what > 1) {
            return NONE;
        }
        return what == 0 ? league.highestFort() : league.nearestFort(place);
    }

    public int free() {
        if (!league.isTold()) {
            return NONE;
        }
        int bits = 0;
        for (int c = 0; c < league.carrierCount; c++) {
            bits |= now.cells[State.LATE + c] == 0 ? 1 << c : 0;
        }
        return bits;
    }

    public int home(int fort) {
        if (!league.hasFort(fort)) {
            return NONE;
        }
        int bits = 0;
        for (int c = 0; c < league.carrierCount; c++) {
            boolean there = now.cells[State.AT + c] == fort && now.cells[State.LATE + c] == 0;
            bits |= there ? 1 << c : 0;
        }
        return bits;
    }

    public int known(int news) {
        return league.isTold() && isNews(news) ? now.fortsKnowing(news, league.fortCount) : NONE;
    }

    // ---- what may be asked at all

    private boolean isShot(int carrier, int fort, int powder, int way) {
        return league.hasCarrier(carrier) && league.hasFort(fort) && isPowder(powder) && isWay(way);
    }

    private boolean isPassage(int carrier, int fort, int other) {
        return league.hasCarrier(carrier) && league.hasFort(fort) && league.hasFort(other);
    }

    private boolean isPair(int one, int other) {
        return league.hasCarrier(one) && league.hasCarrier(other) && one != other;
    }

    private static boolean isPowder(int powder) {
        return powder >= 1 && powder <= MOST_IN_A_SHOT;
    }

    private static boolean isGamePowder(int p) {
        return p == 0 || isPowder(p);
    }

    private static boolean isWay(int way) {
        return way == 0 || way == 1;
    }

    private static boolean isNews(int news) {
        return news >= 0 && news < NEWS_KINDS;
    }

    /** The bytes that were fed, and where a reader stands in them. */
    private static final class Tape {
        static final int ROOM = 240;

        final byte[] bytes = new byte[ROOM];
        int length;
        int at;

        static int bytesIn(int number) {
            int bytes = 0;
            for (int shift = 24; shift >= 0; shift -= 8) {
                bytes += (number >>> shift & 255) != 0 ? 1 : 0;
            }
            return bytes;
        }

        void put(int number) {
            for (int shift = 24; shift >= 0; shift -= 8) {
                byte b = (byte) (number >>> shift);
                if (b != 0 && length < ROOM) {
                    bytes[length] = b;
                    length++;
                }
            }
        }

        /** The sign behind blanks; 0 at the end, which no byte of a tape can be. */
        int next() {
            while (at < length && bytes[at] == ' ') {
                at++;
            }
            return at < length ? bytes[at] : 0;
        }

        boolean take(char sign) {
            if (next() != sign) {
                return false;
            }
            at++;
            return true;
        }

        /** Digits that stand together here; NONE without, or at one too many, which is where it stays. */
        int number(int mostDigits) {
            int value = 0;
            int digits = 0;
            while (digits <= mostDigits && at < length && bytes[at] >= '0' && bytes[at] <= '9') {
                if (digits == mostDigits) {
                    return NONE;
                }
                value = value * 10 + bytes[at] - '0';
                at++;
                digits++;
            }
            return digits == 0 ? NONE : value;
        }

        /** One digit behind blanks; NONE where there is none up to the highest one. */
        int digit(int highest) {
            int value = next() - '0';
            if (value < 0 || value > highest) {
                return NONE;
            }
            at++;
            return value;
        }
    }

    /** What the text of a LEAGUE told; none as long as it has no FORT. */
    private static final class League {
        static final int MOST_FORTS = 8;
        static final int MOST_CARRIERS = 5;
        static final int RULE_ITEMS = 4;
        static final int FORT_ITEMS = 3;
        static final int CARRIER_ITEMS = 3;

        final int[] rules = new int[RULE_ITEMS];
        final int[] forts = new int[MOST_FORTS * FORT_ITEMS];
        final int[] carriers = new int[MOST_CARRIERS * CARRIER_ITEMS];
        int fortCount;
        int carrierCount;

        void copyFrom(League other) {
            System.arraycopy(other.rules, 0, rules, 0, rules.length);
            System.arraycopy(other.forts, 0, forts, 0, forts.length);
            System.arraycopy(other.carriers, 0, carriers, 0, carriers.length);
            fortCount = other.fortCount;
            carrierCount = other.carrierCount;
        }

        boolean isTold() {
            return fortCount > 0;
        }

        boolean hasFort(int fort) {
            return fort >= 0 && fort < fortCount;
        }

        boolean hasCarrier(int carrier) {
            return carrier >= 0 && carrier < carrierCount;
        }

        int firstWind() {
            return rules[0];
        }

        int firstWindWay() {
            return rules[1];
        }

        int firstPowder() {
            return rules[2];
        }

        int breath() {
            return rules[3];
        }

        int place(int fort) {
            return forts[fort * FORT_ITEMS];
        }

        int height(int fort) {
            return forts[fort * FORT_ITEMS + 1];
        }

        int firstHay(int fort) {
            return forts[fort * FORT_ITEMS + 2];
        }

        int weight(int carrier) {
            return carriers[carrier * CARRIER_ITEMS];
        }

        int nerve(int carrier) {
            return carriers[carrier * CARRIER_ITEMS + 1];
        }

        int firstFort(int carrier) {
            return carriers[carrier * CARRIER_ITEMS + 2];
        }

        /** Whether its parts fit one another, as far as no single byte can be blamed. */
        boolean isWhole() {
            if (fortCount < 2 || carrierCount < 1) {
                return false;
            }
            for (int f = 0; f < fortCount; f++) {
                for (int g = 0; g < f; g++) {
                    if (place(f) == place(g)) {
                        return false;
                    }
                }
            }
            for (int c = 0; c < carrierCount; c++) {
                if (!hasFort(firstFort(c))) {
                    return false;
                }
            }
            return true;
        }

        int highestFort() {
            int best = 0;
            for (int f = 1; f < fortCount; f++) {
                if (height(f) > height(best)) {
                    best = f;
                }
            }
            return best;
        }

        /** Any number may be asked for, so the distance is a long. */
        int nearestFort(int place) {
            int best = 0;
            for (int f = 1; f < fortCount; f++) {
                if (Math.abs((long) place(f) - place) < Math.abs((long) place(best) - place)) {
                    best = f;
                }
            }
            return best;
        }

        /** The FORT in which one who comes to the place LANDS; NONE for the LAKE. No two have one place. */
        int fortNear(int place) {
            int beside = NONE;
            for (int f = fortCount - 1; f >= 0; f--) {
                int off = place(f) - place;
                if (off == 0) {
                    return f;
                }
                if (off == 1 || off == -1) {
                    beside = f;
                }
            }
            return beside;
        }
    }

    /** Reads a LEAGUE from the tape into a draft. */
    private static final class LeagueReader {
        private static final String LETTERS = "wdpbxhymnf";
        private static final int RULES = 0;
        private static final int FORTS = 4;
        private static final int CARRIERS = 7;
        private static final int BEHIND = 10;
        private static final int[] LEAST = {0, 0, 0, 1, 0, 0, 0, 1, 0, 0};
        private static final int[] MOST = {9, 1, 99, 6, 40, 9, 9, 9, 9, 7};
        private static final int[] USUAL = {1, 0, 50, 3, 0, 0, 2, 3, 5, 0};

        final League draft = new League();
        private final Tape tape;
        private boolean ruled;

        LeagueReader(Tape tape) {
            this.tape = tape;
        }

        int readTape() {
            tape.at = 0;
            return readClauses() ? NONE : tape.at;
        }

        private boolean readClauses() {
            ruled = false;
            draft.fortCount = 0;
            draft.carrierCount = 0;
            System.arraycopy(USUAL, RULES, draft.rules, 0, League.RULE_ITEMS);
            for (int i = 0; i <= Tape.ROOM; i++) {
                if (!readClause()) {
                    return false;
                }
                if (tape.next() == 0) {
                    return draft.isWhole();
                }
                if (!tape.take(';')) {
                    return false;
                }
            }
            return false;
        }

        /** Blanks are passed before all else: a clause too many is wrong at its letter, not ahead of it. */
        private boolean readClause() {
            int sign = tape.next();
            if (sign == 's' && !ruled) {
                tape.at++;
                ruled = true;
                return readItems(draft.rules, 0, RULES, FORTS);
            }
            if (sign == 'f' && draft.fortCount < League.MOST_FORTS) {
                tape.at++;
                int start = draft.fortCount * League.FORT_ITEMS;
                draft.fortCount++;
                return readItems(draft.forts, start, FORTS, CARRIERS);
            }
            if (sign == 'c' && draft.carrierCount < League.MOST_CARRIERS) {
                tape.at++;
                int start = draft.carrierCount * League.CARRIER_ITEMS;
                draft.carrierCount++;
                return readItems(draft.carriers, start, CARRIERS, BEHIND);
            }
            return false;
        }

        /** Items of the sorts first .. behind - 1 come to the row from start on. */
        private boolean readItems(int[] row, int start, int first, int behind) {
            System.arraycopy(USUAL, first, row, start, behind - first);
            int told = 0;
            for (int i = 0; i <= behind - first; i++) {
                int item = itemOf(tape.next(), first, behind);
                if (item == NONE) {
                    return true;
                }
                if ((told >> item & 1) != 0) {
                    return false;
                }
                told |= 1 << item;
                tape.at++;
                tape.next();
                int value = tape.number(2);
                if (value == NONE) {
                    return false;
                }
                if (value < LEAST[item] || value > MOST[item]) {
                    tape.at--;
                    return false;
                }
                row[start + item - first] = value;
            }
            return false;
        }

        private static int itemOf(int sign, int first, int behind) {
            for (int i = first; i < behind; i++) {
                if (LETTERS.charAt(i) == sign) {
                    return i;
                }
            }
            return NONE;
        }
    }

    /** Reads a LAW from the tape and writes it as code for a stack: operands first, then what joins them. */
    private static final class LawReader {
        private static final int MOST_NESTED = 6;
        private static final int MOST_DIGITS = 4;

        final int[] code = new int[Tape.ROOM];
        int size;
        private final Tape tape;

        LawReader(Tape tape) {
            this.tape = tape;
        }

        int readTape() {
            tape.at = 0;
            size = 0;
            for (int i = 0; i <= Tape.ROOM; i++) {
                if (!readClause()) {
                    return tape.at;
                }
                if (tape.next() == 0) {
                    return NONE;
                }
                if (!tape.take(';')) {
                    return tape.at;
                }
            }
            return tape.at;
        }

        private boolean readClause() {
            if (!tape.take('y') || !tape.take(':')) {
                return false;
            }
            int sign = tape.next();
            boolean sumFirst = sign != '!' && sign != '(';
            if (sumFirst && !readSum(0)) {
                return false;
            }
            if (sumFirst && comparing(tape.next()) == NONE) {
                write(Lawbook.ANSWER, 0);
                return true;
            }
            if (!readCondition(0, sumFirst) || !tape.take('?')) {
                return false;
            }
            int test = size;
            write(Lawbook.TEST, 0);
            if (!readSum(0)) {
                return false;
            }
            write(Lawbook.ANSWER, 0);
            if (test < code.length) {
                code[test] = size * Lawbook.SORTS + Lawbook.TEST;
            }
            return true;
        }

        /** The | that waits is written when the TRUTH behind it is whole, as & binds closer. */
        private boolean readCondition(int nested, boolean sumRead) {
            boolean waits = false;
            if (!readUnit(nested, sumRead)) {
                return false;
            }
            for (int i = 0; i <= Tape.ROOM; i++) {
                boolean either = tape.take('|');
                if (!either && !tape.take('&')) {
                    break;
                }
                if (either && waits) {
                    write(Lawbook.OR, 0);
                }
                waits = waits || either;
                if (!readUnit(nested, false)) {
                    return false;
                }
                if (!either) {
                    write(Lawbook.AND, 0);
                }
            }
            if (waits) {
                write(Lawbook.OR, 0);
            }
            return true;
        }

        private boolean readUnit(int nested, boolean sumRead) {
            int sign = tape.next();
            if (!sumRead && (sign == '!' || sign == '(')) {
                if (nested >= MOST_NESTED) {
                    return false;
                }
                tape.at++;
                if (sign == '(') {
                    return readCondition(nested + 1, false) && tape.take(')');
                }
                if (!readUnit(nested + 1, false)) {
                    return false;
                }
                write(Lawbook.NOT, 0);
                return true;
            }
            if (!sumRead && !readSum(nested)) {
                return false;
            }
            int comparison = comparing(tape.next());
            if (comparison == NONE) {
                return false;
            }
            tape.at++;
            if (!readSum(nested)) {
                return false;
            }
            write(comparison, 0);
            return true;
        }

        /** The + or - that waits is written when the TERM behind it is whole, as * and / bind closer. */
        private boolean readSum(int nested) {
            int waiting = NONE;
            if (!readAtom(nested)) {
                return false;
            }
            for (int i = 0; i <= Tape.ROOM; i++) {
                int joint = joining(tape.next());
                if (joint == NONE) {
                    break;
                }
                tape.at++;
                boolean loose = joint == Lawbook.PLUS || joint == Lawbook.LESS;
                if (loose && waiting != NONE) {
                    write(waiting, 0);
                }
                if (!readAtom(nested)) {
                    return false;
                }
                if (loose) {
                    waiting = joint;
                } else {
                    write(joint, 0);
                }
            }
            if (waiting != NONE) {
                write(waiting, 0);
            }
            return true;
        }

        private boolean readAtom(int nested) {
            int sign = tape.next();
            if (sign == '[') {
                if (nested >= MOST_NESTED) {
                    return false;
                }
                tape.at++;
                if (!readSum(nested + 1) || tape.next() != ']') {
                    return false;
                }
                tape.at++;
                return true;
            }
            int letter = sign <= 0 ? NONE : Lawbook.LETTERS.indexOf((char) sign);
            if (letter >= 0) {
                tape.at++;
                write(Lawbook.LETTER, letter);
                return true;
            }
            int value = tape.number(MOST_DIGITS);
            if (value == NONE) {
                return false;
            }
            write(Lawbook.NUMBER, value);
            return true;
        }

        private static int comparing(int sign) {
            switch (sign) {
                case '=':
                    return Lawbook.EQUAL;
                case '<':
                    return Lawbook.BELOW;
                case '>':
                    return Lawbook.ABOVE;
                default:
                    return NONE;
            }
        }

        private static int joining(int sign) {
            switch (sign) {
                case '+':
                    return Lawbook.PLUS;
                case '-':
                    return Lawbook.LESS;
                case '*':
                    return Lawbook.TIMES;
                case '/':
                    return Lawbook.BY;
                default:
                    return NONE;
            }
        }

        private void write(int sort, int value) {
            if (size < code.length) {
                code[size] = value * Lawbook.SORTS + sort;
                size++;
            }
        }
    }

    /** The LAWS as code, which of them holds, and what it is worth. */
    private static final class Lawbook {
        static final String LETTERS = "pmwhnd";
        static final int NUMBER = 0;
        static final int LETTER = 1;
        static final int PLUS = 2;
        static final int LESS = 3;
        static final int TIMES = 4;
        static final int BY = 5;
        static final int EQUAL = 6;
        static final int BELOW = 7;
        static final int ABOVE = 8;
        static final int AND = 9;
        static final int OR = 10;
        static final int NOT = 11;
        static final int TEST = 12;
        static final int ANSWER = 13;
        /** What an instruction's value is multiplied by, to leave room for its sort. */
        static final int SORTS = 16;
        private static final int MOST_LAWS = 4;
        private static final int FURTHEST = 1000000;
        /** Six levels of nesting leave at most two operands waiting in each, and a few at the ends. */
        private static final int STACK_ROOM = 64;

        final int[] letters = new int[6];
        int count;
        int holding = NONE;
        private final int[][] codes = new int[MOST_LAWS][Tape.ROOM];
        private final int[] sizes = new int[MOST_LAWS];
        private final int[] stack = new int[STACK_ROOM];

        boolean hasRoom() {
            return count < MOST_LAWS;
        }

        int add(int[] code, int size) {
            if (!hasRoom() || size > Tape.ROOM) {
                return NONE;
            }
            System.arraycopy(code, 0, codes[count], 0, size);
            sizes[count] = size;
            count++;
            return count - 1;
        }

        /** The WORTH of the LAW that holds, by the letters as they are set. */
        int worth() {
            if (holding < 0 || holding >= count) {
                return 0;
            }
            int[] code = codes[holding];
            int depth = 0;
            for (int i = 0; i < sizes[holding]; i++) {
                int sort = code[i] % SORTS;
                int value = code[i] / SORTS;
                if (sort == NUMBER || sort == LETTER) {
                    if (depth >= STACK_ROOM || sort == LETTER && value >= letters.length) {
                        return 0;
                    }
                    stack[depth] = sort == NUMBER ? value : letters[value];
                    depth++;
                } else if (sort == NOT && depth > 0) {
                    stack[depth - 1] = 1 - stack[depth - 1];
                } else if (sort == TEST && depth > 0) {
                    depth--;
                    // A clause that does not hold is passed over; going on never leads backwards.
                    i = stack[depth] == 0 ? Math.max(i, value - 1) : i;
                } else if (sort == ANSWER && depth > 0) {
                    return stack[depth - 1];
                } else if (depth > 1) {
                    depth--;
                    stack[depth - 1] = joined(sort, stack[depth - 1], stack[depth]);
                }
            }
            return 0;
        }

        private static int joined(int sort, int one, int other) {
            long value = 0;
            switch (sort) {
                case PLUS:
                    value = one + other;
                    break;
                case LESS:
                    value = one - other;
                    break;
                case TIMES:
                    value = (long) one * other;
                    break;
                case BY:
                    value = other == 0 ? 0 : one / other;
                    break;
                case EQUAL:
                    value = one == other ? 1 : 0;
                    break;
                case BELOW:
                    value = one < other ? 1 : 0;
                    break;
                case ABOVE:
                    value = one > other ? 1 : 0;
                    break;
                case AND:
                    value = one & other;
                    break;
                case OR:
                    value = one | other;
                    break;
                default:
                    break;
            }
            if (value > FURTHEST) {
                return FURTHEST;
            }
            return value < -FURTHEST ? -FURTHEST : (int) value;
        }
    }

    /** The PLANS, four numbers a STEP, and the draft of the one that is read. */
    private static final class Planbook {
        static final int SHOT = 0;
        static final int HOURS = 1;
        static final int WIND = 2;
        static final int PARTS = 4;
        private static final int TOLD = 3;
        private static final int MOST_PLANS = 4;
        private static final int MOST_STEPS = 16;

        final int[] sizes = new int[MOST_PLANS];
        int count;
        private final int[][] rows = new int[MOST_PLANS][MOST_STEPS * PARTS];
        private final int[] draft = new int[MOST_STEPS * PARTS];
        private int draftSize;
        private final Tape tape;

        Planbook(Tape tape) {
            this.tape = tape;
        }

        boolean hasRoom() {
            return count < MOST_PLANS;
        }

        boolean has(int plan) {
            return plan >= 0 && plan < count;
        }

        int part(int plan, int i, int what) {
            return rows[plan][i * PARTS + what];
        }

        int add() {
            if (!hasRoom()) {
                return NONE;
            }
            System.arraycopy(draft, 0, rows[count], 0, draft.length);
            sizes[count] = draftSize;
            count++;
            return count - 1;
        }

        int readTape() {
            tape.at = 0;
            for (int i = 0; i < MOST_STEPS; i++) {
                if (!readStep(i * PARTS)) {
                    return tape.at;
                }
                draftSize = i + 1;
                if (tape.next() == 0) {
                    return NONE;
                }
                if (draftSize == MOST_STEPS || !tape.take(';')) {
                    return tape.at;
                }
            }
            return tape.at;
        }

        private boolean readStep(int start) {
            if (tape.take('s')) {
                return readDigits(start, SHOT, 1) && readPowder(start);
            }
            if (tape.take('h')) {
                return readFirst(start, HOURS);
            }
            if (tape.take('w')) {
                return readDigits(start, WIND, 1);
            }
            return tape.take('n') && readDigits(start, TOLD, 9);
        }

        private boolean readFirst(int start, int sort) {
            draft[start] = sort;
            draft[start + 1] = tape.digit(9);
            draft[start + 2] = NONE;
            draft[start + 3] = NONE;
            return draft[start + 1] != NONE;
        }

        private boolean readDigits(int start, int sort, int highestSecond) {
            if (!readFirst(start, sort)) {
                return false;
            }
            draft[start + 2] = tape.digit(highestSecond);
            return draft[start + 2] != NONE;
        }

        private boolean readPowder(int start) {
            int tens = tape.digit(9);
            if (tens == NONE) {
                return false;
            }
            int ones = tape.digit(9);
            draft[start + 3] = 10 * tens + ones;
            return ones != NONE;
        }
    }

    /** All that changes: one row of cells, so that it is kept and put back whole, and the LOG. */
    private static final class State {
        static final int POWDER = 0;
        static final int WIND = 1;
        static final int WIND_WAY = 2;
        static final int DAMP = 3;
        static final int HOUR = 4;
        static final int SHOTS = 5;
        static final int AT = 6;
        static final int HURT = AT + League.MOST_CARRIERS;
        static final int LATE = HURT + League.MOST_CARRIERS;
        static final int HAY = LATE + League.MOST_CARRIERS;
        static final int NEWS = HAY + League.MOST_FORTS;
        static final int SIZE = NEWS + League.MOST_FORTS;
        static final int LOG_PARTS = 4;
        private static final int LOG_SHOWN = 60;
        /** Behind those that are shown, as many as ACTS can be UNDONE stay, to come to light again. */
        private static final int LOG_ROOM = LOG_SHOWN + History.ROOM;

        final int[] cells = new int[SIZE];
        private final int[] shots = new int[LOG_ROOM * LOG_PARTS];

        void begin(League league) {
            Arrays.fill(cells, 0);
            cells[POWDER] = league.firstPowder();
            cells[WIND] = league.firstWind();
            cells[WIND_WAY] = league.firstWindWay();
            for (int f = 0; f < league.fortCount; f++) {
                cells[HAY + f] = league.firstHay(f);
            }
            for (int c = 0; c < league.carrierCount; c++) {
                cells[AT + c] = league.firstFort(c);
            }
        }

        void copyFrom(State other) {
            System.arraycopy(other.cells, 0, cells, 0, SIZE);
            System.arraycopy(other.shots, 0, shots, 0, shots.length);
        }

        boolean blows(int v, int way) {
            return cells[WIND] == v && cells[WIND_WAY] == way;
        }

        int sumOf(int first, int n) {
            int sum = 0;
            for (int i = 0; i < n; i++) {
                sum += cells[first + i];
            }
            return sum;
        }

        int fortsKnowing(int news, int forts) {
            int bits = 0;
            for (int f = 0; f < forts; f++) {
                bits |= (cells[NEWS + f] >> news & 1) << f;
            }
            return bits;
        }

        void passHour(int forts) {
            for (int c = 0; c < League.MOST_CARRIERS; c++) {
                cells[LATE + c] = Math.max(0, cells[LATE + c] - 1);
            }
            cells[HOUR]++;
            if (cells[HOUR] % HAY_EVERY == 0) {
                for (int f = 0; f < forts; f++) {
                    cells[HAY + f] = Math.min(MOST_HAY, cells[HAY + f] + 1);
                }
            }
        }

        void land(int carrier, int fort, int news) {
            if (cells[HAY + fort] > 0) {
                cells[HAY + fort]--;
            } else {
                cells[HURT + carrier] = Math.min(MOST_HURT, cells[HURT + carrier] + 1);
            }
            cells[AT + carrier] = fort;
            cells[NEWS + fort] |= news;
        }

        void noteShot(int carrier, int from, int landed, int powder) {
            int start = cells[SHOTS] % LOG_ROOM * LOG_PARTS;
            shots[start] = carrier;
            shots[start + 1] = from;
            shots[start + 2] = landed;
            shots[start + 3] = powder;
            cells[SHOTS]++;
        }

        int logLength() {
            return Math.min(LOG_SHOWN, cells[SHOTS]);
        }

        int logged(int i, int what) {
            return shots[(cells[SHOTS] - 1 - i) % LOG_ROOM * LOG_PARTS + what];
        }
    }

    /** How it was ahead of each of the latest ACTS. */
    private static final class History {
        static final int ROOM = 40;

        int count;
        private final int[][] rows = new int[ROOM][State.SIZE];
        private int top;

        void keep(State s) {
            System.arraycopy(s.cells, 0, rows[top], 0, State.SIZE);
            top = (top + 1) % ROOM;
            count = Math.min(ROOM, count + 1);
        }

        boolean takeBack(State s) {
            if (count == 0) {
                return false;
            }
            count--;
            top = (top + ROOM - 1) % ROOM;
            System.arraycopy(rows[top], 0, s.cells, 0, State.SIZE);
            return true;
        }

        void forget() {
            count = 0;
        }
    }

    /** How far one flies, and with how much POWDER one comes where. */
    private static final class Flight {
        static final int FURTHEST = 60;
        private static final int MOST_ROWS = League.MOST_CARRIERS * League.MOST_FORTS;

        private final League league;
        private final Lawbook laws;
        private final int[] aims = new int[MOST_ROWS * League.MOST_FORTS];
        /** By which law and weather each row of aims was reckoned; 0: by none yet. */
        private final int[] reckoned = new int[MOST_ROWS];

        Flight(League league, Lawbook laws) {
            this.league = league;
            this.laws = laws;
        }

        void forget() {
            Arrays.fill(reckoned, 0);
        }

        static int along(int wind, int windWay, int way) {
            return windWay == way ? wind : -wind;
        }

        static int comeTo(int place, int reach, int way) {
            return way == 0 ? place + reach : place - reach;
        }

        int reach(int carrier, int fort, int powder, int along, int damp) {
            int weight = league.weight(carrier);
            int height = league.height(fort);
            int worth;
            if (laws.holding == NONE) {
                worth = (weight == 0 ? 0 : 6 * powder / weight) + height + along - damp;
            } else {
                laws.letters[0] = powder;
                laws.letters[1] = weight;
                laws.letters[2] = along;
                laws.letters[3] = height;
                laws.letters[4] = league.nerve(carrier);
                laws.letters[5] = damp;
                worth = laws.worth();
            }
            return Math.max(0, Math.min(FURTHEST, worth));
        }

        int comesTo(State s, int carrier, int fort, int powder, int way) {
            int along = along(s.cells[State.WIND], s.cells[State.WIND_WAY], way);
            int reach = reach(carrier, fort, powder, along, s.cells[State.DAMP]);
            return comeTo(league.place(fort), reach, way);
        }

        int leastPowder(State s, int carrier, int from, int to) {
            int row = carrier * League.MOST_FORTS + from;
            int weather = (laws.holding + 1) * 1000 + s.cells[State.WIND] * 100
                    + s.cells[State.WIND_WAY] * 10 + s.cells[State.DAMP] + 1;
            if (reckoned[row] != weather) {
                reckon(s, carrier, from);
                reckoned[row] = weather;
            }
            return aims[row * League.MOST_FORTS + to];
        }

        /** By one way nobody LANDS in a FORT on the other side: where one was SHOT is always nearer. */
        private void reckon(State s, int carrier, int from) {
            int start = (carrier * League.MOST_FORTS + from) * League.MOST_FORTS;
            for (int f = 0; f < League.MOST_FORTS; f++) {
                aims[start + f] = NONE;
            }
            for (int way = 0; way <= 1; way++) {
                int along = along(s.cells[State.WIND], s.cells[State.WIND_WAY], way);
                for (int powder = 1; powder <= MOST_IN_A_SHOT; powder++) {
                    int reach = reach(carrier, from, powder, along, s.cells[State.DAMP]);
                    int fort = league.fortNear(comeTo(league.place(from), reach, way));
                    if (fort != NONE && fort != from && aims[start + fort] == NONE) {
                        aims[start + fort] = powder;
                    }
                }
            }
        }
    }

    /** Which FORTS are come to from which, over others too. */
    private static final class Paths {
        /** What the number of a RELAY's SHOTS is multiplied by, to leave room for the first of them. */
        static final int RELAY_SHOT = 100;
        private static final int MOST_RELAYED = 3;

        final int[] hops = new int[League.MOST_FORTS];
        final int[] costs = new int[League.MOST_FORTS];
        final int[] rows = new int[League.MOST_FORTS];
        private final int[] links = new int[League.MOST_FORTS];
        private final int[] spots = new int[League.MOST_CARRIERS];
        private final League league;
        private final Flight flight;

        Paths(League league, Flight flight) {
            this.league = league;
            this.flight = flight;
        }

        /** The best ROUTES of a CARRIER from a FORT to all others, those of fewer SHOTS first. */
        void trace(State s, int carrier, int from) {
            Arrays.fill(hops, NONE);
            hops[from] = 0;
            costs[from] = 0;
            rows[from] = 0;
            for (int n = 1; n < league.fortCount; n++) {
                for (int to = 0; to < league.fortCount; to++) {
                    for (int by = 0; by < league.fortCount && (hops[to] == NONE || hops[to] == n); by++) {
                        int powder = hops[by] == n - 1 ? flight.leastPowder(s, carrier, by, to) : NONE;
                        if (powder != NONE) {
                            offer(to, n, costs[by] + powder, rows[by] * 10 + to);
                        }
                    }
                }
            }
        }

        private void offer(int to, int n, int cost, int row) {
            boolean better = hops[to] == NONE || cost < costs[to] || cost == costs[to] && row < rows[to];
            if (better) {
                hops[to] = n;
                costs[to] = cost;
                rows[to] = row;
            }
        }

        /** The fewest SHOTS and the least first one that bring it to the goal; NONE without. */
        int bestRelay(State s, int knowing, int goal) {
            if ((knowing >> goal & 1) != 0) {
                return 0;
            }
            System.arraycopy(s.cells, State.AT, spots, 0, League.MOST_CARRIERS);
            for (int shots = 1; shots <= MOST_RELAYED && knowing != 0; shots++) {
                int first = firstShot(s, shots, knowing, goal);
                if (first != NONE) {
                    return shots * RELAY_SHOT + first;
                }
            }
            return NONE;
        }

        /** The least SHOT with which so many begin that bring it to the goal, as the last of them must. */
        private int firstShot(State s, int shots, int knowing, int goal) {
            int from = shots > 1 ? 0 : goal;
            int behind = shots > 1 ? league.fortCount : goal + 1;
            for (int c = 0; c < league.carrierCount; c++) {
                for (int f = from; f < behind; f++) {
                    if (s.cells[State.LATE + c] == 0
                            && flight.leastPowder(s, c, spots[c], f) != NONE
                            && leads(s, 10 * c + f, shots, knowing, goal)) {
                        return 10 * c + f;
                    }
                }
            }
            return NONE;
        }

        private boolean leads(State s, int shot, int shots, int knowing, int goal) {
            int carrier = shot / 10;
            int fort = shot % 10;
            int from = spots[carrier];
            int then = (knowing >> from & 1) != 0 ? knowing | 1 << fort : knowing;
            if (shots <= 1) {
                return (then >> goal & 1) != 0;
            }
            spots[carrier] = fort;
            boolean good = firstShot(s, shots - 1, then, goal) != NONE;
            spots[carrier] = from;
            return good;
        }

        /** Notes for each FORT to which others some CARRIER can be SHOT from it. */
        void link(State s) {
            for (int f = 0; f < league.fortCount; f++) {
                links[f] = 0;
                for (int c = 0; c < league.carrierCount; c++) {
                    for (int g = 0; g < league.fortCount; g++) {
                        links[f] |= flight.leastPowder(s, c, f, g) != NONE ? 1 << g : 0;
                    }
                }
            }
        }

        /** The FORTS (bits) to which the links lead from one, if another one is not there. */
        int netFrom(int fort, int without) {
            int gone = without == NONE ? 0 : 1 << without;
            int net = 1 << fort;
            for (int round = 1; round < league.fortCount; round++) {
                for (int f = 0; f < league.fortCount; f++) {
                    net |= (net >> f & 1) != 0 ? links[f] & ~gone : 0;
                }
            }
            return net;
        }
    }

    /** What was SEEN and which WINDS fit it; the FACES and whom they speak for. */
    private static final class Guesses {
        private static final int MOST_SIGHTS = 10;
        private static final int SIGHT_PARTS = 5;
        private static final int MOST_FACES = 12;
        private static final int WIND_CODES = 20;
        private static final int SECOND_CALM = 10;

        final int[] fitting = new int[WIND_CODES];
        int fitCount;
        int sightCount;
        int faceCount;
        private final int[] sights = new int[MOST_SIGHTS * SIGHT_PARTS];
        private final int[] tally = new int[Flight.FURTHEST + 1];
        private final int[] faceForts = new int[MOST_FACES];
        private final boolean[] faceLit = new boolean[MOST_FACES];
        private final League league;
        private final Flight flight;

        Guesses(League league, Flight flight) {
            this.league = league;
            this.flight = flight;
        }

        void forget() {
            sightCount = 0;
            faceCount = 0;
        }

        boolean hasRoomForSight() {
            return sightCount < MOST_SIGHTS;
        }

        boolean hasRoomForFace() {
            return faceCount < MOST_FACES;
        }

        void addSight(int carrier, int fort, int powder, int way, int place) {
            int start = sightCount * SIGHT_PARTS;
            sights[start] = carrier;
            sights[start + 1] = fort;
            sights[start + 2] = powder;
            sights[start + 3] = way;
            sights[start + 4] = place;
            sightCount++;
        }

        void weighWinds() {
            fitCount = 0;
            for (int code = 0; code < WIND_CODES; code++) {
                if (code != SECOND_CALM && explains(code)) {
                    fitting[fitCount] = code;
                    fitCount++;
                }
            }
        }

        private boolean explains(int code) {
            for (int i = 0; i < sightCount; i++) {
                int start = i * SIGHT_PARTS;
                int fort = sights[start + 1];
                int way = sights[start + 3];
                int reach = reachBy(code, sights[start], fort, sights[start + 2], way);
                if (Flight.comeTo(league.place(fort), reach, way) != sights[start + 4]) {
                    return false;
                }
            }
            return true;
        }

        private int reachBy(int code, int carrier, int fort, int powder, int way) {
            return flight.reach(carrier, fort, powder, Flight.along(code % 10, code / 10, way), 0);
        }

        /** The SHOT that leaves the fewest WINDS together at worst; NONE if none fits at all. */
        int tellingShot(int carrier, int fort) {
            int best = NONE;
            int fewest = fitCount + 1;
            for (int way = 0; way <= 1 && fitCount > 0; way++) {
                for (int powder = 1; powder <= MOST_IN_A_SHOT; powder++) {
                    int most = mostTogether(carrier, fort, powder, way);
                    if (most < fewest) {
                        fewest = most;
                        best = 100 * way + powder;
                    }
                }
            }
            return best;
        }

        /** By one way from one FORT, places are alike just where reaches are. */
        private int mostTogether(int carrier, int fort, int powder, int way) {
            Arrays.fill(tally, 0);
            int most = 0;
            for (int i = 0; i < fitCount; i++) {
                int reach = reachBy(fitting[i], carrier, fort, powder, way);
                tally[reach]++;
                most = Math.max(most, tally[reach]);
            }
            return most;
        }

        void addFace(int fort, boolean lit) {
            faceForts[faceCount] = fort;
            faceLit[faceCount] = lit;
            faceCount++;
        }

        boolean hasFaceOf(int fort) {
            for (int i = 0; i < faceCount; i++) {
                if (faceForts[i] == fort) {
                    return true;
                }
            }
            return false;
        }

        /** Twelve factors of at most 8, times a million, are well within a long. */
        int partsFor(int fort) {
            long all = 0;
            for (int f = 0; f < league.fortCount; f++) {
                all += product(f);
            }
            return all == 0 ? 0 : (int) (product(fort) * 1000000 / all);
        }

        private long product(int fort) {
            long product = 1;
            for (int i = 0; i < faceCount; i++) {
                boolean here = faceForts[i] == fort;
                if (faceLit[i]) {
                    product *= here ? 8 : 3;
                } else {
                    product *= here ? 2 : 7;
                }
            }
            return product;
        }
    }
}
