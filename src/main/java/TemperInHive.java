/**
 * People who have more temper than they can use and put some by in hives, as ../shared/DOC.md tells it.
 *
 * All rows are made with the object and used again: no call after the constructor makes anything.
 */
public final class TemperInHive {
    public static final int BAD = -1, NOT = -2, FULL = -3, STATE = -5, VOID = -2000000000;

    // The host's refusals.
    private static final int NOTHING_THERE = -11, OTHER_KIND = -12, NO_PLACE = -13, SIZE_BELOW_0 = -14;
    private static final long NO_ELEMENT = 1L << 63;

    private static final int SIDE = 10, CELLS = 100, MOST_APART = 18;
    private static final int MOST_PEOPLE = 6, MOST_HIVES = 5, MOST_DEEDS = 10, MOST_TEMPER = 99;
    private static final int DAYS_IN_THOUGHT = 60, DAYS_TILL_STILL = 99, MOST_MONTHS = 30, MOST_MONTH_DAYS = 30;
    // later() takes these in the place of one of the people.
    private static final int HOW_FAR = 8, ALL_IN_IT = 9;

    // What mend() and of() tell.
    private static final int ON = 0, IN = 1, PLACE = 2, NEEDS = 3, MOST = 4, WORTH = 5;
    private static final int SEASON = 6, REACH = 7, FEAR = 8, LOSS = 9;

    // What led() tells.
    private static final int LED_TAKEN = 0, LED_PUT = 1, LED_DAYS = 2, LED_DEEDS = 3, LED_WORTH = 4;
    private static final int LED_MARRIAGES = 5, LED_NUMBERS = 6;

    private static final int TAPE_BYTES = 120, MOST_OPEN = 6, MOST_DIGITS = 4, END = -1;
    // Each byte of the tape gives at most one step, and the end of the last line one more.
    private static final int CODE_STEPS = TAPE_BYTES + 8;
    // The ranks of signs between two parts of the law: | & (< = >) (+ -) (* / %).
    private static final int COMPARING = 2, RANKS = 5;
    // Steps of the law that no sign between two parts stands for.
    private static final int NUMBER = 1, NAME = 2, NEGATE = 3, NEGLECT = 4, ANSWER = 5, SKIP = 6;
    private static final int NAME_A = 0, NAME_N = 1, NAME_S = 2, NAME_O = 3, NAME_H = 4, NAME_D = 5, NAMES = 6;
    private static final int LAST_SEASON = 3;

    private static final int MOST_CHANGES = 40, MOST_ROUND = 20;

    private static final int SHELVES = 6, MOST_ELEMENTS = 60;
    private static final int HOLDS_NOTHING = -1, BYTES = 0, SHORTS = 1, INTS = 2, BOOLEANS = 4, HOLDS_BODY = 5;

    private static final int MOST_BODIES = 50, KINDS = 8, ACTS = 4, TRACE_KEPT = 24, MOST_DEPTH = 40;
    private static final int KEEPS = 0, STINGS = 1, GROWS = 2, TELLS = 3;
    private static final int SWARM = 0, LAMB = 1, VEIL = 2, SLATE = 3, HEIFER = 4, TINKER = 5, FROST = 6, TAR = 7;
    private static final int NO_KIND = -1;
    private static final int[] KIND_ABOVE = {NO_KIND, SWARM, SWARM, VEIL, LAMB, SLATE, SWARM, FROST};
    // By kinds, four acts each: the number of the kind's own body, 0 where it has none.
    private static final int[] OWN_BODIES = {
        1, 10, 11, 2,
        20, 0, 0, 0,
        0, 30, 0, 0,
        0, 41, 40, 0,
        0, 0, 0, 50,
        0, 0, 60, 61,
        70, 0, 0, 0,
        81, 80, 0, 0,
    };

    private final Land land = new Land();
    private final Tape tape = new Tape();
    private Code law = new Code();
    // The next law is written here, so that a fault leaves the law as it is.
    private Code draft = new Code();
    private final int[] names = new int[NAMES];
    private final Stock thought = new Stock();
    // How far each hive stings on each day of a month, by days.
    private final int[] monthFar = new int[MOST_MONTH_DAYS * MOST_HIVES];
    private final Ways ways = new Ways();
    private final Pairing pairing = new Pairing();
    private final Round rounds = new Round();
    private final Changes changes = new Changes();
    private final Image kept = new Image();
    private final int[] ledger = new int[LED_NUMBERS];
    private final Swarms swarms = new Swarms();
    private final Shelf[] shelves = new Shelf[SHELVES];

    public TemperInHive() {
        for (int i = 0; i < SHELVES; i++) {
            shelves[i] = new Shelf();
        }
    }

    // ---- people, hives, deeds

    public int person(int on) {
        if (!isTemper(on)) {
            return BAD;
        }
        return land.people >= MOST_PEOPLE ? FULL : land.addPerson(on);
    }

    public int hive(int xy) {
        if (!isCell(xy)) {
            return BAD;
        }
        return land.hives >= MOST_HIVES ? FULL : land.addHive(xy);
    }

    public int deed(int needs, int most) {
        if (!isDeedAsItMayBe(needs, most, Land.FIRST_WORTH)) {
            return BAD;
        }
        return land.deeds >= MOST_DEEDS ? FULL : land.addDeed(needs, most, Land.FIRST_WORTH);
    }

    public int deeds(int shelf, int i, int n) {
        if (!isShelf(shelf) || n < 1 || n > MOST_DEEDS) {
            return BAD;
        }
        Shelf held = shelves[shelf];
        if (held.holds != HOLDS_NOTHING && held.holds != BYTES) {
            return OTHER_KIND;
        }
        int came = 0;
        for (int k = 0; k < n; k++) {
            if (held.holds != BYTES || !addDeedFrom(held, i + 3 * k)) {
                break;
            }
            came++;
        }
        return came;
    }

    private boolean addDeedFrom(Shelf held, int i) {
        int needs = held.at(i);
        int most = held.at(i + 1);
        int worth = held.at(i + 2);
        if (!isDeedAsItMayBe(needs, most, worth) || land.deeds >= MOST_DEEDS) {
            return false;
        }
        land.addDeed(needs, most, worth);
        return true;
    }

    public int mend(int number, int what, int v) {
        int was = land.numberOf(number, what);
        if (was == BAD || !land.fits(number, what, v)) {
            return BAD;
        }
        if (v != was) {
            changes.note(number, what, was, v);
            land.change(number, what, v);
        }
        return was;
    }

    public int of(int number, int what) {
        return land.numberOf(number, what);
    }

    public int feed(int letter) {
        if (letter < 0 || letter > 255) {
            return BAD;
        }
        return tape.length >= TAPE_BYTES ? FULL : tape.add(letter);
    }

    public int law() {
        int fault = tape.readInto(draft);
        tape.length = 0;
        if (fault >= 0) {
            return -100 - fault;
        }
        Code old = law;
        law = draft;
        draft = old;
        return 1;
    }

    // ---- in thought

    public int later(int hp, int n) {
        int hive = hp / 10;
        int one = hp % 10;
        if (hp < 0 || !land.isHive(hive) || n < 0 || n > DAYS_IN_THOUGHT) {
            return BAD;
        }
        if (one != HOW_FAR && one != ALL_IN_IT && !land.isPerson(one)) {
            return BAD;
        }
        thought.copyFrom(land.stock);
        for (int d = 0; d < n; d++) {
            passDay(thought, hive, d);
        }
        if (one == ALL_IN_IT) {
            return thought.allIn(hive);
        }
        if (one == HOW_FAR) {
            return farOrNot(thought.allIn(hive));
        }
        return thought.share(hive, one);
    }

    public int still(int hive) {
        if (!land.isHive(hive)) {
            return BAD;
        }
        thought.copyFrom(land.stock);
        for (int d = 0; d <= DAYS_TILL_STILL; d++) {
            if (!passDay(thought, hive, d)) {
                return d;
            }
        }
        return NOT;
    }

    /** A day for one hive; whether it changed anything. All are asked by what was in it ahead of the day. */
    private boolean passDay(Stock stock, int hive, int d) {
        names[NAME_N] = stock.allIn(hive);
        names[NAME_S] = land.season;
        names[NAME_O] = stock.holders(hive);
        names[NAME_H] = hive;
        names[NAME_D] = d;
        boolean changed = false;
        for (int one = 0; one < land.people; one++) {
            int was = stock.share(hive, one);
            int then = was == 0 ? 0 : shareNextDay(was);
            if (then != was) {
                stock.lay(hive, one, then);
                changed = true;
            }
        }
        return changed;
    }

    private int shareNextDay(int was) {
        int then = was;
        if (law.size > 0) {
            names[NAME_A] = was;
            then = law.workOut(names);
        } else if (land.season != LAST_SEASON) {
            then = was + was / 10;
        }
        return Math.max(0, Math.min(MOST_TEMPER, then));
    }

    private int farOrNot(int amount) {
        int far = land.farOf(amount);
        return far < 0 ? NOT : far;
    }

    public int can(int one, int what) {
        if (!land.isPerson(one) || what < 0 || what > 1) {
            return BAD;
        }
        int least = land.on[one];
        int most = least;
        if (what == 1) {
            least = land.leastOn(one);
            most = land.mostOn(one);
        }
        int bits = 0;
        for (int deed = 0; deed < land.deeds; deed++) {
            if (land.needs[deed] <= most && land.most[deed] >= least) {
                bits |= 1 << deed;
            }
        }
        return bits;
    }

    public int round(int shelf, int one, int k) {
        if (!isShelf(shelf) || !land.isPerson(one) || k < -1) {
            return BAD;
        }
        int refused = refusal(shelves[shelf], BYTES);
        if (refused != 0) {
            return refused;
        }
        if (!rounds.plan(land, shelves[shelf], one)) {
            return NOT;
        }
        if (k == -1) {
            return rounds.goings;
        }
        return k < rounds.size ? rounds.on[k] : NOT;
    }

    public int without(int shelf, int one) {
        if (!isShelf(shelf) || !land.isPerson(one)) {
            return BAD;
        }
        int refused = refusal(shelves[shelf], BYTES);
        return refused != 0 ? refused : rounds.worthWithoutGoing(land, shelves[shelf], one);
    }

    public int who(int k) {
        if (k != -1 && !land.isDeed(k)) {
            return BAD;
        }
        pairing.reckon(land);
        return k == -1 ? pairing.best[0] : pairing.doerOf(land, k);
    }

    public int stung(int xy) {
        if (!isCell(xy)) {
            return BAD;
        }
        return land.stingersAt(xy);
    }

    public int way(int from, int to) {
        if (!isCell(from) || !isCell(to)) {
            return BAD;
        }
        ways.look(land);
        return ways.steps(from, to, 0, Ways.NOWHERE);
    }

    public int least(int from, int to, int what) {
        if (!isCell(from) || !isCell(to) || what < 0 || what > 1) {
            return BAD;
        }
        ways.look(land);
        int price = ways.leastPrice(from, to);
        return what == 0 ? price / Ways.STING_PRICE : price % Ways.STING_PRICE;
    }

    public int set(int ft, int v, int what) {
        int from = ft / 100;
        int to = ft % 100;
        if (ft < 0 || !isCell(from) || !isTemper(v) || what < 0 || what > 1) {
            return BAD;
        }
        ways.look(land);
        int far = land.farOf(v);
        int cell = ways.bestCell(from, to, far);
        if (cell < 0) {
            return NOT;
        }
        return what == 0 ? cell : Ways.cellsWithin(cell, far);
    }

    // ---- tries, cheats, days

    public int tries(int shelf, int hive, int what) {
        if (!isShelf(shelf) || !land.isHive(hive) || what < 0 || what > 2) {
            return BAD;
        }
        Shelf held = shelves[shelf];
        int refused = refusal(held, BYTES);
        if (refused != 0) {
            return refused;
        }
        int stungAt = farthestStung(held, land.cell[hive]);
        int safeAt = nearestSafe(held, land.cell[hive]);
        int many = 0;
        int least = NOT;
        int greatest = NOT;
        for (int v = 0; v <= MOST_TEMPER; v++) {
            if (makesAllSo(v, stungAt, safeAt)) {
                many++;
                least = least == NOT ? v : least;
                greatest = v;
            }
        }
        return what == 0 ? many : what == 1 ? least : greatest;
    }

    public int next(int shelf, int hive) {
        if (!isShelf(shelf) || !land.isHive(hive)) {
            return BAD;
        }
        Shelf held = shelves[shelf];
        int refused = refusal(held, BYTES);
        if (refused != 0) {
            return refused;
        }
        int stungAt = farthestStung(held, land.cell[hive]);
        int safeAt = nearestSafe(held, land.cell[hive]);
        int all = amountsThatSting(Ways.NOWHERE, stungAt, safeAt);
        if (all == 0) {
            return NOT;
        }
        int best = 0;
        int bestPart = all + 1;
        for (int apart = 0; apart <= MOST_APART; apart++) {
            int stinging = amountsThatSting(apart, stungAt, safeAt);
            int part = Math.max(stinging, all - stinging);
            if (part < bestPart) {
                best = apart;
                bestPart = part;
            }
        }
        return best;
    }

    /** How many amounts that make all tries so reach as far as a distance (NOWHERE: all of them). */
    private int amountsThatSting(int apart, int stungAt, int safeAt) {
        int many = 0;
        for (int v = 0; v <= MOST_TEMPER; v++) {
            if (makesAllSo(v, stungAt, safeAt) && land.farOf(v) >= apart) {
                many++;
            }
        }
        return many;
    }

    /** Nearer stings and farther safe cells follow from these two distances, so no other try need be asked. */
    private boolean makesAllSo(int v, int stungAt, int safeAt) {
        int far = land.farOf(v);
        return far >= stungAt && far < safeAt;
    }

    private static int farthestStung(Shelf held, int cell) {
        int farthest = Ways.NOWHERE;
        for (int i = 0; i < MOST_ELEMENTS && isTry(held, i); i += 3) {
            if (held.at(i + 2) == 1) {
                farthest = Math.max(farthest, apart(cell, held.at(i) + SIDE * held.at(i + 1)));
            }
        }
        return farthest;
    }

    private static int nearestSafe(Shelf held, int cell) {
        int nearest = CELLS;
        for (int i = 0; i < MOST_ELEMENTS && isTry(held, i); i += 3) {
            if (held.at(i + 2) == 0) {
                nearest = Math.min(nearest, apart(cell, held.at(i) + SIDE * held.at(i + 1)));
            }
        }
        return nearest;
    }

    private static boolean isTry(Shelf held, int i) {
        int x = held.at(i);
        int y = held.at(i + 1);
        int stung = held.at(i + 2);
        return x >= 0 && x < SIDE && y >= 0 && y < SIDE && (stung == 0 || stung == 1);
    }

    public int leave(int what) {
        if (what < 0 || what > 1) {
            return BAD;
        }
        int best = 0;
        for (int v = 1; v <= MOST_TEMPER; v++) {
            if (costOfHaving(v) < costOfHaving(best)) {
                best = v;
            }
        }
        return what == 0 ? best : costOfHaving(best);
    }

    private int costOfHaving(int v) {
        return Math.max(0, land.fear - v / 10) * land.loss + 12 * (v / 5);
    }

    public int judge(int shelf) {
        if (!isShelf(shelf)) {
            return BAD;
        }
        Shelf held = shelves[shelf];
        int refused = refusal(held, SHORTS);
        if (refused != 0) {
            return refused;
        }
        for (int i = 0; i < held.length; i += 2) {
            int one = held.at(i);
            if (!land.isPerson(one) || held.at(i + 1) != land.on[one]) {
                return i / 2;
            }
        }
        return NOT;
    }

    public int from(int one, int v) {
        if (!land.isPerson(one) || v < 1 || v > MOST_TEMPER) {
            return BAD;
        }
        int bits = 0;
        for (int hive = 0; hive < land.hives; hive++) {
            if (land.on[one] >= v && land.stock.share(hive, one) + v <= MOST_TEMPER) {
                bits |= 1 << hive;
            }
        }
        return bits;
    }

    public int swarm(int what) {
        if (what < 0 || what > 1) {
            return BAD;
        }
        int all = land.stock.allInAll();
        return what == 0 ? all : farOrNot(all);
    }

    public int drawn(int seed, int nm, int what) {
        int months = nm / 100;
        int days = nm % 100;
        if (nm < 0 || months < 1 || months > MOST_MONTHS || days < 1 || days > MOST_MONTH_DAYS) {
            return BAD;
        }
        if (what < 0 || what > 1) {
            return BAD;
        }
        foreseeMonth(days);
        int z = seed;
        int stings = 0;
        int stungDays = 0;
        for (int month = 0; month < months; month++) {
            for (int d = 0; d < days; d++) {
                z = z * 1103515245 + 12345;
                int today = stingsOn(d, (z >>> 6) % SIDE + SIDE * ((z >>> 12) % SIDE));
                stings += today;
                stungDays += today > 0 ? 1 : 0;
            }
        }
        return what == 0 ? stings : stungDays;
    }

    /** Each month is drawn from now, so that all are alike but for their draws, and one need be thought out. */
    private void foreseeMonth(int days) {
        thought.copyFrom(land.stock);
        for (int d = 0; d < days; d++) {
            for (int hive = 0; hive < land.hives; hive++) {
                monthFar[d * MOST_HIVES + hive] = land.farOf(thought.allIn(hive));
                passDay(thought, hive, d);
            }
        }
    }

    /** How many hives sting in a cell on a day of the month that was foreseen. */
    private int stingsOn(int d, int cell) {
        int many = 0;
        for (int hive = 0; hive < land.hives; hive++) {
            many += apart(cell, land.cell[hive]) <= monthFar[d * MOST_HIVES + hive] ? 1 : 0;
        }
        return many;
    }

    // ---- in deed

    public int takes(int hp, int v) {
        if (!land.isShare(hp) || v < 1 || v > MOST_TEMPER) {
            return BAD;
        }
        int hive = hp / 10;
        int one = hp % 10;
        int share = land.stock.share(hive, one);
        if (share < v || land.on[one] + v > MOST_TEMPER) {
            return STATE;
        }
        land.stock.lay(hive, one, share - v);
        land.on[one] += v;
        ledger[LED_TAKEN] += v;
        return land.on[one];
    }

    public int puts(int hp, int v) {
        if (!land.isShare(hp) || v < 1 || v > MOST_TEMPER) {
            return BAD;
        }
        int hive = hp / 10;
        int one = hp % 10;
        int share = land.stock.share(hive, one);
        if (land.on[one] < v || share + v > MOST_TEMPER) {
            return STATE;
        }
        land.stock.lay(hive, one, share + v);
        land.on[one] -= v;
        ledger[LED_PUT] += v;
        return share + v;
    }

    public int day() {
        for (int hive = 0; hive < land.hives; hive++) {
            passDay(land.stock, hive, 0);
        }
        ledger[LED_DAYS]++;
        return land.stock.allInAll();
    }

    public int does(int dp) {
        int deed = dp / 10;
        int one = dp % 10;
        if (dp < 0 || !land.isDeed(deed) || !land.isPerson(one)) {
            return BAD;
        }
        if (!land.mayDo(deed, land.on[one])) {
            return STATE;
        }
        land.on[one] -= land.needs[deed] / 2;
        ledger[LED_DEEDS]++;
        ledger[LED_WORTH] += land.worth[deed];
        return land.on[one];
    }

    public int marry(int ab) {
        int one = ab / 10;
        int other = ab % 10;
        if (ab < 0 || !land.isPerson(one) || !land.isPerson(other) || one == other) {
            return BAD;
        }
        int both = land.on[one] + land.on[other];
        land.on[Math.max(one, other)] = both / 2;
        land.on[Math.min(one, other)] = both - both / 2;
        ledger[LED_MARRIAGES]++;
        return land.on[one];
    }

    public int led(int what) {
        return what < 0 || what >= LED_NUMBERS ? BAD : ledger[what];
    }

    public int image() {
        kept.take(land, ledger);
        return ledger[LED_DAYS];
    }

    public int back() {
        if (!kept.there) {
            return STATE;
        }
        kept.layBack(land, ledger);
        return ledger[LED_DAYS];
    }

    public int undo() {
        if (changes.standing == 0) {
            return STATE;
        }
        changes.standing--;
        int i = changes.standing;
        land.change(changes.number[i], changes.what[i], changes.was[i]);
        return changes.standing;
    }

    public int redo() {
        if (changes.standing >= changes.size) {
            return STATE;
        }
        int i = changes.standing;
        land.change(changes.number[i], changes.what[i], changes.became[i]);
        changes.standing++;
        return changes.size - changes.standing;
    }

    // ---- acts, shelves

    public int body(int kind) {
        if (!isKind(kind)) {
            return BAD;
        }
        return swarms.size >= MOST_BODIES ? FULL : swarms.add(kind);
    }

    public int act(int body, int act, int x) {
        swarms.ran = 0;
        if (!swarms.isBody(body) || act < 0 || act >= ACTS) {
            return 0;
        }
        return swarms.begin(body, act, x);
    }

    public int trace(int i) {
        return i < 0 || i >= swarms.ran || i >= TRACE_KEPT ? BAD : swarms.trace[i];
    }

    public int keep(int shelf, int body) {
        if (!isShelf(shelf) || (body != -1 && !swarms.isBody(body))) {
            return BAD;
        }
        shelves[shelf].holds = body == -1 ? HOLDS_NOTHING : HOLDS_BODY;
        shelves[shelf].body = body;
        shelves[shelf].length = 0;
        return 1;
    }

    public int row(int shelf, int sort, int n) {
        if (!isShelf(shelf) || sort < BYTES || sort > BOOLEANS || n > MOST_ELEMENTS) {
            return BAD;
        }
        if (n < 0) {
            return SIZE_BELOW_0;
        }
        shelves[shelf].clear(sort, n);
        return 1;
    }

    public int put(int shelf, int i, long v) {
        if (!isShelf(shelf)) {
            return BAD;
        }
        Shelf held = shelves[shelf];
        int refused = rowRefusal(held);
        if (refused != 0) {
            return refused;
        }
        if (!held.has(i)) {
            return NO_PLACE;
        }
        held.elements[i] = lowestBits(held.holds, v);
        return 1;
    }

    public long element(int shelf, int i) {
        if (!isShelf(shelf) || rowRefusal(shelves[shelf]) != 0 || !shelves[shelf].has(i)) {
            return NO_ELEMENT;
        }
        return shelves[shelf].elements[i];
    }

    public int shift(int shelf, int i, int other, int j, int n) {
        if (!isShelf(shelf) || !isShelf(other)) {
            return BAD;
        }
        Shelf source = shelves[shelf];
        Shelf goal = shelves[other];
        if (source.holds == HOLDS_NOTHING || goal.holds == HOLDS_NOTHING) {
            return NOTHING_THERE;
        }
        if (source.holds == HOLDS_BODY || source.holds != goal.holds) {
            return OTHER_KIND;
        }
        if (n < 0 || i < 0 || j < 0 || n > source.length - i || n > goal.length - j) {
            return NO_PLACE;
        }
        System.arraycopy(source.elements, i, goal.elements, j, n);
        return n;
    }

    public int taken(int shelf, int k) {
        if (!isShelf(shelf) || !isKind(k)) {
            return BAD;
        }
        int refused = refusal(shelves[shelf], HOLDS_BODY);
        if (refused != 0) {
            return refused;
        }
        int body = shelves[shelf].body;
        return swarms.isBody(body) && isUnder(swarms.kind[body], k) ? swarms.kind[body] : OTHER_KIND;
    }

    public int count(int what) {
        switch (what) {
            case 0:
                return land.people;
            case 1:
                return land.hives;
            case 2:
                return land.deeds;
            case 3:
                return tape.length;
            case 4:
                return changes.standing;
            case 5:
                return swarms.size;
            case 6:
                return swarms.ran;
            default:
                return BAD;
        }
    }

    // ---- what a number may be

    private static boolean isTemper(int v) {
        return v >= 0 && v <= MOST_TEMPER;
    }

    private static boolean isCell(int xy) {
        return xy >= 0 && xy < CELLS;
    }

    private static boolean isShelf(int shelf) {
        return shelf >= 0 && shelf < SHELVES;
    }

    private static boolean isKind(int kind) {
        return kind >= 0 && kind < KINDS;
    }

    private static boolean isUnder(int kind, int k) {
        int at = kind;
        for (int i = 0; i < KINDS && isKind(at); i++) {
            if (at == k) {
                return true;
            }
            at = KIND_ABOVE[at];
        }
        return false;
    }

    private static boolean isDeedAsItMayBe(int needs, int most, int worth) {
        return isTemper(needs) && isTemper(most) && needs <= most && isTemper(worth);
    }

    private static int apart(int cell, int other) {
        return Math.abs(cell % SIDE - other % SIDE) + Math.abs(cell / SIDE - other / SIDE);
    }

    private static int refusal(Shelf held, int wanted) {
        if (held.holds == HOLDS_NOTHING) {
            return NOTHING_THERE;
        }
        return held.holds == wanted ? 0 : OTHER_KIND;
    }

    private static int rowRefusal(Shelf held) {
        if (held.holds == HOLDS_NOTHING) {
            return NOTHING_THERE;
        }
        return held.holds == HOLDS_BODY ? OTHER_KIND : 0;
    }

    private static long lowestBits(int sort, long v) {
        switch (sort) {
            case BYTES:
                return (byte) v;
            case SHORTS:
                return (short) v;
            case INTS:
                return (int) v;
            case BOOLEANS:
                return v != 0 ? 1 : 0;
            default:
                return v;
        }
    }

    /** How much of each one lies in each hive: as it is, in thought, or in the image. */
    private static final class Stock {
        private final int[] shares = new int[MOST_HIVES * MOST_PEOPLE];

        int share(int hive, int one) {
            return shares[hive * MOST_PEOPLE + one];
        }

        void lay(int hive, int one, int v) {
            shares[hive * MOST_PEOPLE + one] = v;
        }

        int allIn(int hive) {
            int all = 0;
            for (int one = 0; one < MOST_PEOPLE; one++) {
                all += share(hive, one);
            }
            return all;
        }

        int allInAll() {
            int all = 0;
            for (int hive = 0; hive < MOST_HIVES; hive++) {
                all += allIn(hive);
            }
            return all;
        }

        int allOf(int one) {
            int all = 0;
            for (int hive = 0; hive < MOST_HIVES; hive++) {
                all += share(hive, one);
            }
            return all;
        }

        int holders(int hive) {
            int many = 0;
            for (int one = 0; one < MOST_PEOPLE; one++) {
                many += share(hive, one) > 0 ? 1 : 0;
            }
            return many;
        }

        void copyFrom(Stock other) {
            System.arraycopy(other.shares, 0, shares, 0, MOST_HIVES * MOST_PEOPLE);
        }
    }

    /** People, hives, deeds and the numbers of the land. */
    private static final class Land {
        static final int FIRST_WORTH = 10;

        int people = 0;
        int hives = 0;
        int deeds = 0;
        final int[] on = new int[MOST_PEOPLE];
        final int[] cell = new int[MOST_HIVES];
        final Stock stock = new Stock();
        final int[] needs = new int[MOST_DEEDS];
        final int[] most = new int[MOST_DEEDS];
        final int[] worth = new int[MOST_DEEDS];
        int season = 0;
        int reach = 10;
        int fear = 6;
        int loss = 20;

        int addPerson(int onHim) {
            on[people] = onHim;
            people++;
            return people - 1;
        }

        int addHive(int xy) {
            cell[hives] = xy;
            hives++;
            return hives - 1;
        }

        int addDeed(int itNeeds, int atMost, int isWorth) {
            needs[deeds] = itNeeds;
            most[deeds] = atMost;
            worth[deeds] = isWorth;
            deeds++;
            return deeds - 1;
        }

        boolean isPerson(int one) {
            return one >= 0 && one < people;
        }

        boolean isHive(int hive) {
            return hive >= 0 && hive < hives;
        }

        boolean isDeed(int deed) {
            return deed >= 0 && deed < deeds;
        }

        boolean isShare(int hp) {
            return hp >= 0 && isHive(hp / 10) && isPerson(hp % 10);
        }

        boolean mayDo(int deed, int onHim) {
            return needs[deed] <= onHim && onHim <= most[deed];
        }

        /** How far so much stings; below 0, less than any distance: nowhere. */
        int farOf(int amount) {
            return amount <= 0 || reach <= 0 ? Ways.NOWHERE : amount / reach;
        }

        int stingersAt(int xy) {
            int bits = 0;
            for (int hive = 0; hive < hives; hive++) {
                if (apart(xy, cell[hive]) <= farOf(stock.allIn(hive))) {
                    bits |= 1 << hive;
                }
            }
            return bits;
        }

        /** The least that he can come to have on him by putting in one hive. */
        int leastOn(int one) {
            int least = on[one];
            for (int hive = 0; hive < hives; hive++) {
                least = Math.min(least, on[one] - Math.min(on[one], MOST_TEMPER - stock.share(hive, one)));
            }
            return least;
        }

        /** The most that he can come to have on him by taking from one hive. */
        int mostOn(int one) {
            int greatest = on[one];
            for (int hive = 0; hive < hives; hive++) {
                greatest = Math.max(greatest, Math.min(MOST_TEMPER, on[one] + stock.share(hive, one)));
            }
            return greatest;
        }

        /** As of() tells it. */
        int numberOf(int number, int what) {
            switch (what) {
                case ON:
                    return isPerson(number) ? on[number] : BAD;
                case IN:
                    return isShare(number) ? stock.share(number / 10, number % 10) : BAD;
                case PLACE:
                    return isHive(number) ? cell[number] : BAD;
                case NEEDS:
                    return isDeed(number) ? needs[number] : BAD;
                case MOST:
                    return isDeed(number) ? most[number] : BAD;
                case WORTH:
                    return isDeed(number) ? worth[number] : BAD;
                default:
                    return number == 0 ? setting(what) : BAD;
            }
        }

        private int setting(int what) {
            switch (what) {
                case SEASON:
                    return season;
                case REACH:
                    return reach;
                case FEAR:
                    return fear;
                case LOSS:
                    return loss;
                default:
                    return BAD;
            }
        }

        /** Whether a number that is there may become v. */
        boolean fits(int number, int what, int v) {
            switch (what) {
                case NEEDS:
                    return v >= 0 && isDeed(number) && v <= most[number];
                case MOST:
                    return v <= MOST_TEMPER && isDeed(number) && v >= needs[number];
                case SEASON:
                    return v >= 0 && v <= LAST_SEASON;
                case REACH:
                    return v >= 1 && v <= 20;
                case FEAR:
                    return v >= 0 && v <= 12;
                default:
                    return isTemper(v);
            }
        }

        /** For numbers that are there and values that fit. */
        void change(int number, int what, int v) {
            switch (what) {
                case ON:
                    on[number] = v;
                    break;
                case IN:
                    stock.lay(number / 10, number % 10, v);
                    break;
                case PLACE:
                    cell[number] = v;
                    break;
                case NEEDS:
                    needs[number] = v;
                    break;
                case MOST:
                    most[number] = v;
                    break;
                case WORTH:
                    worth[number] = v;
                    break;
                default:
                    changeSetting(what, v);
            }
        }

        private void changeSetting(int what, int v) {
            switch (what) {
                case SEASON:
                    season = v;
                    break;
                case REACH:
                    reach = v;
                    break;
                case FEAR:
                    fear = v;
                    break;
                default:
                    loss = v;
            }
        }
    }

    /** A law as steps over a pile of numbers, part behind part and then its sign; no steps: no text. */
    private static final class Code {
        private final int[] steps = new int[CODE_STEPS];
        private final int[] values = new int[CODE_STEPS];
        private final int[] pile = new int[CODE_STEPS];
        int size = 0;

        void add(int step, int value) {
            if (size < CODE_STEPS) {
                steps[size] = step;
                values[size] = value;
                size++;
            }
        }

        /** Lets a SKIP go on at the next step to be added. */
        void landHere(int skip) {
            if (skip >= 0 && skip < size) {
                values[skip] = size;
            }
        }

        int workOut(int[] names) {
            int high = 0;
            for (int at = 0; at < size; at++) {
                int step = steps[at];
                if (step == NUMBER || step == NAME) {
                    pile[high] = step == NUMBER ? values[at] : names[values[at]];
                    high++;
                } else if (high < 1) {
                    return 0;
                } else if (step == ANSWER) {
                    return pile[high - 1];
                } else if (step == SKIP) {
                    high--;
                    // A skip goes forward only, so the loop ends.
                    at = pile[high] == 0 ? Math.max(at, values[at] - 1) : at;
                } else if (step == NEGATE) {
                    pile[high - 1] = -pile[high - 1];
                } else if (step == NEGLECT) {
                    pile[high - 1] = truth(pile[high - 1] == 0);
                } else if (high >= 2) {
                    high--;
                    pile[high - 1] = joined(step, pile[high - 1], pile[high]);
                }
            }
            return 0;
        }

        private static int joined(int sign, int left, int right) {
            switch (sign) {
                case '|':
                    return truth(left != 0 || right != 0);
                case '&':
                    return truth(left != 0 && right != 0);
                case '<':
                    return truth(left < right);
                case '=':
                    return truth(left == right);
                case '>':
                    return truth(left > right);
                case '+':
                    return left + right;
                case '-':
                    return left - right;
                case '*':
                    return left * right;
                case '/':
                    return right == 0 ? 0 : left / right;
                case '%':
                    return right == 0 ? 0 : left % right;
                default:
                    return 0;
            }
        }

        private static int truth(boolean so) {
            return so ? 1 : 0;
        }
    }

    /** The tape, and the reading of it: at stands still at the first byte with which no text goes on. */
    private static final class Tape {
        private final int[] bytes = new int[TAPE_BYTES];
        int length = 0;
        private int at = 0;
        private boolean wrong = false;

        int add(int letter) {
            bytes[length] = letter;
            length++;
            return length;
        }

        /** Below 0, or the place of the fault. */
        int readInto(Code code) {
            at = 0;
            wrong = false;
            code.size = 0;
            readLine(code);
            for (int i = 0; i < TAPE_BYTES && !wrong && sign() == ';'; i++) {
                at++;
                readLine(code);
            }
            return wrong || at < length ? at : -1;
        }

        private int sign() {
            return at < length ? bytes[at] : END;
        }

        private void readLine(Code code) {
            readRank(code, 0, 0);
            if (!wrong && sign() == '?') {
                at++;
                int skip = code.size;
                code.add(SKIP, 0);
                readRank(code, 0, 0);
                code.add(ANSWER, 0);
                code.landHere(skip);
            } else {
                code.add(ANSWER, 0);
            }
        }

        private void readRank(Code code, int rank, int open) {
            if (rank >= RANKS) {
                readOperand(code, open);
                return;
            }
            readRank(code, rank + 1, open);
            int most = rank == COMPARING ? 1 : TAPE_BYTES;
            for (int i = 0; i < most && !wrong && rankOf(sign()) == rank; i++) {
                int sign = sign();
                at++;
                readRank(code, rank + 1, open);
                code.add(sign, 0);
            }
        }

        private void readOperand(Code code, int open) {
            int sign = sign();
            int name = nameOf(sign);
            if (isDigit(sign)) {
                readNumber(code);
            } else if (name >= 0) {
                at++;
                code.add(NAME, name);
            } else if (open >= MOST_OPEN) {
                wrong = true;
            } else if (sign == '!' || sign == '-') {
                at++;
                readOperand(code, open + 1);
                code.add(sign == '!' ? NEGLECT : NEGATE, 0);
            } else if (sign == '(') {
                at++;
                readRank(code, 0, open + 1);
                readClosing();
            } else {
                wrong = true;
            }
        }

        private void readNumber(Code code) {
            int value = 0;
            for (int i = 0; i < MOST_DIGITS && isDigit(sign()); i++) {
                value = value * 10 + sign() - '0';
                at++;
            }
            code.add(NUMBER, value);
        }

        private void readClosing() {
            if (wrong || sign() != ')') {
                wrong = true;
            } else {
                at++;
            }
        }

        private static boolean isDigit(int sign) {
            return sign >= '0' && sign <= '9';
        }

        private static int nameOf(int sign) {
            switch (sign) {
                case 'a':
                    return NAME_A;
                case 'n':
                    return NAME_N;
                case 's':
                    return NAME_S;
                case 'o':
                    return NAME_O;
                case 'h':
                    return NAME_H;
                case 'd':
                    return NAME_D;
                default:
                    return -1;
            }
        }

        private static int rankOf(int sign) {
            switch (sign) {
                case '|':
                    return 0;
                case '&':
                    return 1;
                case '<':
                case '=':
                case '>':
                    return COMPARING;
                case '+':
                case '-':
                    return 3;
                case '*':
                case '/':
                case '%':
                    return 4;
                default:
                    return -1;
            }
        }
    }

    /** A round of deeds by one: how often he goes, and what he has on him at each. */
    private static final class Round {
        private final int[] deed = new int[MOST_ROUND];
        final int[] on = new int[MOST_ROUND];
        int size = 0;
        int goings = 0;

        private void read(Land land, Shelf held) {
            size = 0;
            for (int i = 0; i < MOST_ROUND && land.isDeed(held.at(i)); i++) {
                deed[i] = held.at(i);
                size++;
            }
        }

        int worthWithoutGoing(Land land, Shelf held, int one) {
            read(land, held);
            int worth = 0;
            for (int i = 0; i < size; i++) {
                worth += land.mayDo(deed[i], land.on[one]) ? land.worth[deed[i]] : 0;
            }
            return worth;
        }

        /** Whether there is a way; each going as late as can be makes them fewest. */
        boolean plan(Land land, Shelf held, int one) {
            read(land, held);
            if (needsMoreThan(land, land.on[one] + land.stock.allOf(one))) {
                return false;
            }
            int at = 0;
            for (int i = 0; i < size && land.mayDo(deed[i], land.on[one]); i++) {
                on[i] = land.on[one];
                at++;
            }
            goings = 0;
            for (int i = 0; i < MOST_ROUND && at < size; i++) {
                at = goOnceFrom(land, at);
                goings++;
            }
            return goings == 0 || land.hives > 0;
        }

        private boolean needsMoreThan(Land land, int all) {
            for (int i = 0; i < size; i++) {
                if (land.needs[deed[i]] > all) {
                    return true;
                }
            }
            return false;
        }

        /** One setting of ON from a place on, for as many deeds as can be; the place behind them. */
        private int goOnceFrom(Land land, int start) {
            int low = 0;
            int high = MOST_TEMPER;
            int end = start;
            for (int i = start; i < size; i++) {
                int lowThen = Math.max(low, land.needs[deed[i]]);
                int highThen = Math.min(high, land.most[deed[i]]);
                if (lowThen > highThen) {
                    break;
                }
                low = lowThen;
                high = highThen;
                end = i + 1;
            }
            for (int i = start; i < end; i++) {
                on[i] = low;
            }
            return end;
        }
    }

    /** Who should do what: best worth of the deeds from each on, by who has a deed already (bits). */
    private static final class Pairing {
        private static final int SETS = 64;

        final int[] best = new int[(MOST_DEEDS + 1) * SETS];

        void reckon(Land land) {
            for (int busy = 0; busy < SETS; busy++) {
                best[land.deeds * SETS + busy] = 0;
            }
            for (int deed = land.deeds - 1; deed >= 0; deed--) {
                for (int busy = 0; busy < SETS; busy++) {
                    best[deed * SETS + busy] = bestFrom(land, deed, busy);
                }
            }
        }

        private int bestFrom(Land land, int deed, int busy) {
            int most = best[(deed + 1) * SETS + busy];
            for (int one = 0; one < land.people; one++) {
                if (isFree(land, deed, busy, one)) {
                    most = Math.max(most, worthBy(land, deed, busy, one));
                }
            }
            return most;
        }

        private static boolean isFree(Land land, int deed, int busy, int one) {
            return (busy >> one & 1) == 0 && land.mayDo(deed, land.on[one]);
        }

        private int worthBy(Land land, int deed, int busy, int one) {
            return land.worth[deed] + best[(deed + 1) * SETS + (busy | 1 << one)];
        }

        /** Behind reckon(). */
        int doerOf(Land land, int k) {
            int busy = 0;
            int doer = NOT;
            for (int deed = 0; deed <= k && deed < land.deeds; deed++) {
                doer = firstDoer(land, deed, busy);
                busy |= doer == NOT ? 0 : 1 << doer;
            }
            return doer;
        }

        private int firstDoer(Land land, int deed, int busy) {
            for (int one = 0; one < land.people; one++) {
                if (isFree(land, deed, busy, one) && worthBy(land, deed, busy, one) == best[deed * SETS + busy]) {
                    return one;
                }
            }
            return NOT;
        }
    }

    /** The land's cells, how many hives sting in each, and ways through them. */
    private static final class Ways {
        static final int NOWHERE = -1;
        // Above the steps of any way without a ring, so that one sting more outweighs them all.
        static final int STING_PRICE = 1000;
        private static final int UNSEEN = -1, SIDES = 4, TOO_DEAR = 1000000000;

        private final int[] stings = new int[CELLS];
        private final int[] reached = new int[CELLS];
        private final int[] queue = new int[CELLS];

        void look(Land land) {
            for (int cell = 0; cell < CELLS; cell++) {
                stings[cell] = 0;
            }
            for (int hive = 0; hive < land.hives; hive++) {
                int far = land.farOf(land.stock.allIn(hive));
                for (int cell = 0; cell < CELLS; cell++) {
                    stings[cell] += apart(cell, land.cell[hive]) <= far ? 1 : 0;
                }
            }
        }

        static int cellsWithin(int middle, int far) {
            int many = 0;
            for (int cell = 0; cell < CELLS; cell++) {
                many += apart(cell, middle) <= far ? 1 : 0;
            }
            return many;
        }

        private static int beside(int cell, int side) {
            int x = cell % SIDE + (side == 0 ? 1 : side == 1 ? -1 : 0);
            int y = cell / SIDE + (side == 2 ? 1 : side == 3 ? -1 : 0);
            return x < 0 || x >= SIDE || y < 0 || y >= SIDE ? NOWHERE : x + SIDE * y;
        }

        private boolean isSafe(int cell, int more, int far) {
            return stings[cell] == 0 && apart(cell, more) > far;
        }

        /** Fewest steps, or NOT, with one more hive that stings so far (NOWHERE: without it). */
        int steps(int from, int to, int more, int far) {
            if (!isSafe(from, more, far) || !isSafe(to, more, far)) {
                return NOT;
            }
            for (int cell = 0; cell < CELLS; cell++) {
                reached[cell] = UNSEEN;
            }
            reached[from] = 0;
            queue[0] = from;
            int waiting = 1;
            for (int i = 0; i < CELLS && i < waiting && reached[to] == UNSEEN; i++) {
                waiting = spread(queue[i], waiting, more, far);
            }
            return reached[to] == UNSEEN ? NOT : reached[to];
        }

        private int spread(int cell, int waiting, int more, int far) {
            int behind = waiting;
            for (int side = 0; side < SIDES; side++) {
                int other = beside(cell, side);
                if (other != NOWHERE && reached[other] == UNSEEN && isSafe(other, more, far) && behind < CELLS) {
                    reached[other] = reached[cell] + 1;
                    queue[behind] = other;
                    behind++;
                }
            }
            return behind;
        }

        /** Where one more hive leaves the way as it is and stings in most cells; below 0: nowhere. */
        int bestCell(int from, int to, int far) {
            int now = steps(from, to, 0, NOWHERE);
            int best = NOWHERE;
            int most = -1;
            for (int cell = 0; cell < CELLS && now != NOT; cell++) {
                int many = cellsWithin(cell, far);
                if (many > most && steps(from, to, cell, far) == now) {
                    best = cell;
                    most = many;
                }
            }
            return best;
        }

        /** Stings times STING_PRICE and steps, of the way with fewest stings, and of these fewest steps. */
        int leastPrice(int from, int to) {
            for (int cell = 0; cell < CELLS; cell++) {
                reached[cell] = TOO_DEAR;
                queue[cell] = 0;
            }
            reached[from] = stings[from] * STING_PRICE;
            for (int i = 0; i < CELLS; i++) {
                int cell = cheapestOpen();
                if (cell == NOWHERE || cell == to) {
                    break;
                }
                queue[cell] = 1;
                cheapen(cell);
            }
            return reached[to];
        }

        private int cheapestOpen() {
            int best = NOWHERE;
            for (int cell = 0; cell < CELLS; cell++) {
                if (queue[cell] == 0 && (best == NOWHERE || reached[cell] < reached[best])) {
                    best = cell;
                }
            }
            return best;
        }

        private void cheapen(int cell) {
            for (int side = 0; side < SIDES; side++) {
                int other = beside(cell, side);
                if (other != NOWHERE) {
                    reached[other] = Math.min(reached[other], reached[cell] + stings[other] * STING_PRICE + 1);
                }
            }
        }
    }

    /** Changes by mend(), oldest first: those that stand, and behind them those that were undone. */
    private static final class Changes {
        final int[] number = new int[MOST_CHANGES];
        final int[] what = new int[MOST_CHANGES];
        final int[] was = new int[MOST_CHANGES];
        final int[] became = new int[MOST_CHANGES];
        int size = 0;
        int standing = 0;

        void note(int itsNumber, int itsWhat, int itWas, int itBecame) {
            if (standing >= MOST_CHANGES) {
                forgetOldest();
            }
            number[standing] = itsNumber;
            what[standing] = itsWhat;
            was[standing] = itWas;
            became[standing] = itBecame;
            standing++;
            size = standing;
        }

        private void forgetOldest() {
            standing = MOST_CHANGES - 1;
            System.arraycopy(number, 1, number, 0, standing);
            System.arraycopy(what, 1, what, 0, standing);
            System.arraycopy(was, 1, was, 0, standing);
            System.arraycopy(became, 1, became, 0, standing);
        }
    }

    /** The image, if there is one. */
    private static final class Image {
        boolean there = false;
        private int people = 0;
        private final int[] on = new int[MOST_PEOPLE];
        private final Stock stock = new Stock();
        private final int[] ledger = new int[LED_NUMBERS];

        void take(Land land, int[] led) {
            there = true;
            people = land.people;
            System.arraycopy(land.on, 0, on, 0, people);
            stock.copyFrom(land.stock);
            System.arraycopy(led, 0, ledger, 0, LED_NUMBERS);
        }

        /** Whoever and whatever came since has no share in the image's stock, and so none behind this. */
        void layBack(Land land, int[] led) {
            System.arraycopy(on, 0, land.on, 0, people);
            land.stock.copyFrom(stock);
            System.arraycopy(ledger, 0, led, 0, LED_NUMBERS);
        }
    }

    /** Bodies of kinds whose acts come from above, and the trace of the latest act. */
    private static final class Swarms {
        final int[] kind = new int[MOST_BODIES];
        int size = 0;
        final int[] trace = new int[TRACE_KEPT];
        int ran = 0;
        // The body whose act runs.
        private int n = 0;

        int add(int itsKind) {
            kind[size] = itsKind;
            size++;
            return size - 1;
        }

        boolean isBody(int body) {
            return body >= 0 && body < size;
        }

        int begin(int body, int act, int x) {
            n = body;
            return own(act, x, 0);
        }

        private int own(int act, int x, int depth) {
            return run(kind[n], act, x, depth + 1);
        }

        private int above(int itsKind, int act, int x, int depth) {
            return run(KIND_ABOVE[itsKind], act, x, depth + 1);
        }

        private int run(int from, int act, int x, int depth) {
            int number = 0;
            int at = from;
            for (int i = 0; i < KINDS && isKind(at) && number == 0; i++) {
                number = OWN_BODIES[at * ACTS + act];
                at = KIND_ABOVE[at];
            }
            if (number == 0 || depth > MOST_DEPTH) {
                return 0;
            }
            if (ran < TRACE_KEPT) {
                trace[ran] = number;
            }
            ran++;
            return answer(number, x, depth);
        }

        private int answer(int number, int x, int depth) {
            switch (number) {
                case 1:
                    return x + n;
                case 2:
                    return own(STINGS, x, depth) - own(GROWS, 1, depth);
                case 10:
                    return own(KEEPS, x, depth) * 2;
                case 11:
                    return x ^ n;
                case 20:
                    return above(LAMB, KEEPS, x, depth) + 3;
                case 30:
                    return -above(VEIL, STINGS, x, depth);
                case 40:
                    return above(SLATE, GROWS, x, depth) * 3;
                case 41:
                    return above(SLATE, STINGS, x + 1, depth);
                case 50:
                    return above(HEIFER, TELLS, x, depth) ^ 5;
                case 60:
                    return above(TINKER, GROWS, x, depth) - own(KEEPS, 2, depth);
                case 61:
                    return above(TINKER, TELLS, x, depth) + 1;
                case 70:
                    return above(FROST, KEEPS, x, depth) * 2;
                case 80:
                    return above(TAR, STINGS, x, depth) + own(GROWS, 2, depth);
                case 81:
                    return above(TAR, KEEPS, x, depth) - 1;
                default:
                    return 0;
            }
        }
    }

    /** What a shelf holds: nothing, a body, or a row of a sort; one long array serves all sorts. */
    private static final class Shelf {
        int holds = HOLDS_NOTHING;
        int body = -1;
        int length = 0;
        final long[] elements = new long[MOST_ELEMENTS];

        void clear(int sort, int n) {
            holds = sort;
            length = n;
            for (int i = 0; i < n; i++) {
                elements[i] = 0;
            }
        }

        boolean has(int i) {
            return i >= 0 && i < length;
        }

        /** An element of bytes or shorts; where none is, VOID, which no byte or short is. */
        int at(int i) {
            return has(i) ? (int) elements[i] : VOID;
        }
    }
}
