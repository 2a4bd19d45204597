import java.util.ArrayList;
import java.util.Arrays;
import java.util.List;

/** The document once more, written apart from the class, plainly and slowly: what each call has to answer. */
final class PlainLand {
    private static final int BAD = -1, NOT = -2, FULL = -3, STATE = -5;

    private final List<Integer> on = new ArrayList<>();
    private final List<Integer> cells = new ArrayList<>();
    private int[][] in = new int[5][6];
    private final List<int[]> deeds = new ArrayList<>();
    private final int[] settings = {0, 10, 6, 20};
    private static final int[] SETTING_LEAST = {0, 1, 0, 0}, SETTING_MOST = {3, 20, 12, 99};
    private String tape = "";
    private String law = null;
    private int[] led = new int[6];
    private List<Integer> imageOn = null;
    private int[][] imageIn = null;
    private int[] imageLed = null;
    private final List<int[]> done = new ArrayList<>();
    private final List<int[]> undone = new ArrayList<>();
    private final List<PlainKinds.Swarm> bodies = new ArrayList<>();
    private final List<Integer> ran = new ArrayList<>();
    private final Object[] shelves = new Object[6];

    private static boolean in(int v, int least, int most) {
        return least <= v && v <= most;
    }

    private boolean isOne(int one) {
        return in(one, 0, on.size() - 1);
    }

    private boolean isHive(int hive) {
        return in(hive, 0, cells.size() - 1);
    }

    private boolean isHp(int hp) {
        return hp >= 0 && isHive(hp / 10) && isOne(hp % 10);
    }

    private static boolean isDeed(int needs, int most, int worth) {
        return in(needs, 0, 99) && in(most, 0, 99) && needs <= most && in(worth, 0, 99);
    }

    private static int[][] copy(int[][] rows) {
        int[][] copy = new int[rows.length][];
        for (int i = 0; i < rows.length; i++) {
            copy[i] = rows[i].clone();
        }
        return copy;
    }

    // ---- people, hives, deeds

    int person(int temper) {
        if (!in(temper, 0, 99)) {
            return BAD;
        }
        if (on.size() == 6) {
            return FULL;
        }
        on.add(temper);
        return on.size() - 1;
    }

    int hive(int xy) {
        if (!in(xy, 0, 99)) {
            return BAD;
        }
        if (cells.size() == 5) {
            return FULL;
        }
        cells.add(xy);
        return cells.size() - 1;
    }

    int deed(int needs, int most) {
        if (!isDeed(needs, most, 10)) {
            return BAD;
        }
        if (deeds.size() == 10) {
            return FULL;
        }
        deeds.add(new int[] {needs, most, 10});
        return deeds.size() - 1;
    }

    int deeds(int shelf, int i, int n) {
        if (!in(shelf, 0, 5) || !in(n, 1, 10)) {
            return BAD;
        }
        if (shelves[shelf] == null) {
            return 0;
        }
        if (!(shelves[shelf] instanceof byte[] row)) {
            return -12;
        }
        int came = 0;
        for (long at = i; i >= 0 && came < n && at + 2 < row.length && deeds.size() < 10; at += 3) {
            int[] three = {row[(int) at], row[(int) at + 1], row[(int) at + 2]};
            if (!isDeed(three[0], three[1], three[2])) {
                break;
            }
            deeds.add(three);
            came++;
        }
        return came;
    }

    int of(int number, int what) {
        if (what == 0 && isOne(number)) {
            return on.get(number);
        }
        if (what == 1 && isHp(number)) {
            return in[number / 10][number % 10];
        }
        if (what == 2 && isHive(number)) {
            return cells.get(number);
        }
        if (in(what, 3, 5) && in(number, 0, deeds.size() - 1)) {
            return deeds.get(number)[what - 3];
        }
        return in(what, 6, 9) && number == 0 ? settings[what - 6] : BAD;
    }

    private void become(int number, int what, int v) {
        if (what == 0) {
            on.set(number, v);
        } else if (what == 1) {
            in[number / 10][number % 10] = v;
        } else if (what == 2) {
            cells.set(number, v);
        } else if (what <= 5) {
            deeds.get(number)[what - 3] = v;
        } else {
            settings[what - 6] = v;
        }
    }

    int mend(int number, int what, int v) {
        int was = of(number, what);
        if (was == BAD) {
            return BAD;
        }
        int least = in(what, 6, 9) ? SETTING_LEAST[what - 6] : what == 4 ? deeds.get(number)[0] : 0;
        int most = in(what, 6, 9) ? SETTING_MOST[what - 6] : what == 3 ? deeds.get(number)[1] : 99;
        if (!in(v, least, most)) {
            return BAD;
        }
        if (v != was) {
            become(number, what, v);
            undone.clear();
            done.add(new int[] {number, what, was, v});
            if (done.size() > 40) {
                done.remove(0);
            }
        }
        return was;
    }

    int feed(int letter) {
        if (!in(letter, 0, 255)) {
            return BAD;
        }
        if (tape.length() == 120) {
            return FULL;
        }
        tape += (char) letter;
        return tape.length();
    }

    int law() {
        int fault = PlainLaw.fault(tape);
        String text = tape;
        tape = "";
        if (fault >= 0) {
            return -100 - fault;
        }
        law = text;
        return 1;
    }

    // ---- in thought

    private static int sum(int[] shares) {
        return Arrays.stream(shares).sum();
    }

    private int[] dayLater(int hive, int[] shares, int d) {
        int[] then = new int[6];
        int some = (int) Arrays.stream(shares).filter(a -> a != 0).count();
        for (int one = 0; one < 6; one++) {
            int a = shares[one];
            int v = settings[0] == 3 ? a : a + a / 10;
            if (a != 0 && law != null) {
                v = PlainLaw.give(law, a, sum(shares), settings[0], some, hive, d);
            }
            then[one] = a == 0 ? 0 : Math.min(99, Math.max(0, v));
        }
        return then;
    }

    private boolean stings(int cell, int amount, int at) {
        return amount > 0 && apart(cell, at) <= amount / settings[1];
    }

    private static int apart(int cell, int other) {
        return Math.abs(cell % 10 - other % 10) + Math.abs(cell / 10 - other / 10);
    }

    private int far(int amount) {
        return amount == 0 ? NOT : amount / settings[1];
    }

    int later(int hp, int n) {
        boolean all = hp >= 0 && isHive(hp / 10) && in(hp % 10, 8, 9);
        if (!isHp(hp) && !all || !in(n, 0, 60)) {
            return BAD;
        }
        int[] shares = in[hp / 10];
        for (int d = 0; d < n; d++) {
            shares = dayLater(hp / 10, shares, d);
        }
        return hp % 10 == 9 ? sum(shares) : hp % 10 == 8 ? far(sum(shares)) : shares[hp % 10];
    }

    int still(int hive) {
        if (!isHive(hive)) {
            return BAD;
        }
        int[] shares = in[hive];
        for (int d = 0; d <= 99; d++) {
            int[] then = dayLater(hive, shares, d);
            if (Arrays.equals(then, shares)) {
                return d;
            }
            shares = then;
        }
        return NOT;
    }

    private boolean may(int deed, int temper) {
        return in(temper, deeds.get(deed)[0], deeds.get(deed)[1]);
    }

    private int deedsWith(int temper) {
        int bits = 0;
        for (int deed = 0; deed < deeds.size(); deed++) {
            bits |= may(deed, temper) ? 1 << deed : 0;
        }
        return bits;
    }

    int can(int one, int what) {
        if (!isOne(one) || !in(what, 0, 1)) {
            return BAD;
        }
        int bits = deedsWith(on.get(one));
        for (int hive = 0; hive < cells.size() && what == 1; hive++) {
            for (int v = -99; v <= 99; v++) {
                if (in(on.get(one) + v, 0, 99) && in(in[hive][one] - v, 0, 99)) {
                    bits |= deedsWith(on.get(one) + v);
                }
            }
        }
        return bits;
    }

    private List<Integer> roundOn(int shelf) {
        List<Integer> round = new ArrayList<>();
        for (byte deed : (byte[]) shelves[shelf]) {
            if (!in(deed, 0, deeds.size() - 1) || round.size() == 20) {
                break;
            }
            round.add((int) deed);
        }
        return round;
    }

    private int refusal(int shelf, Class<?> wanted) {
        return shelves[shelf] == null ? -11 : wanted.isInstance(shelves[shelf]) ? 0 : -12;
    }

    /** ON at each of them, or null; goings are told behind them. */
    private int[] planOf(List<Integer> round, int one) {
        int t = on.get(one);
        for (int[] shares : in) {
            t += shares[one];
        }
        int[] plan = new int[round.size() + 1];
        int now = on.get(one);
        for (int i = 0; i < round.size(); i++) {
            if (deeds.get(round.get(i))[0] > t) {
                return null;
            }
        }
        for (int i = 0; i < round.size(); i++) {
            if (!may(round.get(i), now)) {
                if (cells.isEmpty()) {
                    return null;
                }
                now = lowestThatLastsLongest(round.subList(i, round.size()), Math.min(99, t));
                plan[round.size()]++;
            }
            plan[i] = now;
        }
        return plan;
    }

    private int lowestThatLastsLongest(List<Integer> rest, int top) {
        int best = 0;
        int longest = 0;
        for (int v = 0; v <= top; v++) {
            int lasts = 0;
            while (lasts < rest.size() && may(rest.get(lasts), v)) {
                lasts++;
            }
            if (lasts > longest) {
                longest = lasts;
                best = v;
            }
        }
        return best;
    }

    int round(int shelf, int one, int k) {
        if (!in(shelf, 0, 5) || !isOne(one) || k < -1) {
            return BAD;
        }
        int refused = refusal(shelf, byte[].class);
        if (refused != 0) {
            return refused;
        }
        List<Integer> round = roundOn(shelf);
        int[] plan = planOf(round, one);
        return plan == null || k >= round.size() ? NOT : k == -1 ? plan[round.size()] : plan[k];
    }

    int without(int shelf, int one) {
        if (!in(shelf, 0, 5) || !isOne(one)) {
            return BAD;
        }
        int refused = refusal(shelf, byte[].class);
        if (refused != 0) {
            return refused;
        }
        return roundOn(shelf).stream().filter(d -> may(d, on.get(one))).mapToInt(d -> deeds.get(d)[2]).sum();
    }

    private int mostWorth;
    private int[] mostDoers;

    /** All ways to share the DEEDS out, in the order of the answers: the first with most WORTH is kept. */
    private void shareOut(int[] doers, int deed, int worth) {
        if (deed == deeds.size()) {
            if (worth > mostWorth) {
                mostWorth = worth;
                mostDoers = doers.clone();
            }
            return;
        }
        for (int one = 0; one < on.size(); one++) {
            int tried = one;
            if (may(deed, on.get(one)) && Arrays.stream(doers, 0, deed).noneMatch(doer -> doer == tried)) {
                doers[deed] = one;
                shareOut(doers, deed + 1, worth + deeds.get(deed)[2]);
            }
        }
        doers[deed] = NOT;
        shareOut(doers, deed + 1, worth);
    }

    int who(int k) {
        if (!in(k, -1, deeds.size() - 1)) {
            return BAD;
        }
        mostWorth = -1;
        shareOut(new int[deeds.size()], 0, 0);
        return k == -1 ? mostWorth : mostDoers[k];
    }

    int stung(int xy) {
        if (!in(xy, 0, 99)) {
            return BAD;
        }
        int bits = 0;
        for (int hive = 0; hive < cells.size(); hive++) {
            bits |= stings(cells.get(hive), sum(in[hive]), xy) ? 1 << hive : 0;
        }
        return bits;
    }

    private int[] stingsByCells() {
        int[] stings = new int[100];
        for (int xy = 0; xy < 100; xy++) {
            stings[xy] = Integer.bitCount(stung(xy));
        }
        return stings;
    }

    /** STINGS and steps of the way with fewest of a thousand times the STINGS and the steps, cells by cells asked again. */
    private static int price(int[] stings, int from, int to) {
        int[] prices = new int[100];
        Arrays.fill(prices, 1 << 29);
        prices[from] = 1000 * stings[from];
        for (boolean less = true; less;) {
            less = false;
            for (int xy = 0; xy < 100; xy++) {
                for (int side : new int[] {xy - 1, xy + 1, xy - 10, xy + 10}) {
                    if (in(side, 0, 99) && apart(side, xy) == 1 && prices[side] + 1000 * stings[xy] + 1 < prices[xy]) {
                        prices[xy] = prices[side] + 1000 * stings[xy] + 1;
                        less = true;
                    }
                }
            }
        }
        return prices[to];
    }

    int way(int from, int to) {
        if (!in(from, 0, 99) || !in(to, 0, 99)) {
            return BAD;
        }
        int price = price(stingsByCells(), from, to);
        return price >= 1000 ? NOT : price;
    }

    int least(int from, int to, int what) {
        if (!in(from, 0, 99) || !in(to, 0, 99) || !in(what, 0, 1)) {
            return BAD;
        }
        int price = price(stingsByCells(), from, to);
        return what == 0 ? price / 1000 : price % 1000;
    }

    int set(int ft, int v, int what) {
        if (!in(ft, 0, 9999) || !in(v, 0, 99) || !in(what, 0, 1)) {
            return BAD;
        }
        int way = way(ft / 100, ft % 100);
        int best = NOT;
        int most = NOT;
        for (int xy = 0; xy < 100 && way != NOT; xy++) {
            int[] then = stingsByCells();
            int many = 0;
            for (int cell = 0; cell < 100; cell++) {
                if (stings(xy, v, cell)) {
                    then[cell]++;
                    many++;
                }
            }
            if (many > most && price(then, ft / 100, ft % 100) == way) {
                best = xy;
                most = many;
            }
        }
        return what == 0 ? best : most;
    }

    // ---- tries, cheats, days

    private List<Integer> amounts(int shelf, int hive) {
        byte[] row = (byte[]) shelves[shelf];
        List<Integer> amounts = new ArrayList<>();
        for (int v = 0; v <= 99; v++) {
            boolean so = true;
            for (int i = 0; i + 2 < row.length && in(row[i], 0, 9) && in(row[i + 1], 0, 9) && in(row[i + 2], 0, 1); i += 3) {
                so &= stings(cells.get(hive), v, row[i] + 10 * row[i + 1]) == (row[i + 2] == 1);
            }
            if (so) {
                amounts.add(v);
            }
        }
        return amounts;
    }

    int tries(int shelf, int hive, int what) {
        if (!in(shelf, 0, 5) || !isHive(hive) || !in(what, 0, 2)) {
            return BAD;
        }
        int refused = refusal(shelf, byte[].class);
        if (refused != 0) {
            return refused;
        }
        List<Integer> amounts = amounts(shelf, hive);
        if (what == 0) {
            return amounts.size();
        }
        return amounts.isEmpty() ? NOT : amounts.get(what == 1 ? 0 : amounts.size() - 1);
    }

    int next(int shelf, int hive) {
        if (!in(shelf, 0, 5) || !isHive(hive)) {
            return BAD;
        }
        int refused = refusal(shelf, byte[].class);
        if (refused != 0) {
            return refused;
        }
        List<Integer> amounts = amounts(shelf, hive);
        int best = NOT;
        int least = amounts.size() + 1;
        for (int apart = 0; apart <= 18 && !amounts.isEmpty(); apart++) {
            int distance = apart;
            int stung = (int) amounts.stream().filter(v -> v > 0 && v / settings[1] >= distance).count();
            int greater = Math.max(stung, amounts.size() - stung);
            if (greater < least) {
                least = greater;
                best = apart;
            }
        }
        return best;
    }

    int leave(int what) {
        if (!in(what, 0, 1)) {
            return BAD;
        }
        int[] costs = new int[100];
        for (int v = 0; v <= 99; v++) {
            costs[v] = Math.max(0, settings[2] - v / 10) * settings[3] + v / 5 * 12;
        }
        int least = Arrays.stream(costs).min().getAsInt();
        int first = 0;
        while (costs[first] != least) {
            first++;
        }
        return what == 0 ? first : least;
    }

    int judge(int shelf) {
        if (!in(shelf, 0, 5)) {
            return BAD;
        }
        int refused = refusal(shelf, short[].class);
        if (refused != 0) {
            return refused;
        }
        short[] row = (short[]) shelves[shelf];
        for (int k = 0; 2 * k < row.length; k++) {
            boolean so = 2 * k + 1 < row.length && isOne(row[2 * k]) && on.get(row[2 * k]) == row[2 * k + 1];
            if (!so) {
                return k;
            }
        }
        return NOT;
    }

    int from(int one, int v) {
        if (!isOne(one) || !in(v, 1, 99)) {
            return BAD;
        }
        int bits = 0;
        for (int hive = 0; hive < cells.size(); hive++) {
            // Before it, ON was less by v and IN more by it: both as they may be.
            bits |= in(on.get(one) - v, 0, 99) && in(in[hive][one] + v, 0, 99) ? 1 << hive : 0;
        }
        return bits;
    }

    private int all() {
        return Arrays.stream(in).mapToInt(PlainLand::sum).sum();
    }

    int swarm(int what) {
        return !in(what, 0, 1) ? BAD : what == 0 ? all() : far(all());
    }

    int drawn(int seed, int nm, int what) {
        if (nm < 0 || !in(nm / 100, 1, 30) || !in(nm % 100, 1, 30) || !in(what, 0, 1)) {
            return BAD;
        }
        int z = seed;
        int[] told = new int[2];
        for (int month = 0; month < nm / 100; month++) {
            int[][] then = copy(in);
            for (int d = 0; d < nm % 100; d++) {
                z = z * 1103515245 + 12345;
                int cell = (z >>> 6) % 10 + 10 * ((z >>> 12) % 10);
                int stings = 0;
                for (int hive = 0; hive < cells.size(); hive++) {
                    stings += stings(cells.get(hive), sum(then[hive]), cell) ? 1 : 0;
                    then[hive] = dayLater(hive, then[hive], d);
                }
                told[0] += stings;
                told[1] += Math.min(1, stings);
            }
        }
        return told[what];
    }

    // ---- in deed

    int takes(int hp, int v) {
        if (!isHp(hp) || !in(v, 1, 99)) {
            return BAD;
        }
        int one = hp % 10;
        if (in[hp / 10][one] < v || on.get(one) + v > 99) {
            return STATE;
        }
        in[hp / 10][one] -= v;
        on.set(one, on.get(one) + v);
        led[0] += v;
        return on.get(one);
    }

    int puts(int hp, int v) {
        if (!isHp(hp) || !in(v, 1, 99)) {
            return BAD;
        }
        int one = hp % 10;
        if (on.get(one) < v || in[hp / 10][one] + v > 99) {
            return STATE;
        }
        in[hp / 10][one] += v;
        on.set(one, on.get(one) - v);
        led[1] += v;
        return in[hp / 10][one];
    }

    int day() {
        for (int hive = 0; hive < cells.size(); hive++) {
            in[hive] = dayLater(hive, in[hive], 0);
        }
        led[2]++;
        return all();
    }

    int does(int dp) {
        if (dp < 0 || dp / 10 >= deeds.size() || !isOne(dp % 10)) {
            return BAD;
        }
        int one = dp % 10;
        if (!may(dp / 10, on.get(one))) {
            return STATE;
        }
        on.set(one, on.get(one) - deeds.get(dp / 10)[0] / 2);
        led[3]++;
        led[4] += deeds.get(dp / 10)[2];
        return on.get(one);
    }

    int marry(int ab) {
        if (ab < 0 || !isOne(ab / 10) || !isOne(ab % 10) || ab / 10 == ab % 10) {
            return BAD;
        }
        int both = on.get(ab / 10) + on.get(ab % 10);
        on.set(ab / 10, both / 2);
        on.set(ab % 10, both / 2);
        int lesser = Math.min(ab / 10, ab % 10);
        on.set(lesser, on.get(lesser) + both % 2);
        led[5]++;
        return on.get(ab / 10);
    }

    int led(int what) {
        return in(what, 0, 5) ? led[what] : BAD;
    }

    int image() {
        imageOn = new ArrayList<>(on);
        imageIn = copy(in);
        imageLed = led.clone();
        return led[2];
    }

    int back() {
        if (imageOn == null) {
            return STATE;
        }
        for (int one = 0; one < imageOn.size(); one++) {
            on.set(one, imageOn.get(one));
        }
        in = copy(imageIn);
        led = imageLed.clone();
        return led[2];
    }

    int undo() {
        if (done.isEmpty()) {
            return STATE;
        }
        int[] change = done.remove(done.size() - 1);
        become(change[0], change[1], change[2]);
        undone.add(change);
        return done.size();
    }

    int redo() {
        if (undone.isEmpty()) {
            return STATE;
        }
        int[] change = undone.remove(undone.size() - 1);
        become(change[0], change[1], change[3]);
        done.add(change);
        return undone.size();
    }

    // ---- acts, shelves

    int body(int kind) {
        if (!in(kind, 0, 7)) {
            return BAD;
        }
        if (bodies.size() == 50) {
            return FULL;
        }
        bodies.add(PlainKinds.make(kind, bodies.size(), ran));
        return bodies.size() - 1;
    }

    int act(int body, int act, int x) {
        ran.clear();
        if (!in(body, 0, bodies.size() - 1)) {
            return 0;
        }
        PlainKinds.Swarm acts = bodies.get(body);
        return switch (act) {
            case 0 -> acts.keeps(x);
            case 1 -> acts.stings(x);
            case 2 -> acts.grows(x);
            case 3 -> acts.tells(x);
            default -> 0;
        };
    }

    int trace(int i) {
        return in(i, 0, Math.min(ran.size(), 24) - 1) ? ran.get(i) : BAD;
    }

    int keep(int shelf, int body) {
        if (!in(shelf, 0, 5) || !in(body, -1, bodies.size() - 1)) {
            return BAD;
        }
        shelves[shelf] = body == -1 ? null : bodies.get(body);
        return 1;
    }

    int row(int shelf, int sort, int n) {
        if (!in(shelf, 0, 5) || !in(sort, 0, 4) || n > 60) {
            return BAD;
        }
        if (n < 0) {
            return -14;
        }
        Class<?>[] sorts = {byte.class, short.class, int.class, long.class, boolean.class};
        shelves[shelf] = java.lang.reflect.Array.newInstance(sorts[sort], n);
        return 1;
    }

    private static int length(Object row) {
        return java.lang.reflect.Array.getLength(row);
    }

    int put(int shelf, int i, long v) {
        if (!in(shelf, 0, 5)) {
            return BAD;
        }
        Object row = shelves[shelf];
        if (row == null || row instanceof PlainKinds.Swarm) {
            return row == null ? -11 : -12;
        }
        if (!in(i, 0, length(row) - 1)) {
            return -13;
        }
        if (row instanceof byte[] bytes) {
            bytes[i] = (byte) v;
        } else if (row instanceof short[] shorts) {
            shorts[i] = (short) v;
        } else if (row instanceof int[] ints) {
            ints[i] = (int) v;
        } else if (row instanceof long[] longs) {
            longs[i] = v;
        } else if (row instanceof boolean[] booleans) {
            booleans[i] = v != 0;
        }
        return 1;
    }

    long element(int shelf, int i) {
        if (!in(shelf, 0, 5) || shelves[shelf] == null || shelves[shelf] instanceof PlainKinds.Swarm
            || !in(i, 0, length(shelves[shelf]) - 1)) {
            return Long.MIN_VALUE;
        }
        Object element = java.lang.reflect.Array.get(shelves[shelf], i);
        return element instanceof Boolean so ? so ? 1 : 0 : ((Number) element).longValue();
    }

    int shift(int shelf, int i, int other, int j, int n) {
        if (!in(shelf, 0, 5) || !in(other, 0, 5)) {
            return BAD;
        }
        if (shelves[shelf] == null || shelves[other] == null) {
            return -11;
        }
        if (!shelves[shelf].getClass().isArray() || shelves[shelf].getClass() != shelves[other].getClass()) {
            return -12;
        }
        try {
            System.arraycopy(shelves[shelf], i, shelves[other], j, n);
        } catch (IndexOutOfBoundsException e) {
            return -13;
        }
        return n;
    }

    int taken(int shelf, int k) {
        if (!in(shelf, 0, 5) || !in(k, 0, 7)) {
            return BAD;
        }
        if (shelves[shelf] == null) {
            return -11;
        }
        boolean so = shelves[shelf] instanceof PlainKinds.Swarm body && PlainKinds.isUnder(body, k);
        return so ? PlainKinds.kindOf((PlainKinds.Swarm) shelves[shelf]) : -12;
    }

    int count(int what) {
        int[] counts = {on.size(), cells.size(), deeds.size(), tape.length(), done.size(), bodies.size(), ran.size()};
        return in(what, 0, 6) ? counts[what] : BAD;
    }
}
