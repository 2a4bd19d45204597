import java.util.ArrayDeque;
import java.util.ArrayList;
import java.util.Arrays;
import java.util.List;
import java.util.Random;

/** Drawn lands: answers of the class against slow and plain reckonings that share nothing with it. */
public final class OracleTest {
    private static final int NOT = -2;
    private static final Due due = new Due("OracleTest");
    private static final Random random = new Random(20261118);

    public static void main(String[] args) {
        for (int i = 0; i < 300; i++) {
            Drawn land = new Drawn();
            String told = land.tellSomeLaw();
            land.askDays(told);
            land.askCan();
            land.askRound();
            land.askWho();
            land.askWays();
            land.askTries();
            land.askCheats();
        }
        for (int i = 0; i < 20000; i++) {
            askFault();
        }
        due.end();
    }

    // ---- the law, read by a machine of states, and worked out by splitting the text at its weakest sign

    /** The place of the first byte with which no text goes on; the length if it ends too early; -1 if it is a text. */
    static int fault(String text) {
        StringBuilder open = new StringBuilder(); // signs that are open: ( ! -
        StringBuilder compared = new StringBuilder("0"); // for each ( that is open, and the line: a comparison came
        boolean wantsPart = true;
        boolean answered = false; // a ? came on this line
        int digits = 0;
        for (int i = 0; i < text.length(); i++) {
            char c = text.charAt(i);
            int level = compared.length() - 1;
            if (wantsPart) {
                if (Character.isDigit(c) && c < 128 || "ansohd".indexOf(c) >= 0) {
                    digits = Character.isDigit(c) ? 1 : 0;
                    wantsPart = false;
                } else if ("(!-".indexOf(c) >= 0 && open.length() < 6) {
                    open.append(c);
                    if (c == '(') {
                        compared.append('0');
                    }
                } else {
                    return i;
                }
                if (!wantsPart) {
                    closeSigns(open);
                }
                continue;
            }
            if (c >= '0' && c <= '9' && digits >= 1 && digits < 4) {
                digits++;
                continue;
            }
            digits = 0;
            if (c == ')' && level > 0) {
                compared.setLength(level);
                open.setLength(open.length() - 1);
                closeSigns(open);
            } else if (c == ';' && level == 0) {
                compared.setCharAt(0, '0');
                answered = false;
                wantsPart = true;
            } else if (c == '?' && level == 0 && !answered) {
                compared.setCharAt(0, '0');
                answered = true;
                wantsPart = true;
            } else if ("|&".indexOf(c) >= 0) {
                compared.setCharAt(level, '0');
                wantsPart = true;
            } else if ("<=>".indexOf(c) >= 0 && compared.charAt(level) == '0') {
                compared.setCharAt(level, '1');
                wantsPart = true;
            } else if ("+-*/%".indexOf(c) >= 0) {
                wantsPart = true;
            } else {
                return i;
            }
        }
        return wantsPart || compared.length() > 1 ? text.length() : -1;
    }

    private static void closeSigns(StringBuilder open) {
        while (open.length() > 0 && open.charAt(open.length() - 1) != '(') {
            open.setLength(open.length() - 1);
        }
    }

    static int lawOf(String text, int[] names) {
        for (String line : text.split(";")) {
            int ask = line.indexOf('?');
            if (ask < 0) {
                return worth(line, names);
            }
            if (worth(line.substring(0, ask), names) != 0) {
                return worth(line.substring(ask + 1), names);
            }
        }
        return 0;
    }

    private static int worth(String e, int[] names) {
        String[] ranks = {"|", "&", "<=>", "+-", "*/%"};
        for (String rank : ranks) {
            int at = lastBetween(e, rank);
            if (at > 0) {
                return join(e.charAt(at), worth(e.substring(0, at), names), worth(e.substring(at + 1), names));
            }
        }
        char c = e.charAt(0);
        if (c == '!') {
            return worth(e.substring(1), names) == 0 ? 1 : 0;
        }
        if (c == '-') {
            return -worth(e.substring(1), names);
        }
        if (c == '(') {
            return worth(e.substring(1, e.length() - 1), names);
        }
        int name = "ansohd".indexOf(c);
        return name >= 0 ? names[name] : Integer.parseInt(e);
    }

    /** The last sign of a rank outside all ( ), that stands behind a part. */
    private static int lastBetween(String e, String rank) {
        int level = 0;
        for (int i = e.length() - 1; i > 0; i--) {
            char c = e.charAt(i);
            level += c == ')' ? 1 : c == '(' ? -1 : 0;
            if (level == 0 && rank.indexOf(c) >= 0 && "|&<=>+-*/%!(".indexOf(e.charAt(i - 1)) < 0) {
                return i;
            }
        }
        return -1;
    }

    private static int join(char sign, int l, int r) {
        return switch (sign) {
            case '|' -> l != 0 || r != 0 ? 1 : 0;
            case '&' -> l != 0 && r != 0 ? 1 : 0;
            case '<' -> l < r ? 1 : 0;
            case '=' -> l == r ? 1 : 0;
            case '>' -> l > r ? 1 : 0;
            case '+' -> l + r;
            case '-' -> l - r;
            case '*' -> l * r;
            case '/' -> r == 0 ? 0 : (int) ((long) l / r);
            default -> r == 0 ? 0 : (int) ((long) l % r);
        };
    }

    private static String drawE(int depth) {
        StringBuilder e = new StringBuilder(drawO(depth));
        int parts = random.nextInt(3);
        for (int i = 0; i < parts; i++) {
            e.append("|&<=>+-*/%".charAt(random.nextInt(10))).append(drawO(depth));
        }
        return e.toString();
    }

    private static String drawO(int depth) {
        int pick = random.nextInt(10);
        if (depth < 6 && pick == 0) {
            return "(" + drawE(depth + 1) + ")";
        }
        if (depth < 6 && pick == 1) {
            return "!" + drawO(depth + 1);
        }
        if (depth < 6 && pick == 2) {
            return "-" + drawO(depth + 1);
        }
        return pick < 6 ? String.valueOf("ansohd".charAt(random.nextInt(6))) : String.valueOf(random.nextInt(pick < 9 ? 30 : 10000));
    }

    private static String drawLaw() {
        StringBuilder law = new StringBuilder();
        int lines = 1 + random.nextInt(4);
        for (int i = 0; i < lines; i++) {
            law.append(i == 0 ? "" : ";").append(random.nextInt(2) == 0 ? "" : drawE(0) + "?").append(drawE(0));
        }
        return law.length() > 120 ? law.substring(0, 120) : law.toString();
    }

    private static void askFault() {
        StringBuilder text = new StringBuilder(drawLaw());
        String signs = "ansohd0123456789|&<=>+-*/%!(();?;? b";
        int hurts = random.nextInt(3);
        for (int i = 0; i < hurts; i++) {
            int at = random.nextInt(text.length() + 1);
            char c = signs.charAt(random.nextInt(signs.length()));
            if (random.nextInt(3) == 0) {
                text.setLength(at);
            } else if (random.nextBoolean() && text.length() < 120) {
                text.insert(at, c);
            } else if (at < text.length()) {
                text.setCharAt(at, c);
            }
        }
        int fault = fault(text.toString());
        due.is("law of " + text, Due.tell(new TemperInHive(), text.toString()), fault < 0 ? 1 : -100 - fault);
    }

    /** A land, held a second time. */
    private static final class Drawn {
        private final TemperInHive t = new TemperInHive();
        private final int[] on = new int[random.nextInt(7)];
        private final int[] cell = new int[random.nextInt(6)];
        private final int[][] in = new int[cell.length][on.length];
        private final int[][] deeds = new int[random.nextInt(11)][3];
        private final int season = random.nextInt(4);
        private final int reach = random.nextInt(3) == 0 ? 1 + random.nextInt(20) : 8 + random.nextInt(13);
        private String law = null;

        Drawn() {
            for (int p = 0; p < on.length; p++) {
                on[p] = random.nextInt(100);
                t.person(on[p]);
            }
            for (int h = 0; h < cell.length; h++) {
                cell[h] = random.nextInt(100);
                t.hive(cell[h]);
                for (int p = 0; p < on.length; p++) {
                    in[h][p] = random.nextInt(3) == 0 ? random.nextInt(100) : random.nextInt(12);
                    t.mend(10 * h + p, 1, in[h][p]);
                }
            }
            for (int d = 0; d < deeds.length; d++) {
                deeds[d][0] = random.nextInt(70);
                deeds[d][1] = Math.min(99, deeds[d][0] + random.nextInt(60));
                deeds[d][2] = random.nextInt(6);
                t.deed(deeds[d][0], deeds[d][1]);
                t.mend(d, 5, deeds[d][2]);
            }
            t.mend(0, 6, season);
            t.mend(0, 7, reach);
        }

        String tellSomeLaw() {
            if (random.nextInt(4) == 0) {
                return "no law";
            }
            String text = drawLaw();
            if (random.nextBoolean()) {
                text = "a+" + random.nextInt(9) + "-d%" + random.nextInt(9) + "+n/" + (20 + random.nextInt(200));
            }
            if (fault(text) < 0) {
                due.is("told " + text, Due.tell(t, text), 1);
                law = text;
            }
            return text;
        }

        private int[][] copy() {
            int[][] c = new int[in.length][];
            for (int h = 0; h < in.length; h++) {
                c[h] = in[h].clone();
            }
            return c;
        }

        private int[] dayLater(int[] was, int h, int d) {
            int n = Arrays.stream(was).sum();
            int o = (int) Arrays.stream(was).filter(a -> a > 0).count();
            int[] then = new int[was.length];
            for (int p = 0; p < was.length; p++) {
                int a = was[p];
                int v = law == null ? a + (season == 3 ? 0 : a / 10) : lawOf(law, new int[] {a, n, season, o, h, d});
                then[p] = a == 0 ? 0 : Math.max(0, Math.min(99, v));
            }
            return then;
        }

        private boolean stings(int[] inIt, int h, int x, int y) {
            int n = Arrays.stream(inIt).sum();
            return n > 0 && Math.abs(cell[h] % 10 - x) + Math.abs(cell[h] / 10 - y) <= n / reach;
        }

        void askDays(String told) {
            for (int h = 0; h < cell.length; h++) {
                int days = random.nextInt(61);
                int[] then = in[h];
                int still = NOT;
                for (int d = 0; d < 100; d++) {
                    if (d == days) {
                        int n = Arrays.stream(then).sum();
                        due.is("all later by " + told, t.later(10 * h + 9, d), n);
                        due.is("far later by " + told, t.later(10 * h + 8, d), n == 0 ? NOT : n / reach);
                        for (int p = 0; p < on.length; p++) {
                            due.is("later by " + told, t.later(10 * h + p, d), then[p]);
                        }
                    }
                    int[] next = dayLater(then, h, d);
                    if (still == NOT && Arrays.equals(next, then)) {
                        still = d;
                    }
                    then = next;
                }
                due.is("still by " + told, t.still(h), still);
            }
            askDrawn(told);
            askDay(told);
        }

        private void askDrawn(String told) {
            int seed = random.nextInt();
            int months = 1 + random.nextInt(30);
            int days = 1 + random.nextInt(30);
            int z = seed;
            int all = 0;
            int stungDays = 0;
            for (int month = 0; month < months; month++) {
                int[][] now = copy();
                for (int d = 0; d < days; d++) {
                    z = z * 1103515245 + 12345;
                    int here = 0;
                    for (int h = 0; h < cell.length; h++) {
                        here += stings(now[h], h, (z >>> 6) % 10, (z >>> 12) % 10) ? 1 : 0;
                        now[h] = dayLater(now[h], h, d);
                    }
                    all += here;
                    stungDays += here > 0 ? 1 : 0;
                }
            }
            due.is("drawn by " + told, t.drawn(seed, 100 * months + days, 0), all);
            due.is("days drawn by " + told, t.drawn(seed, 100 * months + days, 1), stungDays);
        }

        /** A day in deed, and the image from ahead of it laid back. */
        private void askDay(String told) {
            int all = 0;
            for (int h = 0; h < cell.length; h++) {
                all += Arrays.stream(dayLater(in[h], h, 0)).sum();
            }
            t.image();
            due.is("day by " + told, t.day(), all);
            for (int h = 0; h < cell.length; h++) {
                int[] then = dayLater(in[h], h, 0);
                for (int p = 0; p < on.length; p++) {
                    due.is("of behind a day by " + told, t.of(10 * h + p, 1), then[p]);
                }
            }
            t.back();
        }

        private boolean may(int d, int temper) {
            return deeds[d][0] <= temper && temper <= deeds[d][1];
        }

        void askCan() {
            for (int p = 0; p < on.length; p++) {
                int now = 0;
                int by = 0;
                for (int d = 0; d < deeds.length; d++) {
                    now |= may(d, on[p]) ? 1 << d : 0;
                    by |= may(d, on[p]) ? 1 << d : 0;
                    for (int h = 0; h < cell.length; h++) {
                        for (int v = -99; v <= 99; v++) {
                            boolean held = on[p] + v >= 0 && on[p] + v <= 99 && in[h][p] - v >= 0 && in[h][p] - v <= 99;
                            by |= held && may(d, on[p] + v) ? 1 << d : 0;
                        }
                    }
                }
                due.is("can now", t.can(p, 0), now);
                due.is("can by a hive", t.can(p, 1), by);
            }
        }

        void askRound() {
            for (int p = 0; p < on.length; p++) {
                long[] row = new long[random.nextInt(30)];
                for (int i = 0; i < row.length; i++) {
                    row[i] = random.nextInt(40) == 0 ? 11 : random.nextInt(Math.max(1, deeds.length));
                }
                Due.lay(t, 0, 0, row);
                List<Integer> deedRow = new ArrayList<>();
                for (int i = 0; i < row.length && i < 20 && row[i] < deeds.length; i++) {
                    deedRow.add((int) row[i]);
                }
                askRoundOf(p, deedRow);
            }
        }

        /** Fewest goings from each place on with each ON, from the back; then the way that goes late and sets low. */
        private void askRoundOf(int p, List<Integer> row) {
            int all = on[p];
            int worth = 0;
            for (int[] hive : in) {
                all += hive[p];
            }
            for (int d : row) {
                worth += may(d, on[p]) ? deeds[d][2] : 0;
            }
            due.is("without", t.without(0, p), worth);
            int top = Math.min(99, all);
            int far = 1000000;
            int[][] fewest = new int[row.size() + 1][100];
            for (int i = row.size() - 1; i >= 0; i--) {
                int afresh = far;
                for (int v = 0; v <= top; v++) {
                    afresh = may(row.get(i), v) ? Math.min(afresh, 1 + fewest[i + 1][v]) : afresh;
                }
                for (int v = 0; v < 100; v++) {
                    int staying = may(row.get(i), v) ? fewest[i + 1][v] : far;
                    fewest[i][v] = Math.min(staying, cell.length == 0 ? far : afresh);
                }
            }
            boolean none = fewest[0][on[p]] >= far;
            due.is("round", t.round(0, p, -1), none ? NOT : fewest[0][on[p]]);
            due.is("round's end", t.round(0, p, row.size()), NOT);
            int now = on[p];
            for (int i = 0; i < row.size(); i++) {
                // He stays as long as he may, whatever comes: going later never costs more goings.
                if (!none && !may(row.get(i), now)) {
                    now = lowestForMost(row, i, top);
                }
                due.is("ON at " + i, t.round(0, p, i), none ? NOT : now);
            }
        }

        private int lowestForMost(List<Integer> row, int start, int top) {
            int best = -1;
            int bestRun = 0;
            for (int v = 0; v <= top; v++) {
                int run = 0;
                while (start + run < row.size() && may(row.get(start + run), v)) {
                    run++;
                }
                if (run > bestRun) {
                    best = v;
                    bestRun = run;
                }
            }
            return best;
        }

        private int[] bestDoers;
        private int bestWorth;

        void askWho() {
            int many = Math.min(deeds.length, 6);
            if (deeds.length > many) {
                return; // too many to go through
            }
            bestDoers = null;
            bestWorth = -1;
            goThrough(new int[many], 0, 0, 0);
            due.is("who", t.who(-1), bestWorth);
            for (int k = 0; k < many; k++) {
                due.is("who does " + k, t.who(k), bestDoers[k] == on.length ? NOT : bestDoers[k]);
            }
        }

        /** In the order of the answers, so that the first with most worth is the one. */
        private void goThrough(int[] doers, int k, int busy, int worth) {
            if (k == doers.length) {
                if (worth > bestWorth) {
                    bestWorth = worth;
                    bestDoers = doers.clone();
                }
                return;
            }
            for (int p = 0; p < on.length; p++) {
                if ((busy >> p & 1) == 0 && may(k, on[p])) {
                    doers[k] = p;
                    goThrough(doers, k + 1, busy | 1 << p, worth + deeds[k][2]);
                }
            }
            doers[k] = on.length;
            goThrough(doers, k + 1, busy, worth);
        }

        private int wayPast(boolean[] shut, int from, int to) {
            int[] steps = new int[100];
            Arrays.fill(steps, NOT);
            ArrayDeque<Integer> open = new ArrayDeque<>();
            if (!shut[from]) {
                steps[from] = 0;
                open.add(from);
            }
            while (!open.isEmpty()) {
                int c = open.poll();
                for (int other = 0; other < 100; other++) {
                    boolean beside = Math.abs(c % 10 - other % 10) + Math.abs(c / 10 - other / 10) == 1;
                    if (beside && !shut[other] && steps[other] == NOT) {
                        steps[other] = steps[c] + 1;
                        open.add(other);
                    }
                }
            }
            return steps[to];
        }

        void askWays() {
            int[] many = new int[100];
            boolean[] shut = new boolean[100];
            for (int c = 0; c < 100; c++) {
                int bits = 0;
                for (int h = 0; h < cell.length; h++) {
                    bits |= stings(in[h], h, c % 10, c / 10) ? 1 << h : 0;
                }
                due.is("stung " + c, t.stung(c), bits);
                many[c] = Integer.bitCount(bits);
                shut[c] = bits != 0;
            }
            for (int i = 0; i < 6; i++) {
                int from = random.nextInt(100);
                int to = random.nextInt(100);
                int way = wayPast(shut, from, to);
                due.is("way", t.way(from, to), way);
                askLeast(many, from, to);
                if (i < 2) {
                    askSet(shut, from, to, way, random.nextInt(100));
                }
            }
        }

        /** Every cell asks its sides again till nothing grows less. */
        private void askLeast(int[] many, int from, int to) {
            long[] price = new long[100];
            Arrays.fill(price, Long.MAX_VALUE / 2);
            price[from] = many[from] * 100000L;
            boolean less = true;
            while (less) {
                less = false;
                for (int c = 0; c < 100; c++) {
                    for (int other = 0; other < 100; other++) {
                        boolean beside = Math.abs(c % 10 - other % 10) + Math.abs(c / 10 - other / 10) == 1;
                        if (beside && price[other] + many[c] * 100000L + 1 < price[c]) {
                            price[c] = price[other] + many[c] * 100000L + 1;
                            less = true;
                        }
                    }
                }
            }
            due.is("least stings", t.least(from, to, 0), price[to] / 100000);
            due.is("least steps", t.least(from, to, 1), price[to] % 100000);
        }

        private void askSet(boolean[] shut, int from, int to, int way, int v) {
            int best = NOT;
            int most = NOT;
            for (int c = 0; c < 100 && way != NOT; c++) {
                boolean[] then = shut.clone();
                int stung = 0;
                for (int other = 0; other < 100; other++) {
                    int apart = Math.abs(c % 10 - other % 10) + Math.abs(c / 10 - other / 10);
                    if (v > 0 && apart <= v / reach) {
                        then[other] = true;
                        stung++;
                    }
                }
                if (stung > most && wayPast(then, from, to) == way) {
                    best = c;
                    most = stung;
                }
            }
            due.is("set", t.set(100 * from + to, v, 0), best);
            due.is("set in how many", t.set(100 * from + to, v, 1), most);
        }

        void askTries() {
            for (int h = 0; h < cell.length; h++) {
                int truly = random.nextInt(100);
                long[] row = new long[random.nextInt(20)];
                for (int i = 0; i + 2 < row.length; i += 3) {
                    row[i] = random.nextInt(10);
                    row[i + 1] = random.nextInt(10);
                    int apart = (int) (Math.abs(cell[h] % 10 - row[i]) + Math.abs(cell[h] / 10 - row[i + 1]));
                    boolean stung = truly > 0 && apart <= truly / reach;
                    row[i + 2] = random.nextInt(20) == 0 ? random.nextInt(3) : stung ? 1 : 0;
                }
                Due.lay(t, 1, 0, row);
                List<Integer> so = new ArrayList<>();
                for (int v = 0; v < 100; v++) {
                    if (makesSo(row, h, v)) {
                        so.add(v);
                    }
                }
                due.is("tries", t.tries(1, h, 0), so.size());
                due.is("tries least", t.tries(1, h, 1), so.isEmpty() ? NOT : so.get(0));
                due.is("tries greatest", t.tries(1, h, 2), so.isEmpty() ? NOT : so.get(so.size() - 1));
                due.is("next", t.next(1, h), nextTry(so));
            }
        }

        private boolean makesSo(long[] row, int h, int v) {
            for (int i = 0; i + 2 < row.length; i += 3) {
                if (row[i + 2] > 1) {
                    return true;
                }
                long apart = Math.abs(cell[h] % 10 - row[i]) + Math.abs(cell[h] / 10 - row[i + 1]);
                if ((v > 0 && apart <= v / reach) != (row[i + 2] == 1)) {
                    return false;
                }
            }
            return true;
        }

        private int nextTry(List<Integer> so) {
            int best = NOT;
            int part = 1000;
            for (int apart = 0; apart <= 18 && !so.isEmpty(); apart++) {
                int sting = 0;
                for (int v : so) {
                    sting += v > 0 && apart <= v / reach ? 1 : 0;
                }
                if (Math.max(sting, so.size() - sting) < part) {
                    part = Math.max(sting, so.size() - sting);
                    best = apart;
                }
            }
            return best;
        }

        void askCheats() {
            int fear = random.nextInt(13);
            int loss = random.nextInt(100);
            t.mend(0, 8, fear);
            t.mend(0, 9, loss);
            int best = -1;
            int cost = Integer.MAX_VALUE;
            for (int v = 0; v < 100; v++) {
                int cheated = fear - v / 10 < 0 ? 0 : (fear - v / 10) * loss;
                if (cheated + v / 5 * 12 < cost) {
                    cost = cheated + v / 5 * 12;
                    best = v;
                }
            }
            due.is("leave", t.leave(0), best);
            due.is("leave costs", t.leave(1), cost);
        }
    }
}
