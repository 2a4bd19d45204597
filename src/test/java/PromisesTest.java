import java.util.Arrays;

/** Each promise of the document by hand: ordinary inputs, the edges that it names, wrong inputs. */
public final class PromisesTest {
    private static final int BAD = -1, NOT = -2, FULL = -3, STATE = -5;
    private static final int MAX = Integer.MAX_VALUE, MIN = Integer.MIN_VALUE;
    private static final int BYTES = 0, SHORTS = 1, INTS = 2, LONGS = 3, BOOLEANS = 4;
    private static final Due due = new Due("PromisesTest");

    public static void main(String[] args) {
        newObject();
        person();
        hive();
        deed();
        deeds();
        mend();
        mendRefuses();
        of();
        feed();
        lawFaults();
        lawValues();
        later();
        still();
        can();
        round();
        without();
        who();
        stung();
        way();
        least();
        set();
        tries();
        next();
        leave();
        judge();
        from();
        swarm();
        drawn();
        takes();
        puts();
        day();
        does();
        marry();
        led();
        imageAndBack();
        undoAndRedo();
        body();
        act();
        trace();
        keep();
        row();
        putAndElement();
        shift();
        taken();
        count();
        due.end();
    }

    private static TemperInHive fresh() {
        return new TemperInHive();
    }

    /** One person, one hive in the middle of the land's upper left part. */
    private static TemperInHive oneAndHive(int on, int xy, int in) {
        TemperInHive t = fresh();
        t.person(on);
        t.hive(xy);
        t.mend(0, 1, in);
        return t;
    }

    private static void newObject() { // promise 1
        TemperInHive t = fresh();
        for (int what = 0; what <= 6; what++) {
            due.is("1: count(" + what + ") of a new one", t.count(what), 0);
        }
        int[] settings = {0, 10, 6, 20};
        for (int i = 0; i < 4; i++) {
            due.is("1: of(0, " + (6 + i) + ")", t.of(0, 6 + i), settings[i]);
        }
        for (int shelf = 0; shelf < 6; shelf++) {
            due.is("1: an empty shelf", t.put(shelf, 0, 1), -11);
        }
        for (int what = 0; what < 6; what++) {
            due.is("1: led(" + what + ")", t.led(what), 0);
        }
        due.is("1: no image", t.back(), STATE);
        due.is("1: nothing to undo", t.undo(), STATE);
        due.is("1: nothing to do again", t.redo(), STATE);
    }

    private static void person() { // promise 2
        TemperInHive t = fresh();
        due.is("2: 100", t.person(100), BAD);
        due.is("2: -1", t.person(-1), BAD);
        for (int i = 0; i < 6; i++) {
            due.is("2: the " + i + "-th", t.person(i == 0 ? 99 : i == 1 ? 0 : 10 * i), i);
        }
        due.is("2: full", t.person(5), FULL);
        due.is("2: bad ahead of full", t.person(100), BAD);
        due.is("2: on of 0", t.of(0, 0), 99);
        due.is("2: on of 1", t.of(1, 0), 0);
        due.is("2: on of 5", t.of(5, 0), 50);
        due.is("2: count", t.count(0), 6);
    }

    private static void hive() { // promise 3
        TemperInHive t = fresh();
        due.is("3: 100", t.hive(100), BAD);
        due.is("3: -1", t.hive(-1), BAD);
        for (int i = 0; i < 5; i++) {
            due.is("3: the " + i + "-th", t.hive(i == 4 ? 99 : i), i);
        }
        due.is("3: full", t.hive(0), FULL);
        due.is("3: bad ahead of full", t.hive(100), BAD);
        due.is("3: its cell", t.of(4, 2), 99);
        t.person(3);
        due.is("3: nothing in it", t.of(40, 1), 0);
        due.is("3: two in one cell", fresh2hives(), 1);
    }

    private static int fresh2hives() {
        TemperInHive t = fresh();
        t.hive(7);
        return t.hive(7);
    }

    private static void deed() { // promise 4
        TemperInHive t = fresh();
        due.is("4: needs above most", t.deed(6, 5), BAD);
        due.is("4: most 100", t.deed(6, 100), BAD);
        due.is("4: needs -1", t.deed(-1, 100), BAD);
        for (int i = 0; i < 10; i++) {
            due.is("4: the " + i + "-th", t.deed(i, i), i);
        }
        due.is("4: full", t.deed(0, 0), FULL);
        due.is("4: bad ahead of full", t.deed(1, 0), BAD);
        due.is("4: needs", t.of(9, 3), 9);
        due.is("4: most", t.of(9, 4), 9);
        due.is("4: worth", t.of(9, 5), 10);
    }

    private static void deeds() { // promise 5
        TemperInHive t = fresh();
        Due.lay(t, 0, BYTES, 1, 2, 3, 4, 5, 6, 7, 8, 9, 3, 2, 1, 0, 0, 0);
        due.is("5: n 0", t.deeds(0, 0, 0), BAD);
        due.is("5: n 11", t.deeds(0, 0, 11), BAD);
        due.is("5: shelf 6", t.deeds(6, 0, 1), BAD);
        due.is("5: shelf -1", t.deeds(-1, 0, 1), BAD);
        due.is("5: i below 0", t.deeds(0, -3, 2), 0);
        due.is("5: i least", t.deeds(0, MIN, 10), 0);
        due.is("5: i greatest", t.deeds(0, MAX, 10), 0);
        due.is("5: i behind the end", t.deeds(0, 15, 1), 0);
        due.is("5: ends within a three", t.deeds(0, 13, 1), 0);
        due.is("5: nothing is missing", t.deeds(1, 0, 1), 0);
        due.is("5: one of two", t.deeds(0, 3, 1), 1);
        due.is("5: till one is not as it may be", t.deeds(0, 0, 10), 3);
        due.is("5: count", t.count(2), 4);
        due.is("5: needs of 0", t.of(0, 3), 4);
        due.is("5: most of 0", t.of(0, 4), 5);
        due.is("5: worth of 0", t.of(0, 5), 6);
        due.is("5: worth of 3", t.of(3, 5), 9);
        due.is("5: none is a change", t.count(4), 0);
        Due.lay(t, 0, BYTES, 0, 99, 100, -1, 5, 5, 0, -56, 5);
        due.is("5: worth 100", t.deeds(0, 0, 1), 0);
        due.is("5: needs -1", t.deeds(0, 3, 1), 0);
        due.is("5: most below 0", t.deeds(0, 6, 1), 0);
        Due.lay(t, 0, BYTES, new long[30]);
        due.is("5: till full", t.deeds(0, 0, 10), 6);
        due.is("5: full", t.deeds(0, 0, 1), 0);
        t.row(2, SHORTS, 3);
        due.is("5: shorts", t.deeds(2, 0, 1), -12);
        due.is("5: shorts ahead of i below 0", t.deeds(2, -1, 1), -12);
        due.is("5: bad ahead of shorts", t.deeds(2, -1, 0), BAD);
        t.body(0);
        t.keep(3, 0);
        due.is("5: a body", t.deeds(3, 0, 1), -12);
    }

    private static TemperInHive mended() {
        TemperInHive t = oneAndHive(20, 44, 25);
        t.person(30);
        t.hive(0);
        t.deed(10, 20);
        return t;
    }

    private static void mend() { // promise 6
        TemperInHive t = mended();
        int[][] rows = { // number, what, v, what it was
            {0, 0, 99, 20}, {1, 0, 0, 30}, {0, 1, 99, 25}, {11, 1, 7, 0}, {0, 2, 99, 44}, {1, 2, 5, 0},
            {0, 3, 20, 10}, {0, 3, 0, 20}, {0, 4, 99, 20}, {0, 4, 0, 99}, {0, 5, 99, 10}, {0, 5, 0, 99},
            {0, 6, 3, 0}, {0, 6, 0, 3}, {0, 7, 1, 10}, {0, 7, 20, 1}, {0, 8, 12, 6}, {0, 8, 0, 12},
            {0, 9, 99, 20}, {0, 9, 0, 99},
        };
        for (int[] r : rows) {
            String call = "6: mend(" + r[0] + ", " + r[1] + ", " + r[2] + ")";
            due.is(call, t.mend(r[0], r[1], r[2]), r[3]);
            due.is(call + " then of", t.of(r[0], r[1]), r[2]);
        }
        due.is("6: changes", t.count(4), rows.length + 1);
        due.is("6: the same", t.mend(0, 9, 0), 0);
        due.is("6: no change", t.count(4), rows.length + 1);
    }

    private static void mendRefuses() {
        TemperInHive t = mended();
        int before = t.count(4);
        int[][] rows = {
            {0, 0, 100}, {0, 0, -1}, {2, 0, 1}, {-1, 0, 1}, {0, 1, 100}, {0, 1, -1}, {2, 1, 1}, {20, 1, 1},
            {-1, 1, 1}, {-10, 1, 1}, {9, 1, 1}, {8, 1, 1}, {2, 2, 1}, {-1, 2, 1}, {0, 2, 100}, {0, 2, -1},
            {0, 3, 21}, {0, 3, -1}, {1, 3, 1}, {-1, 3, 1}, {0, 4, 9}, {0, 4, 100}, {1, 4, 1}, {0, 5, 100},
            {0, 5, -1}, {1, 5, 1}, {0, 6, 4}, {0, 6, -1}, {1, 6, 1}, {-1, 6, 1}, {0, 7, 0}, {0, 7, 21},
            {1, 7, 5}, {0, 8, 13}, {0, 8, -1}, {1, 8, 1}, {0, 9, 100}, {0, 9, -1}, {1, 9, 1}, {0, 10, 1},
            {0, -1, 1}, {MAX, 0, 1}, {MIN, 1, 1}, {0, MAX, 1}, {0, MIN, 1}, {MAX, 1, 1}, {MIN, 2, 1}, {MAX, 3, 1},
        };
        for (int[] r : rows) {
            due.is("6: mend(" + r[0] + ", " + r[1] + ", " + r[2] + ")", t.mend(r[0], r[1], r[2]), BAD);
        }
        due.is("6: nothing changed", t.count(4), before);
        due.is("6: on", t.of(0, 0), 20);
        due.is("6: most", t.of(0, 4), 20);
    }

    private static void of() { // promise 7
        TemperInHive t = mended();
        int[] want = {20, 25, 44, 10, 20, 10, 0, 10, 6, 20};
        for (int what = 0; what < 10; what++) {
            due.is("7: of(0, " + what + ")", t.of(0, what), want[what]);
        }
        int[][] bad = {{0, -1}, {0, 10}, {2, 0}, {-1, 0}, {2, 1}, {20, 1}, {-1, 1}, {9, 1}, {2, 2}, {1, 3}, {1, 4},
            {1, 5}, {1, 6}, {1, 7}, {1, 8}, {-1, 9}, {MIN, 1}, {MAX, 1}, {MIN, 5}};
        for (int[] r : bad) {
            due.is("7: of(" + r[0] + ", " + r[1] + ")", t.of(r[0], r[1]), BAD);
        }
    }

    private static void feed() { // promise 8
        TemperInHive t = fresh();
        due.is("8: -1", t.feed(-1), BAD);
        due.is("8: 256", t.feed(256), BAD);
        due.is("8: 0", t.feed(0), 1);
        due.is("8: 255", t.feed(255), 2);
        for (int i = 3; i <= 120; i++) {
            due.is("8: the " + i + "-th", t.feed('1'), i);
        }
        due.is("8: full", t.feed('1'), FULL);
        due.is("8: bad ahead of full", t.feed(256), BAD);
        due.is("8: count", t.count(3), 120);
        due.is("8: law", t.law(), -100);
        due.is("8: empty then", t.count(3), 0);
        due.is("8: again", t.feed('a'), 1);
    }

    private static void lawFaults() { // promise 9
        Object[][] rows = {
            {"a", 1}, {"", -100}, {"9999", 1}, {"99999", -104}, {"a;", -102}, {";", -100}, {"a;;a", -102},
            {"a?", -102}, {"a?a", 1}, {"a?a?a", -103}, {"?a", -100}, {"a<n", 1}, {"a<n<s", -103}, {"a=n>s", -103},
            {"(a<n)<s", 1}, {"a<n&n<s|o=h", 1}, {"a a", -101}, {"aa", -101}, {"a1", -101}, {"1a", -101}, {"b", -100},
            {"a+", -102}, {"a+*n", -102}, {"a--n", 1}, {"a+-n", 1}, {"!a", 1}, {"a!", -101}, {"a!n", -101},
            {"((((((a))))))", 1}, {"(((((((a", -106}, {"!!!!!!a", 1}, {"!!!!!!!a", -106}, {"------a", 1},
            {"-------a", -106}, {"(-!(-!a))", 1}, {"(-!(-!(a)))", -106},
            {"a)", -101}, {"(a", -102}, {"()", -101}, {"(a?a)", -102}, {"(a;a)", -102}, {"a?a;n?n;1", 1}, {"a?(n)", 1},
            {"a-((((((1))))))", 1}, {"-a*-a", 1}, {"(((((-a)))))+((((((a))))))", 1}, {"a\u00e9", -101}, {"A", -100},
            {"a%n/s*o", 1}, {"a==n", -102}, {"a?((((((1))))))", 1}, {"a?n|s", 1}, {"1;a?n&s|o<h;2", 1}, {"a<=n", -102}, {"0000", 1}, {"00000", -104}, {"d", 1}, {"h", 1},
        };
        for (Object[] r : rows) {
            String text = (String) r[0];
            int want = (Integer) r[1];
            TemperInHive t = fresh();
            due.is("9: law of " + text, Due.tell(t, text), want);
            due.is("9: tape empty behind " + text, t.count(3), 0);
        }
        TemperInHive t = oneAndHive(20, 44, 50);
        Due.tell(t, "7");
        due.is("9: a fault", Due.tell(t, "9+"), -102);
        due.is("9: leaves the law", t.later(0, 1), 7);
        StringBuilder full = new StringBuilder("1");
        while (full.length() < 119) {
            full.append("+0");
        }
        due.is("9: 119 bytes", Due.tell(t, full.toString()), 1);
        due.is("9: its worth", t.later(0, 1), 1);
        due.is("9: 120 bytes that end too early", Due.tell(t, full + "+"), -220);
        due.is("9: ;s", Due.tell(t, "0?1;0?2;0?3;4"), 1);
        due.is("9: the last line", t.later(0, 1), 4);
    }

    private static void lawValues() {
        Object[][] rows = { // by a 50, n 80, s 2, o 2, h 1, d 0 ahead of the first day
            {"a", 50}, {"n", 80}, {"s", 2}, {"o", 2}, {"h", 1}, {"d", 0}, {"n-a", 30}, {"2+3*4", 14}, {"(2+3)*4", 20},
            {"20-3-4", 13}, {"80/4/5", 4}, {"17%5", 2}, {"17%5*10", 20}, {"-17/5+10", 7}, {"-17%5+10", 8},
            {"9/0+5", 5}, {"9%0+5", 5}, {"(1|0)+(0|0)*10+(3|0)*20", 21}, {"(2&4)+(2&0)*10+(0&2)*20", 1},
            {"(1<2)+(2<1)*2+(2=2)*4+(2>1)*8+(1>2)*16", 13}, {"!0+!5*2+!-1*4", 1}, {"5|0&0", 1}, {"5&0|7", 1},
            {"1+1=2", 1}, {"3&4", 1}, {"0|0", 0}, {"200", 99}, {"-5", 0}, {"9999*9999*9999*9999>0", 1}, {"9999*9999*9999>0", 0},
            {"9999*9999*50>0", 1}, {"9999*9999*30>0", 0}, {"0?7", 0}, {"3?7", 7}, {"0?7;8", 8}, {"0?7;1?9;8", 9}, {"0?7;0?9", 0}, {"5;6", 5},
            {"-1?6", 6}, {"0-1?6;7", 6}, {"a>50?1;a=50?2;3", 2}, {"1|1?4;5", 4}, {"--5", 5}, {"-!0+5", 4}, {"!!7", 1},
            {"9999*9999%97", 64}, {"(((((50)))))/7", 7},
        };
        for (Object[] r : rows) {
            TemperInHive t = fresh();
            t.person(0);
            t.person(0);
            t.hive(0);
            t.hive(5);
            t.mend(10, 1, 50);
            t.mend(11, 1, 30);
            t.mend(0, 6, 2);
            int told = Due.tell(t, (String) r[0]);
            due.is("9: told " + r[0], told, 1);
            due.is("9: worth of " + r[0], t.later(10, 1), (Integer) r[1]);
        }
    }

    private static void later() { // promise 10
        TemperInHive t = oneAndHive(0, 33, 50);
        t.person(0);
        t.mend(1, 1, 9);
        due.is("10: now", t.later(0, 0), 50);
        due.is("10: a by 10 more", t.later(0, 1), 55);
        due.is("10: twice", t.later(0, 2), 60);
        due.is("10: 9 stays", t.later(1, 60), 9);
        due.is("10: held", t.later(0, 60), 99);
        due.is("10: all", t.later(9, 1), 64);
        due.is("10: how far", t.later(8, 2), 6);
        t.mend(0, 6, 3);
        due.is("10: season 3", t.later(0, 60), 50);
        Due.tell(t, "n-a");
        due.is("10: all are asked by what was", t.later(0, 1), 9);
        due.is("10: the other", t.later(1, 1), 50);
        Due.tell(t, "0");
        due.is("10: nowhere", t.later(8, 1), NOT);
        Due.tell(t, "99");
        t.mend(1, 1, 0);
        due.is("10: 0 stays 0", t.later(1, 1), 0);
        Due.tell(t, "d+1");
        due.is("10: d 0 on the first day", t.later(0, 1), 1);
        due.is("10: d 4 on the fifth", t.later(0, 5), 5);
        Due.tell(t, "o*10+h+s");
        due.is("10: o, h, s", t.later(0, 1), 13);
        due.is("10: it changes nothing", t.of(0, 1), 50);
        int[][] bad = {{0, -1}, {0, 61}, {2, 0}, {7, 0}, {6, 0}, {10, 0}, {18, 0}, {19, 0}, {-1, 0}, {-9, 0}, {-10, 0},
            {MIN, 0}, {MAX, 0}, {0, MAX}, {0, MIN}};
        for (int[] r : bad) {
            due.is("10: later(" + r[0] + ", " + r[1] + ")", t.later(r[0], r[1]), BAD);
        }
        TemperInHive nobody = fresh();
        nobody.hive(0);
        due.is("10: all without people", nobody.later(9, 60), 0);
        due.is("10: far without people", nobody.later(8, 60), NOT);
        due.is("10: nobody", nobody.later(0, 0), BAD);
    }

    private static void still() { // promise 11
        TemperInHive t = oneAndHive(0, 33, 50);
        due.is("11: till 99", t.still(0), 8);
        t.mend(0, 1, 9);
        due.is("11: at once", t.still(0), 0);
        Due.tell(t, "d<99?d%2+1;1");
        due.is("11: a later day", t.still(0), 99);
        Due.tell(t, "d<100?d%2+1;2");
        due.is("11: not by 99", t.still(0), NOT);
        Due.tell(t, "d%2+1");
        due.is("11: never", t.still(0), NOT);
        t.mend(0, 1, 1);
        due.is("11: the first day", t.still(0), 0);
        t.mend(0, 1, 0);
        due.is("11: nothing in it", t.still(0), 0);
        t.person(0);
        t.mend(0, 1, 10);
        t.mend(1, 1, 20);
        Due.tell(t, "n-a");
        due.is("11: all the same, but not each", t.still(0), NOT);
        due.is("11: 1", t.still(1), BAD);
        due.is("11: -1", t.still(-1), BAD);
    }

    private static void can() { // promise 12
        TemperInHive t = fresh();
        t.person(20);
        t.deed(0, 19);
        t.deed(0, 20);
        t.deed(20, 20);
        t.deed(21, 99);
        t.deed(45, 50);
        t.deed(46, 50);
        due.is("12: now", t.can(0, 0), 6);
        due.is("12: without a hive", t.can(0, 1), 6);
        t.hive(0);
        due.is("12: by putting in", t.can(0, 1), 7);
        t.mend(0, 1, 25);
        due.is("12: by taking", t.can(0, 1), 31);
        due.is("12: now still", t.can(0, 0), 6);
        t.hive(0);
        t.mend(10, 1, 24);
        due.is("12: from one hive alone", t.can(0, 1), 31);
        t.mend(10, 1, 26);
        due.is("12: from the other", t.can(0, 1), 63);
        TemperInHive full = oneAndHive(50, 0, 99);
        full.deed(0, 49);
        full.deed(99, 99);
        due.is("12: a full hive takes none, ON no more than 99", full.can(0, 1), 2);
        due.is("12: what 2", t.can(0, 2), BAD);
        due.is("12: what -1", t.can(0, -1), BAD);
        due.is("12: one 1", t.can(1, 0), BAD);
        due.is("12: one -1", t.can(-1, 1), BAD);
    }

    private static TemperInHive roundLand() {
        TemperInHive t = oneAndHive(20, 44, 30);
        t.deed(10, 25);
        t.deed(0, 8);
        t.deed(30, 99);
        t.deed(15, 40);
        t.deed(35, 50);
        t.deed(51, 60);
        return t;
    }

    private static void round() { // promise 13
        TemperInHive t = roundLand();
        due.is("13: nothing there", t.round(0, 0, -1), -11);
        Due.lay(t, 0, BYTES, 0, 3, 2, 3, 4, 1, 9, 5);
        due.is("13: goings", t.round(0, 0, -1), 2);
        int[] on = {20, 20, 35, 35, 35, 0};
        for (int k = 0; k < on.length; k++) {
            due.is("13: ON at " + k, t.round(0, 0, k), on[k]);
        }
        due.is("13: not as many", t.round(0, 0, 6), NOT);
        due.is("13: not as many by far", t.round(0, 0, MAX), NOT);
        due.is("13: k -2", t.round(0, 0, -2), BAD);
        due.is("13: k least", t.round(0, 0, MIN), BAD);
        due.is("13: one 1", t.round(0, 1, -1), BAD);
        due.is("13: shelf 6", t.round(6, 0, -1), BAD);
        due.is("13: shelf -1", t.round(-1, 0, -1), BAD);
        due.is("13: bad ahead of nothing", t.round(1, 1, -1), BAD);
        t.put(0, 6, 5);
        due.is("13: needs 51 of 50", t.round(0, 0, -1), NOT);
        due.is("13: then none", t.round(0, 0, 0), NOT);
        t.mend(0, 1, 31);
        due.is("13: needs 51 of 51", t.round(0, 0, -1), 3);
        Due.lay(t, 1, SHORTS, 0);
        due.is("13: shorts", t.round(1, 0, -1), -12);
        t.body(0);
        t.keep(1, 0);
        due.is("13: a body", t.round(1, 0, -1), -12);
        Due.lay(t, 1, BYTES, -1, 0);
        due.is("13: ends at once", t.round(1, 0, -1), 0);
        due.is("13: no k-th", t.round(1, 0, 0), NOT);
        long[] many = new long[25];
        for (int i = 20; i < 25; i++) {
            many[i] = 1;
        }
        Due.lay(t, 1, BYTES, many);
        due.is("13: 20 at most", t.round(1, 0, -1), 0);
        due.is("13: the 19th", t.round(1, 0, 19), 20);
        due.is("13: the 20th", t.round(1, 0, 20), NOT);
        TemperInHive far = fresh();
        far.person(20);
        far.deed(20, 20);
        far.deed(0, 10);
        Due.lay(far, 0, BYTES, 0, 0);
        due.is("13: no hive, no going", far.round(0, 0, -1), 0);
        far.put(0, 1, 1);
        due.is("13: he must go and there is no hive", far.round(0, 0, -1), NOT);
        far.hive(0);
        due.is("13: now there is", far.round(0, 0, -1), 1);
        due.is("13: as low as can be", far.round(0, 0, 1), 0);
        far.hive(1);
        far.mend(0, 0, 10);
        far.mend(0, 1, 5);
        far.mend(10, 1, 5);
        Due.lay(far, 0, BYTES, 1, 0);
        due.is("13: of all hives", far.round(0, 0, 1), 20);
    }

    private static void without() { // promise 14
        TemperInHive t = roundLand();
        due.is("14: nothing there", t.without(0, 0), -11);
        Due.lay(t, 0, BYTES, 0, 1, 3, 0, 2, 0, 50, 0);
        due.is("14: all that he can", t.without(0, 0), 40);
        t.mend(0, 5, 7);
        due.is("14: by worth", t.without(0, 0), 31);
        t.mend(0, 0, 8);
        due.is("14: one", t.without(0, 0), 10);
        t.mend(0, 0, 9);
        due.is("14: none", t.without(0, 0), 0);
        t.mend(0, 0, 20);
        Due.lay(t, 1, BYTES, new long[30]);
        due.is("14: 20 at most", t.without(1, 0), 140);
        due.is("14: one 1", t.without(0, 1), BAD);
        due.is("14: shelf 6", t.without(6, 0), BAD);
        due.is("14: bad ahead of nothing", t.without(2, 1), BAD);
        Due.lay(t, 2, INTS, 0);
        due.is("14: ints", t.without(2, 0), -12);
    }

    private static void who() { // promise 15
        TemperInHive t = fresh();
        due.is("15: nothing to do", t.who(-1), 0);
        due.is("15: no deed", t.who(0), BAD);
        t.deed(0, 99);
        t.deed(10, 20);
        t.deed(15, 15);
        due.is("15: nobody", t.who(0), NOT);
        t.person(15);
        t.person(15);
        due.is("15: two of three", t.who(-1), 20);
        due.is("15: first by numbers", t.who(0), 0);
        due.is("15: second", t.who(1), 1);
        due.is("15: nobody is left", t.who(2), NOT);
        t.mend(2, 5, 11);
        due.is("15: most worth", t.who(-1), 21);
        due.is("15: 0 does 0", t.who(0), 0);
        due.is("15: 1 is left", t.who(1), NOT);
        due.is("15: 1 does 2", t.who(2), 1);
        t.person(60);
        due.is("15: three", t.who(-1), 31);
        due.is("15: 2 must do 0", t.who(0), 2);
        due.is("15: 0 does 1", t.who(1), 0);
        due.is("15: then 1 does 2", t.who(2), 1);
        t.mend(0, 5, 0);
        t.mend(1, 5, 0);
        t.mend(2, 5, 0);
        due.is("15: worth nothing", t.who(-1), 0);
        due.is("15: somebody ahead of nobody", t.who(0), 0);
        due.is("15: and the next", t.who(1), 1);
        due.is("15: nobody behind all", t.who(2), NOT);
        due.is("15: -2", t.who(-2), BAD);
        due.is("15: 3", t.who(3), BAD);
        due.is("15: greatest", t.who(MAX), BAD);
        TemperInHive all = fresh();
        for (int i = 0; i < 10; i++) {
            all.deed(10 * i, 10 * i + 9);
            all.mend(i, 5, i);
        }
        for (int i = 0; i < 6; i++) {
            all.person(95 - 10 * i);
        }
        due.is("15: six of ten", all.who(-1), 4 + 5 + 6 + 7 + 8 + 9);
        for (int i = 0; i < 10; i++) {
            due.is("15: of ten " + i, all.who(i), i < 4 ? NOT : 9 - i);
        }
    }

    private static void stung() { // promise 16
        TemperInHive t = oneAndHive(0, 44, 25);
        t.hive(46);
        t.mend(10, 1, 9);
        due.is("16: at it", t.stung(44), 1);
        due.is("16: two away", t.stung(35), 1);
        due.is("16: three away", t.stung(25), 0);
        due.is("16: both", t.stung(46), 3);
        due.is("16: 9 stings at home alone", t.stung(47), 0);
        t.mend(0, 7, 5);
        due.is("16: farther by reach", t.stung(47), 3);
        t.mend(10, 1, 0);
        due.is("16: nothing in it", t.stung(46), 1);
        due.is("16: -1", t.stung(-1), BAD);
        due.is("16: 100", t.stung(100), BAD);
    }

    private static void way() { // promise 17
        TemperInHive t = oneAndHive(0, 44, 45);
        due.is("17: past it", t.way(9, 99), 9);
        due.is("17: shut in", t.way(0, 99), NOT);
        due.is("17: from side to side", t.way(30, 38), NOT);
        t.mend(0, 1, 35);
        due.is("17: its edge", t.way(40, 48), 16);
        due.is("17: to itself", t.way(0, 0), 0);
        due.is("17: from what is stung", t.way(44, 0), NOT);
        due.is("17: to what is stung", t.way(0, 44), NOT);
        due.is("17: to itself, stung", t.way(44, 44), NOT);
        t.mend(0, 1, 0);
        due.is("17: nothing in it", t.way(40, 48), 8);
        due.is("17: 100", t.way(0, 100), BAD);
        due.is("17: -1", t.way(-1, 0), BAD);
    }

    private static void least() { // promise 18
        TemperInHive t = oneAndHive(0, 44, 35);
        due.is("18: round it", t.least(40, 48, 0), 0);
        due.is("18: steps", t.least(40, 48, 1), 16);
        t.mend(0, 1, 99);
        due.is("18: stings", t.least(40, 48, 0), 9);
        due.is("18: straight through", t.least(40, 48, 1), 8);
        due.is("18: the first cell counts", t.least(44, 44, 0), 1);
        due.is("18: no steps", t.least(44, 44, 1), 0);
        t.hive(44);
        t.mend(10, 1, 9);
        due.is("18: two at once", t.least(44, 44, 0), 2);
        due.is("18: through both", t.least(43, 45, 0), 4);
        due.is("18: both ends", t.least(43, 44, 0), 3);
        t.hive(44);
        t.mend(20, 1, 9);
        due.is("18: through three", t.least(43, 45, 0), 5);
        due.is("18: of like ones fewest steps", t.least(43, 45, 1), 2);
        t.hive(44);
        t.mend(30, 1, 9);
        due.is("18: round them", t.least(43, 45, 0), 5);
        due.is("18: two steps more", t.least(43, 45, 1), 4);
        due.is("18: what 2", t.least(0, 0, 2), BAD);
        due.is("18: what -1", t.least(0, 0, -1), BAD);
        due.is("18: to the last cell", t.least(98, 99, 0), 1);
        due.is("18: back from it", t.least(99, 90, 1), 9);
        due.is("18: up", t.least(90, 80, 1), 1);
        due.is("18: from 100", t.least(100, 0, 0), BAD);
        due.is("18: to -1", t.least(0, -1, 0), BAD);
    }

    private static void set() { // promise 19
        TemperInHive t = fresh();
        due.is("19: v 9 in its own cell", t.set(9, 9, 0), 10);
        due.is("19: one cell", t.set(9, 9, 1), 1);
        due.is("19: five", t.set(9, 10, 1), 5);
        due.is("19: which", t.set(9, 10, 0), 21);
        due.is("19: nothing in it", t.set(9, 0, 0), 0);
        due.is("19: stings nowhere", t.set(9, 0, 1), 0);
        due.is("19: far", t.set(9, 99, 0), NOT);
        due.is("19: to another column", t.set(2307, 10, 0), 11);
        due.is("19: from and to the first cell", t.set(0, 9, 0), 1);
        t.person(0);
        t.hive(55);
        t.mend(0, 1, 9);
        due.is("19: no way to it", t.set(55, 1, 0), NOT);
        due.is("19: no way from it", t.set(5500, 1, 1), NOT);
        due.is("19: cells stung already count", t.set(9, 10, 1), 5);
        due.is("19: ft -1", t.set(-1, 0, 0), BAD);
        due.is("19: ft 10000", t.set(10000, 0, 0), BAD);
        due.is("19: v 100", t.set(0, 100, 0), BAD);
        due.is("19: v -1", t.set(0, -1, 0), BAD);
        due.is("19: what 2", t.set(0, 0, 2), BAD);
        due.is("19: what -1", t.set(0, 0, -1), BAD);
        due.is("19: it sets none", t.count(1), 1);
    }

    private static void tries() { // promise 20
        TemperInHive t = oneAndHive(0, 44, 0);
        due.is("20: nothing there", t.tries(0, 0, 0), -11);
        Due.lay(t, 0, BYTES, 4, 6, 1, 9, 4, 0);
        int[] want = {30, 20, 49};
        for (int what = 0; what < 3; what++) {
            due.is("20: 2 stings, 5 does not: " + what, t.tries(0, 0, what), want[what]);
        }
        Due.lay(t, 0, BYTES, 4, 4, 0, 4, 4, 1);
        due.is("20: none", t.tries(0, 0, 0), 0);
        due.is("20: no least", t.tries(0, 0, 1), NOT);
        due.is("20: no greatest", t.tries(0, 0, 2), NOT);
        Due.lay(t, 0, BYTES, 4, 4, 0);
        due.is("20: 0 stings nowhere", t.tries(0, 0, 0), 1);
        Due.lay(t, 0, BYTES, 0, 0, 1, 10, 0, 1, 4, 4, 0);
        due.is("20: ends with what is not as it may be", t.tries(0, 0, 1), 80);
        Due.lay(t, 0, BYTES, 4, 5, 1, 4, 5);
        due.is("20: ends with what lacks", t.tries(0, 0, 1), 10);
        Due.lay(t, 0, BYTES, 4, 5, 2);
        due.is("20: stung 2", t.tries(0, 0, 0), 100);
        Due.lay(t, 0, BYTES, 4, -1, 1);
        due.is("20: y -1", t.tries(0, 0, 0), 100);
        Due.lay(t, 0, BYTES, 4, 10, 1);
        due.is("20: y 10", t.tries(0, 0, 0), 100);
        long[] whole = new long[60];
        Arrays.fill(whole, 4);
        for (int i = 2; i < 60; i += 3) {
            whole[i] = 1;
        }
        whole[58] = 6;
        Due.lay(t, 0, BYTES, whole);
        due.is("20: a whole row", t.tries(0, 0, 1), 20);
        due.is("20: what 3", t.tries(0, 0, 3), BAD);
        due.is("20: what -1", t.tries(0, 0, -1), BAD);
        due.is("20: hive 1", t.tries(0, 1, 0), BAD);
        due.is("20: shelf 6", t.tries(6, 0, 0), BAD);
        due.is("20: bad ahead of nothing", t.tries(1, 1, 0), BAD);
        Due.lay(t, 1, BOOLEANS, 1);
        due.is("20: booleans", t.tries(1, 0, 0), -12);
    }

    private static void next() { // promise 21
        TemperInHive t = oneAndHive(0, 44, 0);
        due.is("21: nothing there", t.next(0, 0), -11);
        Due.lay(t, 0, BYTES);
        due.is("21: of all", t.next(0, 0), 5);
        Due.lay(t, 0, BYTES, 4, 6, 1, 9, 4, 0);
        due.is("21: 20 to 49", t.next(0, 0), 3);
        Due.lay(t, 0, BYTES, 4, 4, 0);
        due.is("21: 0 alone", t.next(0, 0), 0);
        Due.lay(t, 0, BYTES, 4, 4, 0, 4, 4, 1);
        due.is("21: none", t.next(0, 0), NOT);
        t.mend(0, 7, 1);
        Due.lay(t, 0, BYTES);
        due.is("21: at most 18", t.next(0, 0), 18);
        due.is("21: hive 1", t.next(0, 1), BAD);
        due.is("21: shelf -1", t.next(-1, 0), BAD);
        Due.lay(t, 1, LONGS, 1);
        due.is("21: longs", t.next(1, 0), -12);
    }

    private static void leave() { // promise 22
        TemperInHive t = fresh();
        due.is("22: nothing", t.leave(0), 0);
        due.is("22: costs", t.leave(1), 120);
        t.mend(0, 9, 99);
        due.is("22: till no fear is left", t.leave(0), 60);
        due.is("22: 12 fifths", t.leave(1), 144);
        t.mend(0, 9, 24);
        due.is("22: of like ones the least", t.leave(0), 0);
        due.is("22: all alike", t.leave(1), 144);
        t.mend(0, 9, 25);
        due.is("22: just more", t.leave(0), 60);
        t.mend(0, 8, 12);
        due.is("22: all it can", t.leave(0), 90);
        due.is("22: the rest", t.leave(1), 3 * 25 + 12 * 18);
        t.mend(0, 8, 0);
        due.is("22: no fear", t.leave(1), 0);
        due.is("22: 2", t.leave(2), BAD);
        due.is("22: -1", t.leave(-1), BAD);
    }

    private static void judge() { // promise 23
        TemperInHive t = fresh();
        t.person(20);
        t.person(30);
        due.is("23: nothing there", t.judge(0), -11);
        Due.lay(t, 0, SHORTS, 0, 20, 1, 30, 0, 20);
        due.is("23: all so", t.judge(0), NOT);
        t.put(0, 5, 21);
        due.is("23: the third", t.judge(0), 2);
        t.put(0, 2, 2);
        due.is("23: nobody such", t.judge(0), 1);
        t.put(0, 0, -1);
        due.is("23: one -1", t.judge(0), 0);
        Due.lay(t, 0, SHORTS, 0, 20, 1);
        due.is("23: what lacks is not so", t.judge(0), 1);
        Due.lay(t, 0, SHORTS);
        due.is("23: none", t.judge(0), NOT);
        Due.lay(t, 0, SHORTS, 0, 276);
        due.is("23: shorts are no bytes", t.judge(0), 0);
        due.is("23: 6", t.judge(6), BAD);
        due.is("23: -1", t.judge(-1), BAD);
        Due.lay(t, 0, BYTES, 0, 20);
        due.is("23: bytes", t.judge(0), -12);
        t.body(1);
        t.keep(0, 0);
        due.is("23: a body", t.judge(0), -12);
    }

    private static void from() { // promise 24
        TemperInHive t = oneAndHive(20, 0, 90);
        t.hive(0);
        t.hive(0);
        t.mend(20, 1, 79);
        due.is("24: 9", t.from(0, 9), 7);
        due.is("24: 10", t.from(0, 10), 6);
        due.is("24: 20", t.from(0, 20), 6);
        due.is("24: 21", t.from(0, 21), 0);
        due.is("24: 1", t.from(0, 1), 7);
        due.is("24: 99 of 20", t.from(0, 99), 0);
        t.mend(0, 0, 99);
        due.is("24: 99", t.from(0, 99), 2);
        t.mend(0, 0, 20);
        due.is("24: 0", t.from(0, 0), BAD);
        due.is("24: 100", t.from(0, 100), BAD);
        due.is("24: nobody", t.from(1, 1), BAD);
        due.is("24: -1", t.from(-1, 1), BAD);
    }

    private static void swarm() { // promise 25
        TemperInHive t = oneAndHive(0, 0, 0);
        due.is("25: nothing", t.swarm(0), 0);
        due.is("25: nowhere", t.swarm(1), NOT);
        t.hive(1);
        t.mend(0, 1, 6);
        t.mend(10, 1, 5);
        due.is("25: all", t.swarm(0), 11);
        due.is("25: far", t.swarm(1), 1);
        t.mend(0, 7, 20);
        due.is("25: less far", t.swarm(1), 0);
        due.is("25: 2", t.swarm(2), BAD);
        due.is("25: -1", t.swarm(-1), BAD);
    }

    private static void drawn() { // promise 26
        TemperInHive t = oneAndHive(0, 44, 99);
        t.mend(0, 7, 1);
        due.is("26: everywhere", t.drawn(5, 303, 0), 9);
        due.is("26: every day", t.drawn(5, 303, 1), 9);
        t.hive(0);
        t.mend(10, 1, 99);
        due.is("26: two at once", t.drawn(5, 303, 0), 18);
        due.is("26: a day once", t.drawn(5, 303, 1), 9);
        Due.tell(t, "d=1?0;a");
        due.is("26: each month from now, with its own d", t.drawn(5, 404, 1), 8);
        due.is("26: it changes nothing", t.of(0, 1), 99);
        due.is("26: one day", t.drawn(5, 101, 0), 2);
        due.is("26: most days", t.drawn(5, 3030, 1), 60);
        askDraws();
        int[][] bad = {{0, 0}, {1, 0}, {100, 0}, {3101, 0}, {131, 0}, {-101, 0}, {101, 2}, {101, -1}, {MAX, 0}, {MIN, 0}};
        for (int[] r : bad) {
            due.is("26: drawn(1, " + r[0] + ", " + r[1] + ")", t.drawn(1, r[0], r[1]), BAD);
        }
    }

    /** A hive that stings in its own cell alone, in each cell in turn: one of them has each draw. */
    private static void askDraws() {
        int z = 77;
        for (int d = 1; d <= 30; d++) {
            z = z * 1103515245 + 12345;
        }
        int cell = (z >>> 6) % 10 + 10 * ((z >>> 12) % 10);
        TemperInHive t = oneAndHive(0, cell, 1);
        Due.tell(t, "1");
        int till = t.drawn(77, 129, 0);
        due.is("26: the 30th draw", t.drawn(77, 130, 0), till + 1);
        due.is("26: as days of months", t.drawn(77, 610, 0) - t.drawn(77, 3001, 0), sixtyDraws(cell));
        t.mend(0, 2, (cell + 1) % 100);
        till = t.drawn(77, 129, 0);
        due.is("26: not beside it", t.drawn(77, 130, 0), till);
    }

    /** How many of the draws 30 to 59 go to a cell. */
    private static int sixtyDraws(int cell) {
        int z = 77;
        int many = 0;
        for (int d = 0; d < 60; d++) {
            z = z * 1103515245 + 12345;
            many += d >= 30 && (z >>> 6) % 10 == cell % 10 && (z >>> 12) % 10 == cell / 10 ? 1 : 0;
        }
        return many;
    }

    private static void takes() { // promise 27
        TemperInHive t = oneAndHive(90, 0, 50);
        due.is("27: 9", t.takes(0, 9), 99);
        due.is("27: IN", t.of(0, 1), 41);
        due.is("27: more than 99", t.takes(0, 1), STATE);
        t.mend(0, 0, 0);
        due.is("27: less is in it", t.takes(0, 42), STATE);
        due.is("27: all", t.takes(0, 41), 41);
        due.is("27: none left", t.of(0, 1), 0);
        due.is("27: led", t.led(0), 50);
        TemperInHive more = mended();
        more.mend(11, 1, 99);
        more.mend(1, 0, 0);
        due.is("27: 99 of another", more.takes(11, 99), 99);
        due.is("27: none left of his", more.of(11, 1), 0);
        due.is("27: the first one's stays", more.of(0, 1), 25);
        more.mend(10, 1, 5);
        due.is("27: of the first in the second", more.takes(10, 5), 25);
        due.is("27: it came from the second", more.of(10, 1), 0);
        int[][] bad = {{0, 0}, {0, 100}, {0, -1}, {1, 1}, {10, 1}, {9, 1}, {8, 1}, {-1, 1}, {-10, 1}, {MIN, 1}, {MAX, 1}};
        for (int[] r : bad) {
            due.is("27: takes(" + r[0] + ", " + r[1] + ")", t.takes(r[0], r[1]), BAD);
        }
        due.is("27: bad ahead of state", t.takes(0, 100), BAD);
    }

    private static void puts() { // promise 28
        TemperInHive t = oneAndHive(60, 0, 50);
        due.is("28: 49", t.puts(0, 49), 99);
        due.is("28: ON", t.of(0, 0), 11);
        due.is("28: more than 99", t.puts(0, 1), STATE);
        t.mend(0, 1, 0);
        due.is("28: less is on him", t.puts(0, 12), STATE);
        due.is("28: all", t.puts(0, 11), 11);
        due.is("28: none left", t.of(0, 0), 0);
        due.is("28: led", t.led(1), 60);
        TemperInHive more = mended();
        more.mend(1, 0, 99);
        due.is("28: 99 of another", more.puts(11, 99), 99);
        due.is("28: none left on him", more.of(1, 0), 0);
        due.is("28: of the first in the second", more.puts(10, 5), 5);
        due.is("28: the second's stays", more.of(11, 1), 99);
        int[][] bad = {{0, 0}, {0, 100}, {1, 1}, {10, 1}, {9, 1}, {-1, 1}, {-10, 1}, {MIN, 1}, {MAX, 1}};
        for (int[] r : bad) {
            due.is("28: puts(" + r[0] + ", " + r[1] + ")", t.puts(r[0], r[1]), BAD);
        }
    }

    private static void day() { // promise 29
        TemperInHive t = oneAndHive(0, 0, 50);
        t.hive(1);
        t.mend(10, 1, 20);
        due.is("29: all", t.day(), 77);
        due.is("29: 55", t.of(0, 1), 55);
        due.is("29: 22", t.of(10, 1), 22);
        Due.tell(t, "d?9;a-1");
        due.is("29: d is 0", t.day(), 75);
        due.is("29: again", t.day(), 73);
        due.is("29: days", t.led(2), 3);
        t.person(0);
        t.mend(0, 1, 10);
        t.mend(1, 1, 20);
        t.mend(10, 1, 0);
        Due.tell(t, "n-a");
        t.day();
        due.is("29: at once", t.of(0, 1), 20);
        due.is("29: for all", t.of(1, 1), 10);
    }

    private static void does() { // promise 30
        TemperInHive t = fresh();
        t.person(20);
        t.deed(15, 20);
        t.deed(0, 5);
        t.mend(0, 5, 33);
        due.is("30: half of 15", t.does(0), 13);
        due.is("30: too little", t.does(0), STATE);
        due.is("30: too much", t.does(10), STATE);
        due.is("30: ON stays", t.of(0, 0), 13);
        t.mend(0, 0, 5);
        due.is("30: needs none", t.does(10), 5);
        due.is("30: deeds", t.led(3), 2);
        due.is("30: worth", t.led(4), 43);
        int[] bad = {1, 20, -1, -10, 9, MIN, MAX};
        for (int dp : bad) {
            due.is("30: does(" + dp + ")", t.does(dp), BAD);
        }
    }

    private static void marry() { // promise 31
        TemperInHive t = fresh();
        t.person(10);
        t.person(21);
        due.is("31: the greater number first", t.marry(10), 15);
        due.is("31: the odd one to the lesser", t.of(0, 0), 16);
        due.is("31: and again", t.marry(1), 16);
        due.is("31: 15", t.of(1, 0), 15);
        due.is("31: led", t.led(5), 2);
        int[] bad = {0, 11, 2, 20, 12, -1, -10, MIN, MAX};
        for (int ab : bad) {
            due.is("31: marry(" + ab + ")", t.marry(ab), BAD);
        }
        due.is("31: led as it was", t.led(5), 2);
    }

    private static void led() { // promise 32
        TemperInHive t = oneAndHive(50, 0, 10);
        t.person(50);
        t.deed(1, 99);
        t.takes(0, 3);
        t.takes(0, 3);
        t.puts(0, 5);
        t.day();
        t.does(0);
        t.does(1);
        t.marry(1);
        int[] want = {6, 5, 1, 2, 20, 1};
        for (int what = 0; what < 6; what++) {
            due.is("32: led(" + what + ")", t.led(what), want[what]);
        }
        due.is("32: 6", t.led(6), BAD);
        due.is("32: -1", t.led(-1), BAD);
    }

    private static void imageAndBack() { // promises 33, 34
        TemperInHive t = oneAndHive(50, 0, 10);
        due.is("34: none", t.back(), STATE);
        t.day();
        t.day();
        due.is("33: days", t.image(), 2);
        t.deed(0, 99);
        t.mend(0, 6, 2);
        t.mend(0, 0, 60);
        t.takes(0, 5);
        t.day();
        t.does(0);
        t.person(30);
        t.person(31);
        t.hive(9);
        t.puts(1, 4);
        t.puts(10, 3);
        t.puts(12, 3);
        t.marry(1);
        int on1 = t.of(1, 0);
        int changes = t.count(4);
        due.is("34: days", t.back(), 2);
        due.is("34: ON", t.of(0, 0), 50);
        due.is("34: IN", t.of(0, 1), 12);
        due.is("34: ON of one who came since", t.of(1, 0), on1);
        due.is("34: ON of another", t.of(2, 0), 28);
        int[] none = {1, 2, 10, 11, 12};
        for (int hp : none) {
            due.is("34: IN " + hp, t.of(hp, 1), 0);
        }
        int[] led = {0, 0, 2, 0, 0, 0};
        for (int what = 0; what < 6; what++) {
            due.is("34: led(" + what + ")", t.led(what), led[what]);
        }
        due.is("34: season is none of it", t.of(0, 6), 2);
        due.is("34: people stay", t.count(0), 3);
        due.is("34: hives stay", t.count(1), 2);
        due.is("34: changes stay", t.count(4), changes);
        t.day();
        due.is("34: again", t.back(), 2);
        t.day();
        due.is("33: a new one", t.image(), 3);
        t.day();
        due.is("34: the new one", t.back(), 3);
        TemperInHive full = fresh();
        for (int i = 0; i < 6; i++) {
            full.person(i);
        }
        for (int i = 0; i < 30; i++) {
            full.hive(i); // five come
            full.mend(10 * (i / 6) + i % 6, 1, 0);
        }
        for (int i = 0; i < 30; i++) {
            full.mend(10 * (i / 6) + i % 6, 1, 50 + i);
        }
        full.image();
        full.day();
        full.back();
        for (int i = 0; i < 30; i++) {
            due.is("34: IN " + i, full.of(10 * (i / 6) + i % 6, 1), 50 + i);
        }
    }

    private static void undoAndRedo() { // promises 35, 36
        TemperInHive t = oneAndHive(50, 0, 10);
        t.undo();
        due.is("35: none", t.undo(), STATE);
        due.is("36: one", t.redo(), 0);
        due.is("36: none", t.redo(), STATE);
        t.mend(0, 0, 60);
        t.mend(0, 7, 5);
        t.mend(0, 2, 77);
        due.is("35: cell", t.undo(), 3);
        due.is("35: back in 0", t.of(0, 2), 0);
        due.is("35: reach", t.undo(), 2);
        due.is("35: 10", t.of(0, 7), 10);
        due.is("36: reach", t.redo(), 1);
        due.is("36: 5", t.of(0, 7), 5);
        due.is("36: may be undone", t.count(4), 3);
        t.mend(0, 7, 5);
        t.mend(0, 7, 50);
        t.person(1);
        t.hive(1);
        t.deed(1, 1);
        t.day();
        t.puts(0, 1);
        due.is("36: nothing came behind", t.redo(), 0);
        due.is("36: cell", t.of(0, 2), 77);
        t.undo();
        t.undo();
        t.mend(0, 8, 1);
        due.is("36: another came behind", t.redo(), STATE);
        due.is("35: count", t.count(4), 3);
        t.undo();
        due.is("35: ON", t.undo(), 1);
        due.is("35: as it was ahead of it", t.of(0, 0), 50);
        t.takes(0, 5);
        t.redo();
        due.is("36: as it became", t.of(0, 0), 60);
        for (int i = 0; i < 45; i++) {
            t.mend(0, 9, i + 30);
        }
        due.is("35: 40 at most", t.count(4), 40);
        for (int i = 39; i >= 0; i--) {
            due.is("35: may still be", t.undo(), i);
        }
        due.is("35: no more", t.undo(), STATE);
        due.is("35: the oldest is gone", t.of(0, 9), 34);
        for (int i = 39; i >= 0; i--) {
            due.is("36: may still be", t.redo(), i);
        }
        due.is("36: no more", t.redo(), STATE);
        due.is("36: the latest", t.of(0, 9), 74);
        TemperInHive many = fresh();
        for (int i = 0; i < 5; i++) {
            many.person(0);
            many.hive(0);
        }
        for (int i = 0; i < 50; i++) {
            many.mend(10 * (i % 5) + i / 10, 1, i + 1);
        }
        for (int i = 49; i >= 10; i--) {
            many.undo();
            due.is("35: number " + i, many.of(10 * (i % 5) + i / 10, 1), i % 10 < 5 ? 0 : i - 4);
        }
        for (int i = 10; i < 50; i++) {
            many.redo();
            due.is("36: number " + i, many.of(10 * (i % 5) + i / 10, 1), i + 1);
        }
    }

    private static void body() { // promise 37
        TemperInHive t = fresh();
        due.is("37: 8", t.body(8), BAD);
        due.is("37: -1", t.body(-1), BAD);
        for (int i = 0; i < 50; i++) {
            due.is("37: the " + i + "-th", t.body(i % 8), i);
        }
        due.is("37: full", t.body(0), FULL);
        due.is("37: bad ahead of full", t.body(8), BAD);
    }

    private static void act() { // promise 38
        TemperInHive t = fresh();
        for (int i = 0; i < 24; i++) {
            t.body(i % 8);
        }
        int[][] want = { // by kinds 0 .. 7, n 16 more than the kind, x 5: keeps, stings, grows, tells
            {21, 42, 21, 42 - 17},
            {25, 50, 20, 50 - 16},
            {23, -46, 23, -46 - 19},
            {24, -50, 66, -50 - 54},
            {28, 56, 17, (56 - 21) ^ 5},
            {26, -54, 48 - 23, -54 - (60 - 23) + 1},
            {54, 108, 19, 108 - 23},
            {55, 110 + 21, 18, 131 - 22},
        };
        for (int kind = 0; kind < 8; kind++) {
            for (int a = 0; a < 4; a++) {
                due.is("38: act(" + (16 + kind) + ", " + a + ", 5)", t.act(16 + kind, a, 5), want[kind][a]);
            }
        }
        due.is("38: wraps", t.act(16, 1, MAX), (MAX + 16) * 2);
        t.act(16, 3, 0);
        due.is("38: no such body", t.act(24, 0, 1), 0);
        due.is("38: no trace then", t.count(6), 0);
        t.act(16, 3, 0);
        due.is("38: no such act", t.act(0, 4, 1), 0);
        due.is("38: no trace then", t.trace(0), BAD);
        due.is("38: -1", t.act(-1, 0, 1), 0);
        due.is("38: act -1", t.act(0, -1, 1), 0);
    }

    private static void trace() { // promise 39
        TemperInHive t = fresh();
        for (int i = 0; i < 8; i++) {
            t.body(i);
        }
        int[][] tells = {
            {2, 10, 1, 11}, {2, 10, 20, 1, 11}, {2, 30, 10, 1, 11}, {2, 41, 30, 10, 1, 40, 11}, {50, 2, 10, 20, 1, 11},
            {61, 2, 41, 30, 10, 1, 60, 40, 11, 1}, {2, 10, 70, 1, 11}, {2, 80, 10, 81, 70, 1, 11, 11},
        };
        for (int kind = 0; kind < 8; kind++) {
            t.act(kind, 3, 1);
            due.is("39: how many of " + kind, t.count(6), tells[kind].length);
            for (int i = 0; i < tells[kind].length; i++) {
                due.is("39: of " + kind + " the " + i + "-th", t.trace(i), tells[kind][i]);
            }
            due.is("39: behind the end", t.trace(tells[kind].length), BAD);
        }
        due.is("39: -1", t.trace(-1), BAD);
        due.is("39: greatest", t.trace(MAX), BAD);
    }

    private static void keep() { // promise 40
        TemperInHive t = fresh();
        t.body(6);
        due.is("40: body 1", t.keep(0, 1), BAD);
        due.is("40: body -2", t.keep(0, -2), BAD);
        due.is("40: shelf 6", t.keep(6, 0), BAD);
        due.is("40: shelf -1", t.keep(-1, -1), BAD);
        due.is("40: a body", t.keep(5, 0), 1);
        due.is("40: it is there", t.taken(5, 6), 6);
        due.is("40: nothing", t.keep(5, -1), 1);
        due.is("40: it is gone", t.taken(5, 6), -11);
        t.row(5, INTS, 3);
        due.is("40: in the place of a row", t.keep(5, 0), 1);
        due.is("40: no row", t.put(5, 0, 1), -12);
    }

    private static void row() { // promise 41
        TemperInHive t = fresh();
        due.is("41: shelf 6", t.row(6, 0, 1), BAD);
        due.is("41: shelf -1", t.row(-1, 0, -1), BAD);
        due.is("41: sort 5", t.row(0, 5, 1), BAD);
        due.is("41: sort -1 ahead of size", t.row(0, -1, -1), BAD);
        due.is("41: 61", t.row(0, 0, 61), BAD);
        due.is("41: -1", t.row(0, 0, -1), -14);
        due.is("41: least", t.row(0, 0, MIN), -14);
        due.is("41: nothing came", t.put(0, 0, 1), -11);
        for (int sort = 0; sort < 5; sort++) {
            due.is("41: 60 of sort " + sort, t.row(0, sort, 60), 1);
            due.is("41: 0 at first", t.element(0, 59), 0);
            due.is("41: 0 at first, at the front", t.element(0, 0), 0);
            t.put(0, 0, 1);
            due.is("41: no 60th", t.put(0, 60, 1), -13);
            t.put(0, 59, 1);
        }
        t.row(0, 4, 60);
        due.is("41: anew", t.element(0, 59), 0);
        due.is("41: no elements", t.row(0, 3, 0), 1);
        due.is("41: no place", t.put(0, 0, 1), -13);
    }

    private static void putAndElement() { // promises 42, 43
        TemperInHive t = fresh();
        long v = 0x1234567890ABCDEFL;
        long[] kept = {(byte) v, (short) v, (int) v, v, 1};
        for (int sort = 0; sort < 5; sort++) {
            t.row(sort, sort, 2);
            due.is("42: sort " + sort, t.put(sort, 1, v), 1);
            due.is("43: sort " + sort, t.element(sort, 1), kept[sort]);
            due.is("43: the other", t.element(sort, 0), 0);
            due.is("42: -1", t.put(sort, -1, v), -13);
            due.is("42: 2", t.put(sort, 2, v), -13);
            due.is("43: 2", t.element(sort, 2), Long.MIN_VALUE);
            due.is("43: -1", t.element(sort, -1), Long.MIN_VALUE);
        }
        t.put(BOOLEANS, 1, 0);
        due.is("43: false", t.element(BOOLEANS, 1), 0);
        t.put(BOOLEANS, 1, 1L << 40);
        due.is("43: not 0", t.element(BOOLEANS, 1), 1);
        t.put(BYTES, 0, 128);
        due.is("43: 128 as a byte", t.element(BYTES, 0), -128);
        due.is("42: nothing", t.put(5, 0, 1), -11);
        due.is("43: nothing", t.element(5, 0), Long.MIN_VALUE);
        t.body(0);
        t.keep(5, 0);
        due.is("42: a body", t.put(5, 0, 1), -12);
        due.is("43: a body", t.element(5, 0), Long.MIN_VALUE);
        due.is("42: 6", t.put(6, 0, 1), BAD);
        due.is("42: -1", t.put(-1, 0, 1), BAD);
        due.is("43: 6", t.element(6, 0), Long.MIN_VALUE);
        due.is("43: -1", t.element(-1, 0), Long.MIN_VALUE);
    }

    private static void row5(TemperInHive t, int shelf, String what, int... want) {
        for (int i = 0; i < want.length; i++) {
            due.is("44: " + what + " at " + i, t.element(shelf, i), want[i]);
        }
    }

    private static void shift() { // promise 44
        TemperInHive t = fresh();
        Due.lay(t, 0, INTS, 1, 2, 3, 4, 5);
        Due.lay(t, 1, INTS, 9, 9, 9);
        due.is("44: to another", t.shift(0, 3, 1, 1, 2), 2);
        row5(t, 1, "the other", 9, 4, 5);
        due.is("44: up", t.shift(0, 0, 0, 1, 4), 4);
        row5(t, 0, "up", 1, 1, 2, 3, 4);
        due.is("44: down", t.shift(0, 1, 0, 0, 4), 4);
        row5(t, 0, "down", 1, 2, 3, 4, 4);
        due.is("44: none", t.shift(0, 5, 1, 3, 0), 0);
        int[][] places = {{0, 0, -1}, {-1, 0, 1}, {0, -1, 1}, {4, 0, 2}, {0, 2, 2}, {6, 0, 0}, {0, 4, 0}, {0, 0, 4},
            {0, 0, MAX}, {MAX, 0, 1}, {MAX, MAX, MAX}, {0, 0, MIN}, {MIN, 0, 1}};
        for (int[] p : places) {
            due.is("44: shift(0, " + p[0] + ", 1, " + p[1] + ", " + p[2] + ")", t.shift(0, p[0], 1, p[1], p[2]), -13);
        }
        row5(t, 1, "nothing changed", 9, 4, 5);
        t.row(2, LONGS, 5);
        due.is("44: unlike sorts", t.shift(0, 0, 2, 0, 1), -12);
        due.is("44: ahead of the place", t.shift(0, -1, 2, 0, 1), -12);
        due.is("44: nothing to", t.shift(0, 0, 3, 0, 1), -11);
        due.is("44: nothing from", t.shift(3, 0, 0, 0, 1), -11);
        t.body(0);
        t.keep(4, 0);
        due.is("44: a body and nothing", t.shift(4, 0, 3, 0, 1), -11);
        due.is("44: a body from", t.shift(4, 0, 0, 0, 1), -12);
        due.is("44: a body to", t.shift(0, 0, 4, 0, 1), -12);
        due.is("44: bodies", t.shift(4, 0, 4, 0, 0), -12);
        due.is("44: 6", t.shift(6, 0, 3, 0, 1), BAD);
        due.is("44: to 6", t.shift(3, 0, 6, 0, 1), BAD);
        due.is("44: -1", t.shift(-1, 0, 0, 0, 1), BAD);
    }

    private static void taken() { // promise 45
        TemperInHive t = fresh();
        String[] over = {"0", "01", "02", "023", "014", "0235", "06", "067"};
        for (int kind = 0; kind < 8; kind++) {
            t.body(kind);
            t.keep(0, kind);
            for (int k = 0; k < 8; k++) {
                int want = over[kind].indexOf('0' + k) >= 0 ? kind : -12;
                due.is("45: kind " + kind + " for " + k, t.taken(0, k), want);
            }
        }
        due.is("45: k 8", t.taken(0, 8), BAD);
        due.is("45: k -1", t.taken(0, -1), BAD);
        due.is("45: shelf 6", t.taken(6, 0), BAD);
        due.is("45: nothing", t.taken(1, 0), -11);
        t.row(1, BYTES, 1);
        due.is("45: a row", t.taken(1, 0), -12);
        due.is("45: bad ahead of a row", t.taken(1, 8), BAD);
    }

    private static void count() { // promise 46
        TemperInHive t = oneAndHive(1, 2, 3);
        t.person(1);
        t.person(2);
        t.hive(3);
        for (int i = 0; i < 4; i++) {
            t.deed(0, i);
            t.feed('a');
        }
        t.feed('a');
        t.mend(0, 9, 21);
        for (int i = 0; i < 7; i++) {
            t.body(5);
        }
        t.act(3, 3, 1);
        int[] want = {3, 2, 4, 5, 2, 7, 10};
        for (int what = 0; what < 7; what++) {
            due.is("46: count(" + what + ")", t.count(what), want[what]);
        }
        due.is("46: 7", t.count(7), BAD);
        due.is("46: -1", t.count(-1), BAD);
    }
}
