/** Promises 1 to 8, sentence by sentence: the last value that is taken, the first that is not; the empty and the full. */
public final class EdgesOfLandTest {
    private static final int BAD = Sentences.BAD, NOT = Sentences.NOT, FULL = Sentences.FULL, STATE = Sentences.STATE;
    private static final int NOTHING_THERE = Sentences.NOTHING_THERE, OTHER_KIND = Sentences.OTHER_KIND;
    private static final int MAX = Sentences.MAX, MIN = Sentences.MIN;
    private static final Sentences s = new Sentences("EdgesOfLandTest");

    public static void main(String[] args) {
        newObject();
        firstNumbers();
        person();
        hive();
        deed();
        deeds();
        deedsEnd();
        mend();
        mendSettings();
        of();
        feed();
        s.end(1, 8);
    }

    private static void newObject() {
        s.test(1, "A land, nobody, no hives.", t -> {
            for (int what = 0; what <= 6; what++) {
                s.is("count(" + what + ")", t.count(what), 0);
            }
            s.is("of(0, 0)", t.of(0, 0), BAD);
            s.is("of(0, 1)", t.of(0, 1), BAD);
            s.is("of(0, 2)", t.of(0, 2), BAD);
            s.is("of(0, 3)", t.of(0, 3), BAD);
            s.is("still(0)", t.still(0), BAD);
            s.is("can(0, 0)", t.can(0, 0), BAD);
            s.is("who(-1)", t.who(-1), 0);
            s.is("swarm(0)", t.swarm(0), 0);
            s.is("swarm(1)", t.swarm(1), NOT);
            s.is("day()", t.day(), 0);
            s.is("way(0, 99)", t.way(0, 99), 18);
            for (int xy = 0; xy < 100; xy++) {
                s.is("stung(" + xy + ")", t.stung(xy), 0);
            }
        });
        s.test(1, "SHELVES 0 .. 5 each hold nothing (at first)", t -> {
            for (int shelf = 0; shelf <= 5; shelf++) {
                s.is("put(" + shelf + ", 0, 0)", t.put(shelf, 0, 0), NOTHING_THERE);
            }
            s.is("put(6, 0, 0)", t.put(6, 0, 0), BAD);
            s.is("put(-1, 0, 0)", t.put(-1, 0, 0), BAD);
        });
        s.test(1, "An object is used for at most 512 calls after it has been made;", t -> {
            t.person(0);
            for (int call = 2; call <= 511; call++) {
                s.is("call " + call, t.mend(0, 9, call % 90), call == 2 ? 20 : (call - 1) % 90);
            }
            s.is("the 512th call", t.count(4), 40);
        });
        s.test(1, "All memory is the class's own.", t -> {
            TemperInHive other = new TemperInHive();
            other.person(30);
            other.mend(0, 7, 3);
            other.feed('a');
            other.row(0, 0, 3);
            other.body(0);
            other.act(0, 3, 1);
            other.image();
            s.is("people of another object", t.count(0), 0);
            s.is("its REACH", t.of(0, 7), 10);
            s.is("its TAPE", t.count(3), 0);
            s.is("its SHELF", t.put(0, 0, 1), NOTHING_THERE);
            s.is("its BODIES", t.count(5), 0);
            s.is("its TRACE", t.count(6), 0);
            s.is("its image", t.back(), STATE);
            s.is("its changes", t.undo(), STATE);
        });
    }

    private static void firstNumbers() {
        s.test(1, "SEASON (0 .. 3; 0 at first).", t -> s.is("of(0, 6)", t.of(0, 6), 0));
        s.test(1, "REACH (1 .. 20; 10 at first), FEAR (0 .. 12; 6 at first), LOSS (0 .. 99; 20 at first).", t -> {
            s.is("of(0, 7)", t.of(0, 7), 10);
            s.is("of(0, 8)", t.of(0, 8), 6);
            s.is("of(0, 9)", t.of(0, 9), 20);
        });
    }

    private static void person() {
        s.test(2, "One with so much on him: its number.", t -> {
            s.is("person(0)", t.person(0), 0);
            s.is("person(99)", t.person(99), 1);
            s.is("of(0, 0)", t.of(0, 0), 0);
            s.is("of(1, 0)", t.of(1, 0), 99);
        });
        s.test(2, "ON (0 .. 99: temper one has on him; 20 at first).", t -> {
            s.is("person(-1)", t.person(-1), BAD);
            s.is("person(100)", t.person(100), BAD);
            s.is("person(least)", t.person(MIN), BAD);
            s.is("person(greatest)", t.person(MAX), BAD);
            s.is("nobody came", t.count(0), 0);
        });
        s.test(2, "PEOPLE 0 .. 5, as they come:", t -> {
            for (int one = 0; one <= 5; one++) {
                s.is("of(" + one + ", 0) ahead of him", t.of(one, 0), BAD);
                s.is("person " + one, t.person(10 + one), one);
                s.is("how many", t.count(0), one + 1);
            }
            for (int one = 0; one <= 5; one++) {
                s.is("of(" + one + ", 0)", t.of(one, 0), 10 + one);
            }
        });
        s.test(2, "BAD, FULL: 6.", t -> {
            for (int one = 0; one < 6; one++) {
                s.is("person " + one, t.person(one), one);
            }
            s.is("the seventh", t.person(20), FULL);
            s.is("100, when full", t.person(100), BAD);
            s.is("-1, when full", t.person(-1), BAD);
            s.is("how many", t.count(0), 6);
            s.is("the seventh is not there", t.of(6, 0), BAD);
            s.is("the last has what he had", t.of(5, 0), 5);
        });
    }

    private static void hive() {
        s.test(3, "A HIVE in a CELL: its number.", t -> {
            int[] corners = {0, 9, 90, 99};
            for (int i = 0; i < 4; i++) {
                s.is("hive(" + corners[i] + ")", t.hive(corners[i]), i);
                s.is("of(" + i + ", 2)", t.of(i, 2), corners[i]);
            }
            s.is("a second one in a CELL", t.hive(99), 4);
        });
        s.test(3, "THE LAND has CELLS X, Y (0 .. 9).", t -> {
            for (int xy : new int[] {-1, 100, MIN, MAX}) {
                s.is("hive(" + xy + ")", t.hive(xy), BAD);
            }
            s.is("none came", t.count(1), 0);
        });
        s.test(3, "(xy: 10 Y and X; hp: 10 times the HIVE, and the one)", t -> {
            t.person(0);
            t.hive(9); // X 9, Y 0
            t.mend(0, 1, 10);
            s.is("stung(8) beside it", t.stung(8), 1);
            s.is("stung(19) below it", t.stung(19), 1);
            s.is("stung(10), the first of the next row", t.stung(10), 0);
            t.mend(0, 2, 10);
            s.is("stung(9), the last of the row above", t.stung(9), 0);
            s.is("stung(0)", t.stung(0), 1);
            s.is("stung(20)", t.stung(20), 1);
        });
        s.test(3, "IN of each of the PEOPLE (0 .. 99; 0 at first: how much of his lies in it).", t -> {
            t.person(1);
            t.hive(5);
            t.person(2);
            t.hive(6);
            for (int hp : new int[] {0, 1, 10, 11}) {
                s.is("of(" + hp + ", 1)", t.of(hp, 1), 0);
            }
        });
        s.test(3, "HIVES 0 .. 4, as they come, in a CELL:", t -> {
            for (int hive = 0; hive <= 4; hive++) {
                s.is("of(" + hive + ", 2) ahead of it", t.of(hive, 2), BAD);
                s.is("hive " + hive, t.hive(20 * hive), hive);
                s.is("how many", t.count(1), hive + 1);
            }
            s.is("of(4, 2)", t.of(4, 2), 80);
        });
        s.test(3, "BAD, FULL: 5.", t -> {
            for (int hive = 0; hive < 5; hive++) {
                s.is("hive " + hive, t.hive(hive), hive);
            }
            s.is("the sixth", t.hive(7), FULL);
            s.is("100, when full", t.hive(100), BAD);
            s.is("-1, when full", t.hive(-1), BAD);
            s.is("how many", t.count(1), 5);
            s.is("the sixth is not there", t.of(5, 2), BAD);
            s.is("the last is where it was", t.of(4, 2), 4);
        });
    }

    private static void deed() {
        s.test(4, "A DEED: its number.", t -> {
            int[][] taken = {{0, 0}, {0, 99}, {99, 99}, {5, 5}, {98, 99}};
            for (int i = 0; i < taken.length; i++) {
                s.is("deed " + i, t.deed(taken[i][0], taken[i][1]), i);
                s.is("NEEDS of " + i, t.of(i, 3), taken[i][0]);
                s.is("MOST of " + i, t.of(i, 4), taken[i][1]);
            }
        });
        s.test(4, "NEEDS, MOST (0 .. 99; NEEDS no more than MOST: how much one must have on him, may)", t -> {
            int[][] wrong = {{-1, 5}, {0, 100}, {6, 5}, {99, 98}, {1, 0}, {100, 100}, {-1, -1}, {0, -1}, {MIN, 0}, {0, MAX},
                {MAX, MIN}, {MIN, MAX}};
            for (int[] w : wrong) {
                s.is("deed(" + w[0] + ", " + w[1] + ")", t.deed(w[0], w[1]), BAD);
            }
            s.is("none came", t.count(2), 0);
        });
        s.test(4, "WORTH (0 .. 99; 10 at first).", t -> {
            t.deed(3, 4);
            s.is("of(0, 5)", t.of(0, 5), 10);
        });
        s.test(4, "DEEDS 0 .. 9, as they come:", t -> {
            for (int deed = 0; deed <= 9; deed++) {
                s.is("of(" + deed + ", 3) ahead of it", t.of(deed, 3), BAD);
                s.is("deed " + deed, t.deed(deed, 20 + deed), deed);
                s.is("how many", t.count(2), deed + 1);
            }
            s.is("NEEDS of the last", t.of(9, 3), 9);
            s.is("MOST of the last", t.of(9, 4), 29);
        });
        s.test(4, "BAD, FULL: 10.", t -> {
            for (int deed = 0; deed < 10; deed++) {
                s.is("deed " + deed, t.deed(deed, deed), deed);
            }
            s.is("the eleventh", t.deed(0, 0), FULL);
            s.is("deed(5, 4), when full", t.deed(5, 4), BAD);
            s.is("deed(-1, 4), when full", t.deed(-1, 4), BAD);
            s.is("deed(0, 100), when full", t.deed(0, 100), BAD);
            s.is("how many", t.count(2), 10);
            s.is("the eleventh is not there", t.of(10, 3), BAD);
            s.is("the last is as it was", t.of(9, 3), 9);
        });
    }

    private static void deeds() {
        s.test(5, "DEEDS FROM A ROW on a SHELF, from place i on, n (1 .. 10) of them:", t -> {
            t.row(0, 0, 60);
            for (int n : new int[] {0, 11, -1, MIN, MAX}) {
                s.is("deeds(0, 0, " + n + ")", t.deeds(0, 0, n), BAD);
            }
            s.is("deeds(0, 0, 1)", t.deeds(0, 0, 1), 1);
            s.is("one came", t.count(2), 1);
        });
        s.test(5, "n of them;", t -> {
            t.row(5, 0, 60);
            s.is("deeds(5, 0, 10)", t.deeds(5, 0, 10), 10);
            s.is("ten came", t.count(2), 10);
        });
        s.test(5, "how many came (0 with i below 0).", t -> {
            t.row(0, 0, 60);
            for (int i : new int[] {-1, -2, -3, MIN}) {
                s.is("deeds(0, " + i + ", 10)", t.deeds(0, i, 10), 0);
            }
            s.is("none came", t.count(2), 0);
            s.is("deeds(0, 0, 2)", t.deeds(0, 0, 2), 2);
        });
        s.test(5, "BAD, -12 (no ROW of bytes; a SHELF that holds nothing is missing).", t -> {
            s.is("deeds(-1, 0, 1)", t.deeds(-1, 0, 1), BAD);
            s.is("deeds(6, 0, 1)", t.deeds(6, 0, 1), BAD);
            for (int sort = 1; sort <= 4; sort++) {
                t.row(sort, sort, 60);
                s.is("deeds of sort " + sort, t.deeds(sort, 0, 1), OTHER_KIND);
                s.is("deeds of sort " + sort + " from -1", t.deeds(sort, -1, 1), OTHER_KIND);
                s.is("no n of sort " + sort, t.deeds(sort, 0, 0), BAD);
            }
            t.body(0);
            t.keep(5, 0);
            s.is("deeds of a BODY", t.deeds(5, 0, 1), OTHER_KIND);
            s.is("no n of a BODY", t.deeds(5, 0, 11), BAD);
            s.is("nothing", t.deeds(0, 0, 1), 0);
            s.is("nothing, from -1", t.deeds(0, -1, 1), 0);
            s.is("nothing, no n", t.deeds(0, 0, 0), BAD);
        });
        s.test(5, "DEEDS FROM A ROW of bytes, from place i on: by threes NEEDS, MOST, WORTH:", t -> {
            Due.lay(t, 0, 0, 7, 0, 0, 0, 99, 99, 99, 355, 256 + 99, 512);
            s.is("deeds(0, 1, 3)", t.deeds(0, 1, 3), 3);
            int[][] want = {{0, 0, 0}, {99, 99, 99}, {99, 99, 0}};
            for (int i = 0; i < 3; i++) {
                for (int what = 3; what <= 5; what++) {
                    s.is("of(" + i + ", " + what + ")", t.of(i, what), want[i][what - 3]);
                }
            }
        });
    }

    private static void deedsEnd() {
        s.test(5, "it ends where the row is missing,", t -> {
            s.is("deeds(0, 0, 10)", t.deeds(0, 0, 10), 0);
            s.is("none came", t.count(2), 0);
        });
        s.test(5, "ends (within a three, too),", t -> {
            t.row(0, 0, 60);
            s.is("from 57", t.deeds(0, 57, 10), 1);
            for (int i : new int[] {58, 59, 60, 61, MAX - 1, MAX}) {
                s.is("from " + i, t.deeds(0, i, 10), 0);
            }
            s.is("from 53", t.deeds(0, 53, 10), 2);
            for (int length = 0; length < 3; length++) {
                t.row(1, 0, length);
                s.is("a row of " + length, t.deeds(1, 0, 1), 0);
            }
            t.row(1, 0, 5);
            s.is("a row of 5", t.deeds(1, 0, 2), 1);
            s.is("they came", t.count(2), 4);
        });
        s.test(5, "one is not as it may be,", t -> {
            long[][] wrong = {{-1, 5, 5}, {255, 5, 5}, {6, 5, 5}, {0, 100, 5}, {100, 100, 5}, {0, -1, 5}, {0, 5, -1},
                {0, 5, 100}, {0, 128, 5}, {-128, 127, 0}};
            for (long[] w : wrong) {
                Due.lay(t, 0, 0, w);
                s.is("NEEDS " + w[0] + ", MOST " + w[1] + ", WORTH " + w[2], t.deeds(0, 0, 1), 0);
            }
            s.is("none came", t.count(2), 0);
            Due.lay(t, 0, 0, 1, 2, 3, 2, 1, 3, 1, 2, 3);
            s.is("the one ahead of it", t.deeds(0, 0, 3), 1);
            s.is("none behind it", t.count(2), 1);
        });
        s.test(5, "or DEEDS are FULL: those ahead came.", t -> {
            Due.lay(t, 0, 0, 1, 1, 1, 2, 2, 2, 3, 3, 3);
            for (int i = 0; i < 8; i++) {
                t.deed(0, 0);
            }
            s.is("three when two have place", t.deeds(0, 0, 3), 2);
            s.is("ten there are", t.count(2), 10);
            s.is("the last is the second", t.of(9, 3), 2);
            s.is("three when full", t.deeds(0, 0, 3), 0);
        });
    }

    private static void askMend(TemperInHive t, int number, int what, int first, int last) {
        String call = "mend(" + number + ", " + what + ", ";
        int was = t.of(number, what);
        for (int v : new int[] {first - 1, last + 1, MIN, MAX}) {
            s.is(call + v + ")", t.mend(number, what, v), BAD);
        }
        s.is("it is as it was", t.of(number, what), was);
        s.is(call + last + ")", t.mend(number, what, last), was);
        s.is("it is " + last, t.of(number, what), last);
        s.is(call + first + ")", t.mend(number, what, first), last);
        s.is("it is " + first, t.of(number, what), first);
        s.is(call + was + ")", t.mend(number, what, was), first);
    }

    private static void unknown(TemperInHive t, int what, int... numbers) {
        for (int number : numbers) {
            s.is("mend(" + number + ", " + what + ", 1)", t.mend(number, what, 1), BAD);
            s.is("of(" + number + ", " + what + ")", t.of(number, what), BAD);
        }
    }

    private static void mend() {
        s.test(6, "ON (what 0) of one,", t -> {
            for (int one = 0; one < 6; one++) {
                unknown(t, 0, one, -1, MIN, MAX);
                t.person(50);
                askMend(t, one, 0, 0, 99);
            }
            unknown(t, 0, 6, 10);
        });
        s.test(6, "IN (1; number hp),", t -> {
            for (int hive = 0; hive < 5; hive++) {
                t.person(0);
                unknown(t, 1, 10 * hive);
                t.hive(7);
                askMend(t, 10 * hive, 1, 0, 99);
                askMend(t, 11 * hive, 1, 0, 99);
                unknown(t, 1, 10 * hive + 10, 10 * hive + hive + 1, 10 * hive + 8, 10 * hive + 9);
            }
            unknown(t, 1, 5, 6, 45, 50, -1, -10, MIN, MAX);
            t.person(0);
            askMend(t, 45, 1, 0, 99);
            unknown(t, 1, 6, 46, 55);
        });
        s.test(6, "X and Y (2; v xy) of a HIVE,", t -> {
            for (int hive = 0; hive < 5; hive++) {
                unknown(t, 2, hive, -1, MIN, MAX);
                t.hive(50);
                askMend(t, hive, 2, 0, 99);
            }
            unknown(t, 2, 5, 10);
        });
        s.test(6, "NEEDS (3), MOST (4), WORTH (5) of a DEED,", t -> {
            for (int deed = 0; deed < 10; deed++) {
                unknown(t, 3, deed);
                unknown(t, 4, deed);
                unknown(t, 5, deed);
                t.deed(20, 40);
            }
            for (int deed : new int[] {0, 5, 9}) {
                askMend(t, deed, 3, 0, 40);
                askMend(t, deed, 4, 20, 99);
                askMend(t, deed, 5, 0, 99);
            }
            for (int what = 3; what <= 5; what++) {
                unknown(t, what, 10, -1, MIN, MAX);
            }
        });
        s.test(6, "NEEDS no more than MOST", t -> {
            t.deed(99, 99);
            s.is("MOST below NEEDS", t.mend(0, 4, 98), BAD);
            s.is("NEEDS to 0", t.mend(0, 3, 0), 99);
            s.is("MOST to 0", t.mend(0, 4, 0), 99);
            s.is("NEEDS above MOST", t.mend(0, 3, 1), BAD);
            s.is("NEEDS as they are", t.mend(0, 3, 0), 0);
        });
        s.test(6, "becomes v: what it was. BAD.", t -> {
            for (int what : new int[] {-1, 10, MIN, MAX}) {
                s.is("mend(0, " + what + ", 1)", t.mend(0, what, 1), BAD);
            }
            s.is("what 9, the last", t.mend(0, 9, 1), 20);
            t.person(3);
            s.is("what 0, the first", t.mend(0, 0, 1), 3);
            s.is("the same once more", t.mend(0, 0, 1), 1);
        });
    }

    private static void mendSettings() {
        s.test(6, "SEASON (0 .. 3; 0 at first).", t -> askMend(t, 0, 6, 0, 3));
        s.test(6, "REACH (1 .. 20; 10 at first)", t -> askMend(t, 0, 7, 1, 20));
        s.test(6, "FEAR (0 .. 12; 6 at first)", t -> askMend(t, 0, 8, 0, 12));
        s.test(6, "LOSS (0 .. 99; 20 at first)", t -> askMend(t, 0, 9, 0, 99));
        s.test(6, "SEASON (6), REACH (7), FEAR (8), LOSS (9; number 0 for these, another: BAD)", t -> {
            for (int what = 6; what <= 9; what++) {
                unknown(t, what, 1, -1, MIN, MAX);
                s.is("mend(0, " + what + ", 1)", t.mend(0, what, 1), new int[] {0, 10, 6, 20}[what - 6]);
            }
        });
    }

    private static void of() {
        s.test(7, "As of mend() (0 to 9). BAD.", t -> {
            t.person(21);
            t.hive(45);
            t.mend(0, 1, 26);
            t.deed(11, 22);
            int[] want = {21, 26, 45, 11, 22, 10, 0, 10, 6, 20};
            for (int what = 0; what <= 9; what++) {
                s.is("of(0, " + what + ")", t.of(0, what), want[what]);
                s.is("of(1, " + what + ")", t.of(1, what), BAD);
                s.is("of(-1, " + what + ")", t.of(-1, what), BAD);
            }
            for (int what : new int[] {-1, 10, MIN, MAX}) {
                s.is("of(0, " + what + ")", t.of(0, what), BAD);
            }
            s.is("of() is no change", t.count(4), 1);
        });
    }

    private static void feed() {
        s.test(8, "A byte (0 .. 255) comes to THE TAPE: how many it has.", t -> {
            s.is("feed(-1)", t.feed(-1), BAD);
            s.is("feed(256)", t.feed(256), BAD);
            s.is("feed(least)", t.feed(MIN), BAD);
            s.is("feed(greatest)", t.feed(MAX), BAD);
            s.is("none came", t.count(3), 0);
            s.is("feed(0)", t.feed(0), 1);
            s.is("feed(255)", t.feed(255), 2);
            s.is("two came", t.count(3), 2);
        });
        s.test(8, "BAD, FULL (120).", t -> {
            for (int i = 1; i <= 120; i++) {
                s.is("the " + i + "-th", t.feed(i == 1 ? '7' : i % 2 == 0 && i < 120 ? '*' : '1'), i);
            }
            s.is("the 121st", t.feed('1'), FULL);
            s.is("feed(256), when full", t.feed(256), BAD);
            s.is("feed(-1), when full", t.feed(-1), BAD);
            s.is("how many", t.count(3), 120);
            s.is("all 120 are the law", t.law(), 1);
            s.is("again from the first", t.feed('a'), 1);
        });
    }
}
