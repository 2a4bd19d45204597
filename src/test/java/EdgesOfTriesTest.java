import java.util.Arrays;

/** Promises 20 to 26, sentence by sentence: tries, cheats, days read back, the swarm, months by draws. */
public final class EdgesOfTriesTest {
    private static final int BAD = Sentences.BAD, NOT = Sentences.NOT;
    private static final int NOTHING_THERE = Sentences.NOTHING_THERE, OTHER_KIND = Sentences.OTHER_KIND;
    private static final int MAX = Sentences.MAX, MIN = Sentences.MIN, BYTES = Sentences.BYTES, SHORTS = Sentences.SHORTS;
    private static final Sentences s = new Sentences("EdgesOfTriesTest");

    public static void main(String[] args) {
        tries();
        triesEnd();
        next();
        leave();
        judge();
        from();
        swarm();
        drawn();
        months();
        s.end(20, 26);
    }

    private static void askTries(TemperInHive t, String row, int many, int least, int greatest) {
        s.is(row + ": how many", t.tries(0, 0, 0), many);
        s.is(row + ": the least", t.tries(0, 0, 1), least);
        s.is(row + ": the greatest", t.tries(0, 0, 2), greatest);
    }

    private static void laid(TemperInHive t, int many, int least, int greatest, long... row) {
        Due.lay(t, 0, BYTES, row);
        askTries(t, Arrays.toString(row), many, least, greatest);
    }

    private static void tries() {
        s.test(20, "which amounts in it (0 .. 99) make all so: how many; the least; the greatest (NOT; 0 makes it sting nowhere).", t -> {
            t.hive(44);
            laid(t, 100, 0, 99);
            laid(t, 1, 0, 0, 4, 4, 0);
            laid(t, 99, 1, 99, 4, 4, 1);
            laid(t, 10, 0, 9, 4, 5, 0);
            laid(t, 90, 10, 99, 3, 4, 1);
            laid(t, 10, 10, 19, 4, 5, 1, 4, 6, 0);
            laid(t, 9, 1, 9, 4, 4, 1, 5, 4, 0);
            laid(t, 10, 90, 99, 0, 9, 1);
            laid(t, 90, 0, 89, 0, 9, 0);
            laid(t, 0, NOT, NOT, 9, 9, 1);
            laid(t, 100, 0, 99, 9, 9, 0);
            laid(t, 0, NOT, NOT, 4, 4, 0, 4, 4, 1);
            laid(t, 0, NOT, NOT, 4, 6, 1, 4, 5, 0);
            t.mend(0, 7, 1);
            t.mend(0, 2, 0);
            laid(t, 82, 18, 99, 9, 9, 1);
            laid(t, 18, 0, 17, 9, 9, 0);
            laid(t, 1, 17, 17, 9, 9, 0, 8, 9, 1);
            t.mend(0, 7, 20);
            laid(t, 20, 80, 99, 4, 0, 1);
            laid(t, 0, NOT, NOT, 5, 0, 1);
        });
        s.test(20, "near one told HIVE alone", t -> {
            t.person(0);
            t.hive(44);
            t.hive(45);
            t.mend(0, 1, 99);
            t.mend(10, 1, 99);
            laid(t, 1, 0, 0, 4, 4, 0);
            s.is("the other one", t.tries(0, 1, 2), 9);
            for (int hive = 2; hive < 5; hive++) {
                s.is("hive " + hive + " ahead of it", t.tries(0, hive, 0), BAD);
                t.hive(44 + hive);
                s.is("hive " + hive, t.tries(0, hive, 2), 10 * hive - 1);
            }
        });
        s.test(20, "TRIES: how many (what 0), the least (1; NOT), the greatest (2; NOT). BAD, -11, -12.", t -> {
            s.is("no HIVE, nothing there", t.tries(0, 0, 0), BAD);
            t.hive(0);
            for (int wrong : new int[] {-1, 6, MIN, MAX}) {
                s.is("SHELF " + wrong, t.tries(wrong, 0, 0), BAD);
                s.is("HIVE " + wrong + ", nothing there", t.tries(0, wrong, 0), BAD);
            }
            for (int what : new int[] {-1, 3, MIN, MAX}) {
                s.is("what " + what + ", nothing there", t.tries(0, 0, what), BAD);
            }
            s.is("HIVE 1", t.tries(0, 1, 0), BAD);
            s.is("nothing there", t.tries(0, 0, 0), NOTHING_THERE);
            for (int sort = 1; sort <= 4; sort++) {
                t.row(sort, sort, 3);
                s.is("sort " + sort, t.tries(sort, 0, 2), OTHER_KIND);
                s.is("sort " + sort + ", what 3", t.tries(sort, 0, 3), BAD);
            }
            t.body(0);
            t.keep(5, 0);
            s.is("a BODY", t.tries(5, 0, 1), OTHER_KIND);
        });
    }

    private static void triesEnd() {
        s.test(20, "TRIES: a ROW of bytes: by threes X, Y and whether it stung (0, 1) near one told HIVE alone", t -> {
            t.hive(0);
            t.mend(0, 7, 1);
            laid(t, 82, 18, 99, 9, 9, 1);
            laid(t, 18, 0, 17, 9, 9, 256);
            laid(t, 91, 9, 99, 0, 9, 1);
            laid(t, 91, 9, 99, 9, 0, 1);
        });
        s.test(20, "(it ends with what lacks, or is not as it may be)", t -> {
            t.hive(44);
            long[][] wrong = {{10, 4, 1}, {-1, 4, 1}, {4, 10, 1}, {4, -1, 1}, {4, 4, 2}, {4, 4, -1}, {127, 4, 1}, {4, -128, 1}};
            for (long[] w : wrong) {
                laid(t, 90, 10, 99, 4, 5, 1, w[0], w[1], w[2], 4, 6, 0);
            }
            laid(t, 90, 10, 99, 4, 5, 1, 4);
            laid(t, 90, 10, 99, 4, 5, 1, 4, 6);
            laid(t, 10, 10, 19, 4, 5, 1, 4, 6, 0);
            laid(t, 100, 0, 99, 4);
            laid(t, 100, 0, 99, 4, 4);
            long[] whole = new long[60];
            Arrays.fill(whole, 4);
            for (int i = 2; i < 60; i += 3) {
                whole[i] = 1;
            }
            whole[58] = 6;
            laid(t, 80, 20, 99, whole);
            laid(t, 99, 1, 99, Arrays.copyOf(whole, 59));
        });
    }

    private static void askNext(TemperInHive t, int want, long... row) {
        Due.lay(t, 0, BYTES, row);
        s.is("next() by " + Arrays.toString(row), t.next(0, 0), want);
    }

    private static void next() {
        s.test(21, "NEXT TRY: at which distance from it (0 .. 18) one more try parts those amounts best:", t -> {
            t.hive(0);
            askNext(t, 5);
            t.mend(0, 7, 1);
            askNext(t, 18);
            askNext(t, 0, 9, 9, 1); // all of them sting at every distance
            askNext(t, 9, 9, 9, 0);
            t.mend(0, 7, 2);
            askNext(t, 18);
            t.mend(0, 7, 3);
            askNext(t, 17);
        });
        s.test(21, "the greater of both parts is least (of like ones the least);", t -> {
            t.hive(0);
            t.mend(0, 7, 20);
            askNext(t, 2); // 60 and 40; at 3: 40 and 60
            askNext(t, 0, 0, 0, 0);
            askNext(t, 0, 1, 0, 0); // 1 and 19
            askNext(t, 0, 2, 0, 0, 1, 0, 1); // all alike at each distance
            t.mend(0, 7, 10);
            askNext(t, 2, 4, 0, 0, 0, 0, 1); // 1 to 39: 20 and 19
            askNext(t, 2, 4, 0, 0); // 0 to 39
        });
        s.test(21, "NOT: none makes all so.", t -> {
            t.hive(0);
            askNext(t, NOT, 0, 0, 0, 0, 0, 1);
            askNext(t, NOT, 9, 9, 1);
            askNext(t, 0, 0, 0, 0);
            askNext(t, 0, 0, 9, 1);
        });
        s.test(21, "NEXT TRY. BAD, -11, -12; NOT.", t -> {
            s.is("no HIVE, nothing there", t.next(0, 0), BAD);
            t.hive(0);
            for (int wrong : new int[] {-1, 6, MIN, MAX}) {
                s.is("SHELF " + wrong, t.next(wrong, 0), BAD);
                s.is("HIVE " + wrong + ", nothing there", t.next(0, wrong), BAD);
            }
            s.is("HIVE 1", t.next(0, 1), BAD);
            s.is("nothing there", t.next(0, 0), NOTHING_THERE);
            for (int sort = 1; sort <= 4; sort++) {
                t.row(sort, sort, 3);
                s.is("sort " + sort, t.next(sort, 0), OTHER_KIND);
                s.is("sort " + sort + ", HIVE 1", t.next(sort, 1), BAD);
            }
            t.body(0);
            t.keep(5, 0);
            s.is("a BODY", t.next(5, 0), OTHER_KIND);
        });
    }

    private static void askLeave(TemperInHive t, int fear, int loss, int v, int costs) {
        t.mend(0, 8, fear);
        t.mend(0, 9, loss);
        s.is("FEAR " + fear + ", LOSS " + loss, t.leave(0), v);
        s.is("FEAR " + fear + ", LOSS " + loss + ", costs", t.leave(1), costs);
    }

    private static void leave() {
        s.test(22, "CHEATS: one with v on him is cheated by FEAR less v by 10 (cut) of twelve (0 at least) of LOSS;", t -> {
            askLeave(t, 0, 99, 0, 0);
            askLeave(t, 12, 0, 0, 0);
            askLeave(t, 0, 0, 0, 0);
            askLeave(t, 1, 99, 10, 24);
            askLeave(t, 9, 99, 90, 216);
            askLeave(t, 10, 99, 90, 315);
        });
        s.test(22, "having v on him costs v by 5 (cut): LEAVE: the v (0 .. 99) by which both together, times 12, are least", t -> {
            askLeave(t, 12, 99, 90, 3 * 99 + 12 * 18);
            askLeave(t, 12, 25, 90, 3 * 25 + 12 * 18);
            askLeave(t, 12, 23, 0, 12 * 23);
        });
        s.test(22, "(of like ones the least): it; that.", t -> {
            askLeave(t, 6, 24, 0, 144);
            askLeave(t, 12, 24, 0, 288);
            askLeave(t, 6, 25, 60, 144);
            askLeave(t, 6, 23, 0, 138);
            askLeave(t, 1, 25, 10, 24);
        });
        s.test(22, "CHEATS: LEAVE (what 0), that (1). BAD.", t -> {
            for (int what : new int[] {-1, 2, MIN, MAX}) {
                s.is("leave(" + what + ")", t.leave(what), BAD);
            }
            s.is("leave(0) on a new one", t.leave(0), 0);
            s.is("leave(1) on a new one", t.leave(1), 120);
        });
    }

    private static void askJudge(TemperInHive t, int want, long... row) {
        Due.lay(t, 0, SHORTS, row);
        s.is("judge() of " + Arrays.toString(row), t.judge(0), want);
    }

    private static void judge() {
        s.test(23, "DAYS: a ROW of shorts: by twos one and what he had on him: JUDGED by ON: the first that is not so; NOT.", t -> {
            t.person(0);
            t.person(99);
            askJudge(t, NOT);
            askJudge(t, NOT, 0, 0);
            askJudge(t, NOT, 1, 99, 0, 0);
            askJudge(t, 0, 0, 1);
            askJudge(t, 0, 0, -1);
            askJudge(t, 0, 1, 98);
            askJudge(t, 0, 1, 100);
            askJudge(t, 0, 1, 99 + 256);
            askJudge(t, NOT, 1, 99 + 65536);
            askJudge(t, 1, 0, 0, 2, 0);
            askJudge(t, 1, 0, 0, -1, 0);
            askJudge(t, 0, 256, 0);
            askJudge(t, 0, Short.MAX_VALUE, 0);
            askJudge(t, 0, Short.MIN_VALUE, 0);
            askJudge(t, 1, 0, 0, 0, 1, 1, 98);
            askJudge(t, 0, 0);
            askJudge(t, 1, 1, 99, 1);
        });
        s.test(23, "the first that is not so; NOT.", t -> {
            t.person(0);
            t.row(0, SHORTS, 60);
            s.is("thirty", t.judge(0), NOT);
            t.put(0, 59, 1);
            s.is("the last", t.judge(0), 29);
            t.put(0, 58, 1);
            s.is("nobody such at the last", t.judge(0), 29);
            t.put(0, 0, 1);
            s.is("the first", t.judge(0), 0);
            t.row(0, SHORTS, 59);
            s.is("the last lacks what he had", t.judge(0), 29);
        });
        s.test(23, "JUDGED. BAD, -11, -12 (no ROW of shorts); NOT.", t -> {
            for (int shelf : new int[] {-1, 6, MIN, MAX}) {
                s.is("SHELF " + shelf, t.judge(shelf), BAD);
            }
            for (int shelf = 0; shelf <= 5; shelf++) {
                s.is("nothing there", t.judge(shelf), NOTHING_THERE);
                t.row(shelf, shelf == 5 ? SHORTS : shelf, 0);
                s.is("sort " + shelf, t.judge(shelf), shelf == 1 || shelf == 5 ? NOT : OTHER_KIND);
            }
            t.body(0);
            t.keep(1, 0);
            s.is("a BODY", t.judge(1), OTHER_KIND);
        });
    }

    private static void from() {
        s.test(24, "TAKEN: from which HIVES (bits) one may just have taken v (1 .. 99: ON is that or more now, and IN of his there "
            + "and v no more than 99).", t -> {
            t.person(50);
            t.person(99);
            t.hive(0);
            t.mend(0, 1, 49);
            t.mend(1, 1, 99);
            s.is("ON is v, IN and v 99", t.from(0, 50), 1);
            s.is("ON is less", t.from(0, 51), 0);
            t.mend(0, 1, 50);
            s.is("IN and v 100", t.from(0, 50), 0);
            s.is("IN and v 99", t.from(0, 49), 1);
            s.is("a full one", t.from(1, 1), 0);
            t.mend(1, 1, 98);
            s.is("the first", t.from(1, 1), 1);
            s.is("v 2", t.from(1, 2), 0);
            t.mend(1, 1, 0);
            s.is("the last", t.from(1, 99), 1);
            t.mend(1, 0, 98);
            s.is("99 of 98", t.from(1, 99), 0);
        });
        s.test(24, "TAKEN: bits. BAD.", t -> {
            s.is("nobody", t.from(0, 1), BAD);
            for (int one = 0; one < 6; one++) {
                t.person(1);
            }
            s.is("no HIVES", t.from(5, 1), 0);
            for (int one : new int[] {-1, 6, MIN, MAX}) {
                s.is("from(" + one + ", 1)", t.from(one, 1), BAD);
            }
            for (int v : new int[] {0, 100, -1, MIN, MAX}) {
                s.is("from(0, " + v + ")", t.from(0, v), BAD);
            }
            for (int hive = 0; hive < 5; hive++) {
                t.hive(0);
                s.is("from " + hive + " too", t.from(5, 1), (2 << hive) - 1);
            }
            t.mend(25, 1, 99);
            s.is("all but the third", t.from(5, 1), 27);
            s.is("another's is not full", t.from(4, 1), 31);
        });
    }

    private static void swarm() {
        s.test(25, "SWARM: if all HIVES were put together: IN of all; how far it would STING.", t -> {
            for (int hive = 0; hive < 5; hive++) {
                t.hive(hive);
            }
            for (int one = 0; one < 6; one++) {
                t.person(99);
            }
            s.is("nothing", t.swarm(0), 0);
            s.is("nowhere", t.swarm(1), NOT);
            t.mend(45, 1, 1);
            s.is("one", t.swarm(0), 1);
            s.is("its own CELL", t.swarm(1), 0);
            t.mend(0, 1, 8);
            s.is("nine together", t.swarm(1), 0);
            t.mend(0, 1, 9);
            s.is("ten together", t.swarm(1), 1);
            for (int hive = 0; hive < 5; hive++) {
                for (int one = 0; one < 6; one++) {
                    t.mend(10 * hive + one, 1, 99);
                }
            }
            s.is("all are full", t.swarm(0), 2970);
            s.is("how far by REACH 10", t.swarm(1), 297);
            t.mend(0, 7, 1);
            s.is("how far by REACH 1", t.swarm(1), 2970);
            t.mend(0, 7, 20);
            s.is("how far by REACH 20", t.swarm(1), 148);
            s.is("ON is not in them", t.of(0, 0), 99);
        });
        s.test(25, "SWARM: IN of all (what 0), how far (1; NOT: nowhere). BAD.", t -> {
            for (int what : new int[] {-1, 2, MIN, MAX}) {
                s.is("swarm(" + what + ")", t.swarm(what), BAD);
            }
            s.is("no HIVES", t.swarm(0), 0);
            s.is("no HIVES, how far", t.swarm(1), NOT);
        });
    }

    /** The CELL of each day's draw, reckoned in longs. */
    private static int[] draws(int seed, int days) {
        int[] cells = new int[days];
        long z = seed;
        for (int d = 0; d < days; d++) {
            z = z * 1103515245L + 12345L & 0xFFFFFFFFL;
            cells[d] = (int) ((z >> 6) % 10 + 10 * ((z >> 12) % 10));
        }
        return cells;
    }

    /** A HIVE that STINGS in one CELL alone, and does not change. */
    private static void oneCell(TemperInHive t) {
        t.person(0);
        t.hive(0);
        t.mend(0, 1, 1);
        Due.tell(t, "1");
    }

    private static void drawn() {
        s.test(26, "z = z * 1103515245 + 12345 (an int; SEED at first) ahead of each day:", t -> {
            oneCell(t);
            for (int seed : new int[] {0, 1, -1, MIN, MAX, 12345}) {
                for (int day = 1; day <= 30; day++) {
                    int[] cells = draws(seed, day);
                    int cell = cells[day - 1];
                    t.mend(0, 2, cell);
                    int many = (int) Arrays.stream(cells).filter(c -> c == cell).count();
                    s.is("SEED " + seed + ", till day " + day, t.drawn(seed, 100 + day, 0), many);
                }
            }
        });
        s.test(26, "somebody goes to CELL X (z >>> 6) % 10, Y (z >>> 12) % 10:", t -> {
            oneCell(t);
            int[] cells = draws(MIN + 7, 900);
            for (int xy = 0; xy < 100; xy++) {
                int cell = xy;
                t.mend(0, 2, cell);
                int many = (int) Arrays.stream(cells).filter(c -> c == cell).count();
                s.is("in CELL " + cell + " on 900 days", t.drawn(MIN + 7, 3030, 0), many);
            }
        });
        s.test(26, "STINGS there, all together", t -> {
            s.is("no HIVES", t.drawn(1, 3030, 0), 0);
            t.person(0);
            t.mend(0, 7, 1);
            Due.tell(t, "a");
            for (int hive = 0; hive < 5; hive++) {
                t.hive(0);
                s.is("an empty one more", t.drawn(1, 3030, 0), 900 * hive);
                t.mend(10 * hive, 1, 18);
                s.is("HIVES " + (hive + 1), t.drawn(1, 3030, 0), 900 * (hive + 1));
                s.is("days with " + (hive + 1), t.drawn(1, 3030, 1), 900);
            }
        });
        s.test(26, "DRAWN (nm: 100 n and m): STINGS (what 0), days (1). BAD.", t -> {
            for (int nm : new int[] {0, 1, 30, 31, 99, 100, 131, 199, 200, 3000, 3031, 3099, 3100, 3101, 3130, -1, -101, -3030, MIN,
                MAX}) {
                s.is("drawn(1, " + nm + ", 0)", t.drawn(1, nm, 0), BAD);
            }
            for (int nm : new int[] {101, 130, 3001, 3030, 1515}) {
                s.is("drawn(1, " + nm + ", 0)", t.drawn(1, nm, 0), 0);
                for (int what : new int[] {-1, 2, MIN, MAX}) {
                    s.is("drawn(1, " + nm + ", " + what + ")", t.drawn(1, nm, what), BAD);
                }
            }
        });
    }

    /** A HIVE that STINGS everywhere as long as something is in it. */
    private static void everywhere(TemperInHive t, String law) {
        t.person(0);
        t.hive(44);
        t.mend(0, 1, 50);
        t.mend(0, 7, 1);
        Due.tell(t, law);
    }

    private static void months() {
        s.test(26, "DRAWN: n months (1 .. 30) of m days (1 .. 30) from now by a SEED:", t -> {
            everywhere(t, "0");
            s.is("a month of a day", t.drawn(9, 101, 0), 1);
            s.is("a month of 30", t.drawn(9, 130, 0), 1);
            s.is("30 months of a day, each from now", t.drawn(9, 3001, 0), 30);
            s.is("30 of 30", t.drawn(9, 3030, 1), 30);
            s.is("it is a thought alone", t.of(0, 1), 50);
            s.is("no days are LED", t.led(2), 0);
        });
        s.test(26, "(a day passes behind it, by THE LAW with d); on how many days one was STUNG.", t -> {
            everywhere(t, "d=28?0;a");
            s.is("29 days of 30", t.drawn(9, 130, 1), 29);
            s.is("in each month", t.drawn(9, 3030, 1), 870);
            Due.tell(t, "d=29?0;a");
            s.is("the last day's law comes behind it", t.drawn(9, 3030, 1), 900);
            Due.tell(t, "d=0?0;a");
            s.is("the first alone", t.drawn(9, 230, 1), 2);
            t.hive(44);
            t.mend(10, 1, 50);
            s.is("two on it", t.drawn(9, 230, 0), 4);
            s.is("as many days", t.drawn(9, 230, 1), 2);
        });
    }
}
