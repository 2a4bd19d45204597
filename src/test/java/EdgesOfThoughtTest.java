/** Promises 10 to 19, sentence by sentence: days in thought, rounds, who should do what, ways past the stings. */
public final class EdgesOfThoughtTest {
    private static final int BAD = Sentences.BAD, NOT = Sentences.NOT;
    private static final int NOTHING_THERE = Sentences.NOTHING_THERE, OTHER_KIND = Sentences.OTHER_KIND;
    private static final int MAX = Sentences.MAX, MIN = Sentences.MIN, BYTES = Sentences.BYTES;
    private static final Sentences s = new Sentences("EdgesOfThoughtTest");

    public static void main(String[] args) {
        later();
        still();
        can();
        round();
        roundSets();
        without();
        who();
        whoOfLikeOnes();
        stung();
        way();
        least();
        set();
        s.end(10, 19);
    }

    private static void land(TemperInHive t, int on, int xy, int in) {
        t.person(on);
        t.hive(xy);
        t.mend(0, 1, in);
    }

    private static void later() {
        s.test(10, "IN THOUGHT: IN of one in a HIVE, all in it, how far it STINGS, behind n days (0 .. 60).", t -> {
            land(t, 0, 0, 50);
            Due.tell(t, "a+1");
            s.is("later(0, -1)", t.later(0, -1), BAD);
            s.is("later(0, 0)", t.later(0, 0), 50);
            s.is("later(0, 1)", t.later(0, 1), 51);
            t.mend(0, 1, 1);
            s.is("later(0, 59)", t.later(0, 59), 60);
            s.is("later(0, 60)", t.later(0, 60), 61);
            s.is("later(0, 61)", t.later(0, 61), BAD);
            s.is("later(0, least)", t.later(0, MIN), BAD);
            s.is("later(0, greatest)", t.later(0, MAX), BAD);
            s.is("it is a thought alone", t.of(0, 1), 1);
        });
        s.test(10, "IN of one in a HIVE behind n days (hp; one 9: all in it; one 8: how far it STINGS, NOT: nowhere). BAD.", t -> {
            s.is("no HIVE", t.later(9, 0), BAD);
            t.hive(0);
            s.is("all that nobody has", t.later(9, 0), 0);
            s.is("how far it STINGS", t.later(8, 0), NOT);
            s.is("nobody's", t.later(0, 0), BAD);
            for (int one = 0; one < 6; one++) {
                s.is("later(" + one + ", 0) ahead of him", t.later(one, 0), BAD);
                t.person(0);
                s.is("later(" + one + ", 0)", t.later(one, 0), 0);
            }
            for (int hp : new int[] {6, 7, 10, 18, 19, 40, 48, 49, -1, -2, -10, -8, MIN, MAX}) {
                s.is("later(" + hp + ", 0)", t.later(hp, 0), BAD);
            }
            for (int hive = 1; hive < 5; hive++) {
                t.hive(0);
            }
            t.mend(45, 1, 33);
            s.is("the last one in the last HIVE", t.later(45, 0), 33);
            s.is("later(49, 0)", t.later(49, 0), 33);
            s.is("later(48, 0)", t.later(48, 0), 3);
            for (int hp : new int[] {46, 47, 50, 55, 58, 59}) {
                s.is("later(" + hp + ", 0)", t.later(hp, 0), BAD);
            }
        });
        s.test(10, "how far it STINGS, NOT: nowhere", t -> {
            land(t, 0, 0, 1);
            s.is("of 1", t.later(8, 0), 0);
            t.mend(0, 1, 9);
            s.is("of 9", t.later(8, 0), 0);
            s.is("9 behind 60 days", t.later(8, 60), 0);
            t.mend(0, 1, 10);
            s.is("of 10", t.later(8, 0), 1);
            Due.tell(t, "10-d*5");
            s.is("of 10 behind a day", t.later(8, 1), 1);
            s.is("of 5 behind two", t.later(8, 2), 0);
            s.is("of 0 behind three", t.later(8, 3), NOT);
            s.is("all in it then", t.later(9, 3), 0);
            Due.tell(t, "99");
            t.mend(0, 7, 1);
            for (int one = 1; one < 6; one++) {
                t.person(0);
                t.mend(one, 1, 1);
            }
            s.is("all in it, of six", t.later(9, 60), 594);
            s.is("how far by REACH 1", t.later(8, 60), 594);
            t.mend(0, 7, 20);
            s.is("how far by REACH 20", t.later(8, 60), 29);
        });
    }

    private static void still() {
        s.test(11, "STILL: behind how many days (0 .. 99) the first day passes that changes nothing of what is in a HIVE (NOT by 99).",
            t -> {
                land(t, 0, 0, 50);
                Due.tell(t, "d<98?d%2+1;a");
                s.is("the 98th", t.still(0), 98);
                Due.tell(t, "d<99?d%2+1;a");
                s.is("the 99th", t.still(0), 99);
                Due.tell(t, "d<100?d%2+1;a");
                s.is("not by 99", t.still(0), NOT);
                Due.tell(t, "d%2+1");
                s.is("never", t.still(0), NOT);
                Due.tell(t, "a");
                s.is("at once", t.still(0), 0);
                Due.tell(t, "51");
                s.is("behind one", t.still(0), 1);
            });
        s.test(11, "changes nothing of what is in a HIVE", t -> {
            t.person(0);
            t.person(0);
            t.hive(0);
            t.hive(1);
            s.is("nothing in it", t.still(0), 0);
            t.mend(0, 1, 10);
            t.mend(1, 1, 20);
            t.mend(10, 1, 5);
            Due.tell(t, "n-a");
            s.is("all together as it was, but not each", t.still(0), NOT);
            s.is("one alone comes to 0", t.still(1), 1);
            Due.tell(t, "a>19&a<99?a+1;a");
            s.is("one of two, till 99", t.still(0), 79);
            s.is("another HIVE", t.still(1), 0);
        });
        s.test(11, "STILL. BAD; NOT.", t -> {
            for (int hive = 0; hive < 5; hive++) {
                s.is("still(" + hive + ") ahead of it", t.still(hive), BAD);
                t.hive(0);
                s.is("still(" + hive + ")", t.still(hive), 0);
            }
            for (int hive : new int[] {-1, 5, MIN, MAX}) {
                s.is("still(" + hive + ")", t.still(hive), BAD);
            }
        });
    }

    private static void can() {
        s.test(12, "A DEED may be done by one with ON no less than NEEDS, no more than MOST.", t -> {
            t.person(0);
            t.deed(20, 40);
            t.deed(0, 0);
            t.deed(99, 99);
            int[][] may = {{0, 2}, {1, 0}, {19, 0}, {20, 1}, {21, 1}, {39, 1}, {40, 1}, {41, 0}, {98, 0}, {99, 4}};
            for (int[] m : may) {
                t.mend(0, 0, m[0]);
                s.is("can(0, 0) with " + m[0], t.can(0, 0), m[1]);
                s.is("can(0, 1) with " + m[0] + " and no HIVE", t.can(0, 1), m[1]);
            }
        });
        s.test(12, "CAN: which DEEDS (bits) one may do now; by taking any of his from one HIVE, or putting any in", t -> {
            land(t, 20, 0, 25);
            t.deed(45, 99);
            t.deed(46, 99);
            t.deed(0, 0);
            t.deed(21, 21);
            t.deed(19, 19);
            s.is("now", t.can(0, 0), 0);
            s.is("by a HIVE", t.can(0, 1), 1 + 4 + 8 + 16);
            t.hive(1);
            t.mend(10, 1, 25);
            s.is("not from two", t.can(0, 1), 1 + 4 + 8 + 16);
            t.mend(10, 1, 26);
            s.is("from the other", t.can(0, 1), 31);
            t.person(20);
            s.is("nothing of his lies there", t.can(1, 1), 4 + 16);
        });
        s.test(12, "(ON 0 .. 99, IN 0 .. 99): bits.", t -> {
            land(t, 20, 0, 80);
            t.deed(0, 0);
            t.deed(1, 1);
            t.deed(99, 99);
            t.deed(98, 98);
            s.is("IN 80: 19 may be put in", t.can(0, 1), 2 + 4 + 8);
            t.mend(0, 1, 79);
            s.is("IN 79: 20 may be put in; ON 99", t.can(0, 1), 1 + 2 + 4 + 8);
            t.mend(0, 1, 78);
            s.is("IN 78: ON 98", t.can(0, 1), 1 + 2 + 8);
            t.mend(0, 1, 99);
            t.mend(0, 0, 1);
            s.is("a full one takes none, ON 99", t.can(0, 1), 2 + 4 + 8);
            t.mend(0, 0, 0);
            s.is("any of what it has", t.can(0, 1), 15);
            t.mend(0, 0, 98);
            s.is("one of it", t.can(0, 1), 4 + 8);
            t.hive(0);
            s.is("another takes all", t.can(0, 1), 15);
            t.hive(0);
            t.hive(0);
            t.hive(0);
            t.mend(0, 0, 0);
            for (int hive = 0; hive < 4; hive++) {
                t.mend(10 * hive, 1, 0);
            }
            s.is("nothing in five", t.can(0, 1), 1);
            t.mend(40, 1, 98);
            s.is("98 in the fifth", t.can(0, 1), 1 + 2 + 8);
        });
        s.test(12, "CAN: now (what 0), by any HIVE (1). BAD.", t -> {
            s.is("nobody", t.can(0, 0), BAD);
            for (int one = 0; one < 6; one++) {
                t.person(one);
            }
            for (int what : new int[] {-1, 2, MIN, MAX}) {
                s.is("can(0, " + what + ")", t.can(0, what), BAD);
            }
            for (int one : new int[] {-1, 6, MIN, MAX}) {
                s.is("can(" + one + ", 0)", t.can(one, 0), BAD);
                s.is("can(" + one + ", 1)", t.can(one, 1), BAD);
            }
            s.is("no DEEDS", t.can(5, 1), 0);
            for (int deed = 0; deed < 10; deed++) {
                t.deed(0, deed < 5 ? 4 : 5);
            }
            s.is("all ten by 4", t.can(4, 0), 1023);
            s.is("the last five by 5", t.can(5, 0), 992);
        });
    }

    /** ON 5, IN 10; DEEDS: 0 up to 5, 1 from 6 to 9, 2 from 15, 3 from 16. */
    private static void roundLand(TemperInHive t) {
        land(t, 5, 0, 10);
        t.deed(0, 5);
        t.deed(6, 9);
        t.deed(15, 99);
        t.deed(16, 99);
    }

    private static void round() {
        s.test(13, "A ROUND: a ROW of bytes on a SHELF: DEEDS one behind the other (20 at most; it ends with what is none)", t -> {
            roundLand(t);
            long[] row = new long[60];
            row[19] = 1;
            Due.lay(t, 0, BYTES, row);
            s.is("goings with the 20th", t.round(0, 0, -1), 1);
            s.is("ON at the 19th", t.round(0, 0, 18), 5);
            s.is("ON at the 20th", t.round(0, 0, 19), 6);
            s.is("there is no 21st", t.round(0, 0, 20), NOT);
            t.put(0, 19, 0);
            t.put(0, 20, 3);
            s.is("goings without the 21st", t.round(0, 0, -1), 0);
            s.is("ON at the 20th", t.round(0, 0, 19), 5);
            for (int none : new int[] {4, -1, 127, -128}) {
                Due.lay(t, 1, BYTES, 0, none, 3);
                s.is("goings till " + none, t.round(1, 0, -1), 0);
                s.is("ON at the first", t.round(1, 0, 0), 5);
                s.is("none at it", t.round(1, 0, 1), NOT);
            }
            t.put(1, 1, 260);
            s.is("the lowest bits of 260", t.round(1, 0, -1), 0);
            t.put(1, 1, 257);
            s.is("the lowest bits of 257", t.round(1, 0, 1), NOT);
            t.put(1, 2, 0);
            s.is("257 is DEED 1", t.round(1, 0, 1), 6);
        });
        s.test(13, "A ROUND of one: fewest goings (k -1), ON at the k-th DEED (NOT: there are not as many, too).", t -> {
            roundLand(t);
            t.row(0, BYTES, 0);
            s.is("an empty ROW", t.round(0, 0, -1), 0);
            s.is("its first", t.round(0, 0, 0), NOT);
            Due.lay(t, 0, BYTES, 0);
            s.is("one DEED", t.round(0, 0, 0), 5);
            s.is("not two", t.round(0, 0, 1), NOT);
            s.is("the greatest k", t.round(0, 0, MAX), NOT);
            s.is("k -2", t.round(0, 0, -2), BAD);
            s.is("the least k", t.round(0, 0, MIN), BAD);
        });
        s.test(13, "BAD, -11, -12 (no ROW of bytes); NOT.", t -> {
            roundLand(t);
            for (int shelf : new int[] {-1, 6, MIN, MAX}) {
                s.is("SHELF " + shelf, t.round(shelf, 0, -1), BAD);
            }
            for (int one : new int[] {-1, 1, MIN, MAX}) {
                s.is("one " + one + " and nothing there", t.round(0, one, -1), BAD);
            }
            s.is("k -2 and nothing there", t.round(0, 0, -2), BAD);
            s.is("nothing there", t.round(0, 0, 60), NOTHING_THERE);
            for (int sort = 1; sort <= 4; sort++) {
                t.row(sort, sort, 1);
                s.is("sort " + sort, t.round(sort, 0, 60), OTHER_KIND);
            }
            t.body(0);
            t.keep(5, 0);
            s.is("a BODY", t.round(5, 0, -1), OTHER_KIND);
            s.is("a BODY, for nobody", t.round(5, 1, -1), BAD);
        });
    }

    private static void roundSets() {
        s.test(13, "all by one who has t of temper in all (ON and IN of all HIVES)", t -> {
            roundLand(t);
            Due.lay(t, 0, BYTES, 2);
            s.is("needs 15 of 15", t.round(0, 0, -1), 1);
            s.is("sets 15", t.round(0, 0, 0), 15);
            t.put(0, 0, 3);
            s.is("needs 16 of 15", t.round(0, 0, -1), NOT);
            s.is("nor ON", t.round(0, 0, 0), NOT);
            for (int hive = 1; hive < 5; hive++) {
                t.hive(0);
            }
            t.person(50);
            t.mend(41, 1, 50);
            s.is("another's is not his", t.round(0, 0, -1), NOT);
            t.mend(40, 1, 1);
            s.is("needs 16 of 16 with the last HIVE", t.round(0, 0, 0), 16);
            t.mend(0, 0, 4);
            s.is("of 15 again", t.round(0, 0, 0), NOT);
        });
        s.test(13, "and may go to a HIVE ahead of each and set ON to what he likes (0 .. t, 99 at most)", t -> {
            land(t, 50, 0, 0);
            t.deed(0, 0);
            t.deed(50, 50);
            t.deed(51, 51);
            t.deed(99, 99);
            Due.lay(t, 0, BYTES, 0, 1);
            s.is("goings to 0 and to t", t.round(0, 0, -1), 2);
            s.is("0", t.round(0, 0, 0), 0);
            s.is("t", t.round(0, 0, 1), 50);
            t.put(0, 1, 2);
            s.is("one more than t", t.round(0, 0, -1), NOT);
            t.mend(0, 0, 99);
            t.mend(0, 1, 99);
            t.put(0, 1, 3);
            s.is("99 of 198", t.round(0, 0, 1), 99);
        });
        s.test(13, "fewest goings (NOT: one needs more than t, or he must go and there is no HIVE);", t -> {
            t.person(20);
            t.deed(20, 20);
            t.deed(0, 19);
            t.deed(21, 99);
            Due.lay(t, 0, BYTES, 0, 0, 0);
            s.is("he need not go", t.round(0, 0, -1), 0);
            s.is("ON", t.round(0, 0, 2), 20);
            t.put(0, 2, 1);
            s.is("he must go for the last", t.round(0, 0, -1), NOT);
            s.is("no ON at the first, too", t.round(0, 0, 0), NOT);
            t.put(0, 2, 2);
            s.is("the last needs more than t", t.round(0, 0, -1), NOT);
            t.hive(0);
            s.is("with a HIVE, too", t.round(0, 0, -1), NOT);
            t.put(0, 2, 1);
            s.is("he may go now", t.round(0, 0, -1), 1);
        });
        s.test(13, "ON at the k-th DEED, by the way in which he goes as late as can be, sets it as low as can be for all till the next "
            + "going.", t -> {
            land(t, 30, 0, 30);
            t.deed(0, 10);
            t.deed(10, 20);
            t.deed(11, 30);
            t.deed(30, 60);
            Due.lay(t, 0, BYTES, 2, 3, 0, 1, 2, 1, 2);
            int[] on = {30, 30, 10, 10, 11, 11, 11};
            s.is("goings", t.round(0, 0, -1), 2);
            for (int k = 0; k < on.length; k++) {
                s.is("ON at " + k, t.round(0, 0, k), on[k]);
            }
            Due.lay(t, 0, BYTES, 1, 2, 3, 2);
            int[] then = {11, 11, 30, 30};
            s.is("goings", t.round(0, 0, -1), 2);
            for (int k = 0; k < then.length; k++) {
                s.is("then ON at " + k, t.round(0, 0, k), then[k]);
            }
            t.mend(0, 0, 10);
            Due.lay(t, 0, BYTES, 0, 1, 0);
            s.is("10 does for both", t.round(0, 0, -1), 0);
            t.mend(0, 0, 9);
            s.is("9 does not", t.round(0, 0, -1), 1);
            s.is("as late as can be", t.round(0, 0, 0), 9);
            s.is("as low as can be for all", t.round(0, 0, 2), 10);
        });
    }

    private static void without() {
        s.test(14, "WORTH of those he can do without any going: together.", t -> {
            t.person(20);
            t.deed(20, 20);
            t.deed(0, 19);
            t.deed(21, 99);
            t.deed(0, 20);
            t.deed(20, 99);
            for (int deed = 0; deed < 5; deed++) {
                t.mend(deed, 5, 1 << deed);
            }
            Due.lay(t, 0, BYTES, 0, 1, 2, 3, 4);
            s.is("without(0, 0)", t.without(0, 0), 1 + 8 + 16);
            t.mend(0, 0, 19);
            s.is("with 19", t.without(0, 0), 2 + 8);
            t.mend(0, 0, 21);
            s.is("with 21", t.without(0, 0), 4 + 16);
            t.row(0, BYTES, 0);
            s.is("of none", t.without(0, 0), 0);
            Due.lay(t, 0, BYTES, 5, 4);
            s.is("it ends with what is none", t.without(0, 0), 0);
            Due.lay(t, 0, BYTES, 4, -1, 4);
            s.is("and with -1", t.without(0, 0), 16);
        });
        s.test(14, "(20 at most; it ends with what is none)", t -> {
            t.person(0);
            t.deed(0, 0);
            t.mend(0, 5, 99);
            for (int length = 19; length <= 21; length++) {
                t.row(0, BYTES, length);
                s.is("of " + length, t.without(0, 0), 99 * Math.min(20, length));
            }
            t.row(0, BYTES, 60);
            s.is("of 60", t.without(0, 0), 1980);
        });
        s.test(14, "WORTH without going. BAD, -11, -12.", t -> {
            t.person(0);
            for (int shelf : new int[] {-1, 6, MIN, MAX}) {
                s.is("SHELF " + shelf, t.without(shelf, 0), BAD);
            }
            for (int one : new int[] {-1, 1, MIN, MAX}) {
                s.is("one " + one + " and nothing there", t.without(0, one), BAD);
            }
            s.is("nothing there", t.without(0, 0), NOTHING_THERE);
            for (int sort = 1; sort <= 4; sort++) {
                t.row(sort, sort, 1);
                s.is("sort " + sort, t.without(sort, 0), OTHER_KIND);
            }
            t.body(0);
            t.keep(5, 0);
            s.is("a BODY", t.without(5, 0), OTHER_KIND);
            s.is("a BODY, for nobody", t.without(5, 1), BAD);
        });
    }

    private static void who() {
        s.test(15, "WHO: WORTH (k -1), who does the k-th DEED. BAD; NOT.", t -> {
            s.is("no DEEDS, nobody", t.who(-1), 0);
            s.is("who(-2)", t.who(-2), BAD);
            for (int deed = 0; deed < 10; deed++) {
                s.is("who(" + deed + ") ahead of it", t.who(deed), BAD);
                t.deed(0, 99);
                s.is("who(" + deed + ") of nobody", t.who(deed), NOT);
            }
            for (int k : new int[] {10, MIN, MAX}) {
                s.is("who(" + k + ")", t.who(k), BAD);
            }
            s.is("WORTH by nobody", t.who(-1), 0);
            for (int one = 0; one < 6; one++) {
                t.person(0);
                s.is("WORTH by " + (one + 1), t.who(-1), 10 * (one + 1));
            }
            for (int deed = 0; deed < 10; deed++) {
                s.is("who(" + deed + ")", t.who(deed), deed < 6 ? deed : NOT);
            }
        });
        s.test(15, "WHO: each DEED to one who may do it now, or to nobody, each does one at most:", t -> {
            t.person(20);
            t.deed(20, 20);
            t.deed(21, 99);
            t.deed(0, 19);
            s.is("WORTH", t.who(-1), 10);
            s.is("he has 20", t.who(0), 0);
            s.is("that needs 21", t.who(1), NOT);
            s.is("that may have 19", t.who(2), NOT);
            t.mend(0, 0, 19);
            s.is("he has 19", t.who(2), 0);
            t.mend(2, 4, 99);
            t.mend(1, 3, 0);
            s.is("one at most", t.who(-1), 10);
        });
        s.test(15, "most WORTH together;", t -> {
            for (int deed = 0; deed < 10; deed++) {
                t.deed(10 * deed, 10 * deed + 9);
                t.mend(deed, 5, 99);
            }
            for (int one = 0; one < 6; one++) {
                t.person(99 - 10 * one);
            }
            s.is("six of the greatest", t.who(-1), 594);
            for (int deed = 0; deed < 10; deed++) {
                s.is("who(" + deed + ")", t.who(deed), deed < 4 ? NOT : 9 - deed);
            }
            t.mend(5, 5, 0);
            s.is("one of none", t.who(-1), 495);
            s.is("he does it, too", t.who(5), 4);
        });
    }

    private static void whoOfLikeOnes() {
        s.test(15, "who does the k-th DEED (NOT: nobody; of like ones the first by numbers, DEED by DEED, nobody behind all).", t -> {
            t.person(10);
            t.person(10);
            t.person(5);
            t.deed(0, 99);
            t.deed(10, 99);
            s.is("0 does the first", t.who(0), 0);
            s.is("1 does the second", t.who(1), 1);
            t.deed(10, 10);
            s.is("WORTH of all three", t.who(-1), 30);
            s.is("2 must do the first", t.who(0), 2);
            s.is("0 does the second", t.who(1), 0);
            s.is("1 does the third", t.who(2), 1);
            for (int deed = 0; deed < 3; deed++) {
                t.mend(deed, 5, 0);
            }
            s.is("no WORTH", t.who(-1), 0);
            s.is("somebody, not nobody", t.who(0), 0);
            s.is("somebody else", t.who(1), 1);
            s.is("nobody is left who may", t.who(2), NOT);
            t.mend(2, 5, 1);
            s.is("one WORTH", t.who(-1), 1);
            s.is("the first takes 0", t.who(0), 0);
            s.is("2 may not do the second, 1 is wanted", t.who(1), NOT);
            s.is("1 does the third", t.who(2), 1);
        });
    }

    private static int apart(int a, int b) {
        return Math.abs(a % 10 - b % 10) + Math.abs(a / 10 - b / 10);
    }

    private static void stung() {
        s.test(16, "A HIVE STINGS in all CELLS no farther from it (X and Y apart together) than all that is in it by REACH (cut);", t -> {
            land(t, 0, 37, 29);
            for (int xy = 0; xy < 100; xy++) {
                s.is("stung(" + xy + ") of 29", t.stung(xy), apart(xy, 37) <= 2 ? 1 : 0);
            }
            t.person(0);
            t.mend(1, 1, 1);
            for (int xy = 0; xy < 100; xy++) {
                s.is("stung(" + xy + ") of 30", t.stung(xy), apart(xy, 37) <= 3 ? 1 : 0);
            }
        });
        s.test(16, "if nothing is in it, nowhere.", t -> {
            land(t, 0, 44, 0);
            s.is("in its own CELL", t.stung(44), 0);
            t.mend(0, 1, 1);
            s.is("of 1", t.stung(44), 1);
            s.is("of 1, beside it", t.stung(45), 0);
            t.mend(0, 1, 10);
            s.is("of 10, beside it", t.stung(45), 1);
            s.is("of 10, at a corner", t.stung(55), 0);
            t.mend(0, 7, 1);
            t.mend(0, 1, 17);
            t.mend(0, 2, 0);
            s.is("of 17 by REACH 1, 18 from it", t.stung(99), 0);
            s.is("of 17 by REACH 1, 17 from it", t.stung(98), 1);
            t.mend(0, 1, 18);
            s.is("of 18 by REACH 1, 18 from it", t.stung(99), 1);
            t.mend(0, 7, 20);
            s.is("of 18 by REACH 20", t.stung(0), 1);
            s.is("of 18 by REACH 20, beside it", t.stung(1), 0);
        });
        s.test(16, "STUNG: bits. BAD.", t -> {
            for (int xy : new int[] {-1, 100, MIN, MAX}) {
                s.is("stung(" + xy + ")", t.stung(xy), BAD);
            }
            t.person(0);
            for (int hive = 0; hive < 5; hive++) {
                t.hive(99);
                t.mend(10 * hive, 1, 10);
                s.is("stung(99) by " + hive, t.stung(99), (2 << hive) - 1);
            }
            t.mend(20, 1, 0);
            s.is("without the third", t.stung(99), 27);
            t.mend(4, 2, 0);
            s.is("the last alone", t.stung(0), 16);
        });
        s.test(16, "STUNG: which HIVES (bits) STING in a CELL.", t -> {
            t.hive(5);
            s.is("nobody has anything", t.stung(5), 0);
        });
    }

    private static void way() {
        s.test(17, "A WAY from a CELL to another by steps to side CELLS through none that is STUNG (both ends, too):", t -> {
            s.is("from corner to corner", t.way(0, 99), 18);
            s.is("from 9 to 10, which is no side CELL", t.way(9, 10), 10);
            s.is("to itself", t.way(55, 55), 0);
            land(t, 0, 55, 1);
            s.is("from what is STUNG", t.way(55, 54), NOT);
            s.is("to what is STUNG", t.way(54, 55), NOT);
            s.is("from STUNG to itself", t.way(55, 55), NOT);
            s.is("beside it", t.way(54, 54), 0);
            s.is("round it", t.way(54, 56), 4);
        });
        s.test(17, "the fewest steps; NOT.", t -> {
            t.person(0);
            for (int hive = 0; hive < 5; hive++) {
                t.hive(11 + 20 * hive);
                t.mend(10 * hive, 1, 10); // a comb along the left side: every CELL of X 1, and X 0 beside it
            }
            s.is("past the comb", t.way(3, 93), 9);
            s.is("between its teeth", t.way(0, 93), NOT);
            t.mend(0, 1, 9);
            s.is("the first tooth gone", t.way(0, 93), 12);
            s.is("to the next", t.way(0, 20), 2);
            s.is("the second stands", t.way(0, 40), NOT);
            for (int hive = 0; hive < 5; hive++) {
                t.mend(10 * hive, 2, 18 * hive + 5); // 5, 23, 41, 59, 77
                t.mend(10 * hive, 1, 19);
            }
            s.is("from side to side", t.way(0, 99), 18);
        });
        s.test(17, "A WAY (from, to: xy): steps. BAD; NOT.", t -> {
            for (int xy : new int[] {-1, 100, MIN, MAX}) {
                s.is("way(" + xy + ", 0)", t.way(xy, 0), BAD);
                s.is("way(0, " + xy + ")", t.way(0, xy), BAD);
            }
            s.is("way(99, 99)", t.way(99, 99), 0);
            land(t, 0, 0, 99);
            t.mend(0, 7, 1);
            s.is("all is STUNG", t.way(99, 99), NOT);
            s.is("BAD ahead of NOT", t.way(0, 100), BAD);
        });
    }

    private static void least() {
        s.test(18, "LEAST STUNG: the way with fewest STINGS (a HIVE that STINGS in a CELL is one; the first CELL counts), of these "
            + "fewest steps:", t -> {
            land(t, 0, 0, 1);
            s.is("STINGS in the first CELL alone", t.least(0, 0, 0), 1);
            s.is("no steps", t.least(0, 0, 1), 0);
            s.is("from it", t.least(0, 1, 0), 1);
            s.is("to it", t.least(1, 0, 0), 1);
            s.is("past it", t.least(1, 10, 0), 0);
            s.is("steps past it", t.least(1, 10, 1), 2);
            for (int hive = 1; hive < 5; hive++) {
                t.hive(0);
                t.mend(10 * hive, 1, 1);
            }
            s.is("five at once", t.least(0, 0, 0), 5);
            t.mend(0, 2, 1);
            s.is("through one", t.least(0, 99, 0), 4);
            s.is("down beside it", t.least(0, 99, 1), 18);
        });
        s.test(18, "of these fewest steps: STINGS; steps.", t -> {
            t.person(0);
            for (int hive = 0; hive < 4; hive++) {
                t.hive(20 * hive + 15 - 10 * (hive % 2)); // X 5: Y 1, 2, 5, 6
                t.mend(10 * hive, 1, 1);
            }
            s.is("STINGS round a pair", t.least(14, 16, 0), 0);
            s.is("steps round a pair", t.least(14, 16, 1), 4);
            for (int hive = 0; hive < 4; hive++) {
                t.mend(hive, 2, 50);
                t.mend(10 * hive, 1, 99);
            }
            t.mend(0, 7, 1);
            s.is("STINGS of four everywhere", t.least(0, 99, 0), 76);
            s.is("steps then", t.least(0, 99, 1), 18);
            t.hive(0);
            t.mend(40, 1, 99);
            s.is("STINGS of five everywhere", t.least(99, 0, 0), 95);
            s.is("the steps are as few", t.least(99, 0, 1), 18);
        });
        s.test(18, "LEAST STUNG: STINGS (what 0), steps (1). BAD.", t -> {
            for (int wrong : new int[] {-1, 100, MIN, MAX}) {
                s.is("least(" + wrong + ", 0, 0)", t.least(wrong, 0, 0), BAD);
                s.is("least(0, " + wrong + ", 1)", t.least(0, wrong, 1), BAD);
            }
            for (int what : new int[] {-1, 2, MIN, MAX}) {
                s.is("least(0, 0, " + what + ")", t.least(0, 0, what), BAD);
            }
            s.is("least(99, 99, 0)", t.least(99, 99, 0), 0);
            s.is("least(99, 0, 1)", t.least(99, 0, 1), 18);
        });
    }

    private static void set() {
        s.test(19, "SET: in which CELL one more HIVE with v in it (0 .. 99) leaves the WAY from a CELL to another as long as it is,", t -> {
            for (int v : new int[] {-1, 100, MIN, MAX}) {
                s.is("set(9, " + v + ", 0)", t.set(9, v, 0), BAD);
            }
            s.is("v 0: everywhere, nothing is STUNG", t.set(9, 0, 0), 0);
            s.is("v 1: the first that is not on the way", t.set(9, 1, 0), 10);
            s.is("v 89 by REACH 10, at the other side", t.set(9, 89, 0), 94);
            s.is("in how many", t.set(9, 89, 1), 65);
            s.is("v 90 by REACH 10 reaches over", t.set(9, 90, 0), NOT);
            s.is("v 99", t.set(9, 99, 1), NOT);
            t.mend(0, 7, 1);
            s.is("v 99 by REACH 1: all is STUNG", t.set(9, 99, 0), NOT);
            s.is("v 17 by REACH 1 leaves a corner", t.set(0, 17, 0), 99);
            s.is("and STINGS in all others", t.set(0, 17, 1), 99);
            s.is("v 18 by REACH 1 leaves none", t.set(0, 18, 0), NOT);
            s.is("v 16 by REACH 1 leaves the last CELL", t.set(9999, 16, 0), 1);
            s.is("and STINGS in all others", t.set(9999, 16, 1), 99);
            s.is("v 17 by REACH 1 does, from the first alone", t.set(9999, 17, 0), 0);
            s.is("in as many", t.set(9999, 17, 1), 99);
        });
        s.test(19, "and STINGS in most CELLS (of like ones the least): which; in how many; NOT: none does, or there is no WAY.", t -> {
            s.is("v 9", t.set(9, 9, 1), 1);
            s.is("v 10", t.set(9, 10, 1), 5);
            s.is("the least of those with five", t.set(9, 10, 0), 21);
            land(t, 0, 55, 1);
            s.is("no WAY from it", t.set(5500, 0, 0), NOT);
            s.is("no WAY to it", t.set(55, 0, 1), NOT);
            s.is("from it to itself", t.set(5555, 0, 0), NOT);
            s.is("CELLS that are STUNG count", t.set(9, 10, 0), 21);
            for (int hive = 1; hive < 5; hive++) {
                t.hive(55);
            }
            s.is("five there are, and one more", t.set(9, 10, 0), 21);
            s.is("none is set", t.count(1), 5);
        });
        s.test(19, "SET (ft: 100 times from, and to): which (what 0), in how many (1). BAD; NOT.", t -> {
            for (int ft : new int[] {-1, -100, 10000, MIN, MAX}) {
                s.is("set(" + ft + ", 0, 0)", t.set(ft, 0, 0), BAD);
            }
            for (int what : new int[] {-1, 2, MIN, MAX}) {
                s.is("set(0, 0, " + what + ")", t.set(0, 0, what), BAD);
                s.is("BAD ahead of NOT, " + what, t.set(0, 99, what), BAD);
            }
            s.is("set(9999, 1, 0)", t.set(9999, 1, 0), 0);
            s.is("set(0, 1, 0)", t.set(0, 1, 0), 1);
            s.is("set(9990, 1, 0)", t.set(9990, 1, 0), 0);
            s.is("set(900, 1, 0)", t.set(900, 1, 0), 10);
        });
    }
}
