import java.util.function.Consumer;
import java.util.function.ToLongFunction;

/** "What is answered so changes nothing": each call that is refused, on a land where any change would show. */
public final class RefusedTest {
    private static final int BAD = Sentences.BAD, NOT = Sentences.NOT, FULL = Sentences.FULL, STATE = Sentences.STATE;
    private static final int NOTHING_THERE = Sentences.NOTHING_THERE, OTHER_KIND = Sentences.OTHER_KIND;
    private static final int NO_PLACE = Sentences.NO_PLACE, SIZE_BELOW_0 = Sentences.SIZE_BELOW_0;
    private static final int MAX = Sentences.MAX, MIN = Sentences.MIN;
    private static final String NOTHING = "What is answered so changes nothing.";
    private static final Sentences s = new Sentences("RefusedTest");

    public static void main(String[] args) {
        people();
        rowsOfDeeds();
        mend();
        tape();
        inThought();
        rounds();
        ways();
        tries();
        cheats();
        inDeed();
        changes();
        bodies();
        shelves();
        shifts();
        s.end();
    }

    private static void refused(int promise, String call, long want, ToLongFunction<TemperInHive> asks) {
        s.refused(promise, NOTHING, t -> { }, call, asks, want);
    }

    private static void refusedThen(int promise, String call, long want, Consumer<TemperInHive> ready,
        ToLongFunction<TemperInHive> asks) {
        s.refused(promise, NOTHING, ready, call, asks, want);
    }

    private static void repeat(int times, Runnable call) {
        for (int i = 0; i < times; i++) {
            call.run();
        }
    }

    private static void people() {
        for (int v : new int[] {-1, 100, MIN, MAX}) {
            refused(2, "person(" + v + ")", BAD, t -> t.person(v));
            refused(3, "hive(" + v + ")", BAD, t -> t.hive(v));
        }
        refusedThen(2, "the seventh", FULL, t -> repeat(3, () -> t.person(7)), t -> t.person(20));
        refusedThen(3, "the sixth hive", FULL, t -> repeat(3, () -> t.hive(7)), t -> t.hive(20));
        int[][] wrong = {{-1, 5}, {5, 4}, {0, 100}, {MIN, MAX}};
        for (int[] w : wrong) {
            refused(4, "deed(" + w[0] + ", " + w[1] + ")", BAD, t -> t.deed(w[0], w[1]));
        }
        refusedThen(4, "the eleventh deed", FULL, t -> repeat(7, () -> t.deed(7, 8)), t -> t.deed(2, 3));
    }

    private static void rowsOfDeeds() {
        int[][] wrong = {{-1, 0, 1}, {6, 0, 1}, {1, 0, 0}, {1, 0, 11}, {1, 0, MIN}, {1, 0, MAX}};
        for (int[] w : wrong) {
            refused(5, "deeds(" + w[0] + ", " + w[1] + ", " + w[2] + ")", BAD, t -> t.deeds(w[0], w[1], w[2]));
        }
        for (int shelf : new int[] {0, 2, 3, 5}) {
            refused(5, "deeds(" + shelf + ", 0, 1)", OTHER_KIND, t -> t.deeds(shelf, 0, 1));
        }
        refused(5, "deeds(4, 0, 1) of a missing row", 0, t -> t.deeds(4, 0, 1));
        refused(5, "deeds(1, -3, 2)", 0, t -> t.deeds(1, -3, 2));
        refused(5, "deeds(1, 4, 1) within a three", 0, t -> t.deeds(1, 4, 1));
        refusedThen(5, "deeds(1, 0, 1) of what is not as it may be", 0, t -> t.put(1, 0, 2), t -> t.deeds(1, 0, 1));
        refusedThen(5, "deeds(1, 0, 1) when full", 0, t -> repeat(7, () -> t.deed(7, 8)), t -> t.deeds(1, 0, 1));
    }

    private static void mend() {
        int[][] wrong = { // number, what, v
            {3, 0, 1}, {-1, 0, 1}, {0, 0, 100}, {0, 0, -1}, {3, 1, 1}, {20, 1, 1}, {-1, 1, 1}, {9, 1, 1}, {8, 1, 1},
            {0, 1, 100}, {0, 1, -1}, {2, 2, 1}, {-1, 2, 1}, {0, 2, 100}, {0, 2, -1}, {3, 3, 1}, {-1, 3, 1}, {0, 3, -1},
            {0, 3, 26}, {3, 4, 1}, {-1, 4, 1}, {0, 4, 9}, {0, 4, 100}, {3, 5, 1}, {-1, 5, 1}, {0, 5, -1}, {0, 5, 100},
            {1, 6, 1}, {-1, 6, 1}, {0, 6, -1}, {0, 6, 4}, {1, 7, 5}, {0, 7, 0}, {0, 7, 21}, {1, 8, 1}, {0, 8, -1},
            {0, 8, 13}, {1, 9, 1}, {0, 9, -1}, {0, 9, 100}, {0, -1, 1}, {0, 10, 1}, {MIN, 1, 1}, {MAX, 1, 1},
            {0, MIN, 1}, {0, MAX, 1}, {0, 0, MIN}, {0, 0, MAX},
        };
        for (int[] w : wrong) {
            refused(6, "mend(" + w[0] + ", " + w[1] + ", " + w[2] + ")", BAD, t -> t.mend(w[0], w[1], w[2]));
        }
        int[][] unknown = {{3, 0}, {-1, 0}, {20, 1}, {3, 1}, {2, 2}, {3, 3}, {3, 4}, {3, 5}, {1, 6}, {1, 9}, {0, -1}, {0, 10}};
        for (int[] u : unknown) {
            refused(7, "of(" + u[0] + ", " + u[1] + ")", BAD, t -> t.of(u[0], u[1]));
        }
    }

    private static void tape() {
        for (int letter : new int[] {-1, 256, MIN, MAX}) {
            refused(8, "feed(" + letter + ")", BAD, t -> t.feed(letter));
        }
        refusedThen(8, "the 121st byte", FULL, t -> fill(t), t -> t.feed('0'));
        // A fault empties the tape, of both: then THE LAW and all else is as it was.
        refusedThen(9, "law() of nothing", -100, t -> t.law(), t -> t.law());
        refusedThen(9, "law() of a fault", -102, t -> t.law(), t -> Due.tell(t, "9+"));
    }

    /** A text of 120 bytes on the tape. */
    private static void fill(TemperInHive t) {
        for (int i = t.count(3); i < 120; i++) {
            t.feed(i % 2 == 1 ? '+' : '1');
        }
    }

    private static void inThought() {
        int[][] laters = {{-1, 0}, {3, 0}, {7, 0}, {20, 0}, {29, 0}, {28, 0}, {0, -1}, {0, 61}, {MIN, 0}, {MAX, 0}, {0, MAX}};
        for (int[] w : laters) {
            refused(10, "later(" + w[0] + ", " + w[1] + ")", BAD, t -> t.later(w[0], w[1]));
        }
        refusedThen(10, "later(8, 0) of an empty hive", NOT, t -> empty(t), t -> t.later(8, 0));
        for (int hive : new int[] {-1, 2, MIN, MAX}) {
            refused(11, "still(" + hive + ")", BAD, t -> t.still(hive));
        }
        refusedThen(11, "still(0) that never is", NOT, t -> {
            t.law();
            Due.tell(t, "5+d%2");
        }, t -> t.still(0));
        int[][] cans = {{-1, 0}, {3, 1}, {0, -1}, {0, 2}, {MIN, MAX}};
        for (int[] w : cans) {
            refused(12, "can(" + w[0] + ", " + w[1] + ")", BAD, t -> t.can(w[0], w[1]));
        }
    }

    /** Nobody has anything in the first hive. */
    private static void empty(TemperInHive t) {
        for (int one = 0; one < 3; one++) {
            t.mend(one, 1, 0);
        }
    }

    private static void rounds() {
        int[][] wrong = {{-1, 0, 0}, {6, 0, 0}, {1, -1, 0}, {1, 3, 0}, {1, 0, -2}, {1, 0, MIN}};
        for (int[] w : wrong) {
            refused(13, "round(" + w[0] + ", " + w[1] + ", " + w[2] + ")", BAD, t -> t.round(w[0], w[1], w[2]));
        }
        refused(13, "round(4, 0, -1)", NOTHING_THERE, t -> t.round(4, 0, -1));
        refused(13, "round(0, 0, -1)", OTHER_KIND, t -> t.round(0, 0, -1));
        refused(13, "round(1, 0, 60)", NOT, t -> t.round(1, 0, 60));
        refusedThen(13, "round(1, 1, -1) of one who has 29", NOT, t -> {
            t.mend(1, 0, 19);
            t.mend(1, 1, 10);
            t.put(1, 1, 2);
        }, t -> t.round(1, 1, -1));
        int[][] others = {{-1, 0}, {6, 0}, {1, -1}, {1, 3}};
        for (int[] w : others) {
            refused(14, "without(" + w[0] + ", " + w[1] + ")", BAD, t -> t.without(w[0], w[1]));
        }
        refused(14, "without(4, 0)", NOTHING_THERE, t -> t.without(4, 0));
        refused(14, "without(2, 0)", OTHER_KIND, t -> t.without(2, 0));
        for (int k : new int[] {-2, 3, MIN, MAX}) {
            refused(15, "who(" + k + ")", BAD, t -> t.who(k));
        }
        refusedThen(15, "who(1) that nobody may do", NOT, t -> t.mend(1, 4, 0), t -> t.who(1));
    }

    private static void ways() {
        for (int xy : new int[] {-1, 100, MIN, MAX}) {
            refused(16, "stung(" + xy + ")", BAD, t -> t.stung(xy));
            refused(17, "way(" + xy + ", 0)", BAD, t -> t.way(xy, 0));
            refused(17, "way(0, " + xy + ")", BAD, t -> t.way(0, xy));
            refused(18, "least(" + xy + ", 0, 0)", BAD, t -> t.least(xy, 0, 0));
            refused(18, "least(0, " + xy + ", 0)", BAD, t -> t.least(0, xy, 0));
            refused(19, "set(9, " + xy + ", 0)", BAD, t -> t.set(9, xy, 0));
        }
        refused(17, "way(44, 0)", NOT, t -> t.way(44, 0));
        for (int what : new int[] {-1, 2, MIN, MAX}) {
            refused(18, "least(0, 0, " + what + ")", BAD, t -> t.least(0, 0, what));
            refused(19, "set(9, 1, " + what + ")", BAD, t -> t.set(9, 1, what));
        }
        for (int ft : new int[] {-1, 10000, MIN, MAX}) {
            refused(19, "set(" + ft + ", 1, 0)", BAD, t -> t.set(ft, 1, 0));
        }
        refused(19, "set(4400, 1, 0)", NOT, t -> t.set(4400, 1, 0));
    }

    private static void tries() {
        int[][] wrong = {{-1, 0, 0}, {6, 0, 0}, {1, -1, 0}, {1, 2, 0}, {1, 0, -1}, {1, 0, 3}};
        for (int[] w : wrong) {
            refused(20, "tries(" + w[0] + ", " + w[1] + ", " + w[2] + ")", BAD, t -> t.tries(w[0], w[1], w[2]));
        }
        refused(20, "tries(4, 0, 0)", NOTHING_THERE, t -> t.tries(4, 0, 0));
        refused(20, "tries(3, 0, 0)", OTHER_KIND, t -> t.tries(3, 0, 0));
        int[][] others = {{-1, 0}, {6, 0}, {1, -1}, {1, 2}};
        for (int[] w : others) {
            refused(21, "next(" + w[0] + ", " + w[1] + ")", BAD, t -> t.next(w[0], w[1]));
        }
        refused(21, "next(4, 0)", NOTHING_THERE, t -> t.next(4, 0));
        refused(21, "next(5, 0)", OTHER_KIND, t -> t.next(5, 0));
        Consumer<TemperInHive> noAmount = t -> Due.lay(t, 1, Sentences.BYTES, 4, 4, 0, 4, 4, 1);
        refusedThen(20, "tries(1, 0, 1) that none makes so", NOT, noAmount, t -> t.tries(1, 0, 1));
        refusedThen(20, "tries(1, 0, 2) that none makes so", NOT, noAmount, t -> t.tries(1, 0, 2));
        refusedThen(21, "next(1, 0) that none makes so", NOT, noAmount, t -> t.next(1, 0));
    }

    private static void cheats() {
        for (int what : new int[] {-1, 2, MIN, MAX}) {
            refused(22, "leave(" + what + ")", BAD, t -> t.leave(what));
            refused(25, "swarm(" + what + ")", BAD, t -> t.swarm(what));
            refused(26, "drawn(1, 101, " + what + ")", BAD, t -> t.drawn(1, 101, what));
        }
        for (int shelf : new int[] {-1, 6}) {
            refused(23, "judge(" + shelf + ")", BAD, t -> t.judge(shelf));
        }
        refused(23, "judge(4)", NOTHING_THERE, t -> t.judge(4));
        refused(23, "judge(1)", OTHER_KIND, t -> t.judge(1));
        refusedThen(23, "judge(2) of none", NOT, t -> t.row(2, 1, 0), t -> t.judge(2));
        int[][] froms = {{-1, 1}, {3, 1}, {0, 0}, {0, 100}};
        for (int[] w : froms) {
            refused(24, "from(" + w[0] + ", " + w[1] + ")", BAD, t -> t.from(w[0], w[1]));
        }
        refusedThen(25, "swarm(1) of nothing", NOT, t -> {
            empty(t);
            t.mend(12, 1, 0);
        }, t -> t.swarm(1));
        for (int nm : new int[] {-101, 0, 1, 31, 100, 131, 3100, 3101, MIN, MAX}) {
            refused(26, "drawn(1, " + nm + ", 0)", BAD, t -> t.drawn(1, nm, 0));
        }
    }

    private static void inDeed() {
        int[][] wrong = {{-1, 1}, {3, 1}, {8, 1}, {9, 1}, {20, 1}, {0, 0}, {0, 100}, {0, -1}, {MIN, 1}, {MAX, 1}, {0, MIN}, {0, MAX}};
        for (int[] w : wrong) {
            refused(27, "takes(" + w[0] + ", " + w[1] + ")", BAD, t -> t.takes(w[0], w[1]));
            refused(28, "puts(" + w[0] + ", " + w[1] + ")", BAD, t -> t.puts(w[0], w[1]));
        }
        refused(27, "takes(0, 99) of less", STATE, t -> t.takes(0, 99));
        refusedThen(27, "takes(0, 1) to more than 99", STATE, t -> t.mend(0, 0, 99), t -> t.takes(0, 1));
        refused(28, "puts(0, 99) of less", STATE, t -> t.puts(0, 99));
        refusedThen(28, "puts(0, 1) to more than 99", STATE, t -> t.mend(0, 1, 99), t -> t.puts(0, 1));
        for (int dp : new int[] {-1, 3, 9, 30, MIN, MAX}) {
            refused(30, "does(" + dp + ")", BAD, t -> t.does(dp));
        }
        refusedThen(30, "does(20) by too little", STATE, t -> t.mend(0, 0, 29), t -> t.does(20));
        refusedThen(30, "does(0) by too much", STATE, t -> t.mend(0, 0, 26), t -> t.does(0));
        for (int ab : new int[] {-1, 0, 11, 3, 30, 33, MIN, MAX}) {
            refused(31, "marry(" + ab + ")", BAD, t -> t.marry(ab));
        }
        for (int what : new int[] {-1, 6, MIN, MAX}) {
            refused(32, "led(" + what + ")", BAD, t -> t.led(what));
        }
    }

    private static void changes() {
        refusedThen(35, "undo() of none", STATE, t -> repeat(t.count(4), () -> t.undo()), t -> t.undo());
        refusedThen(36, "redo() of none", STATE, t -> t.redo(), t -> t.redo());
        s.test(34, NOTHING, t -> {
            t.person(20);
            t.hive(44);
            t.puts(0, 5);
            t.day();
            s.is("back() without an image", t.back(), STATE);
            s.is("ON", t.of(0, 0), 15);
            s.is("IN", t.of(0, 1), 5);
            s.is("put in", t.led(1), 5);
            s.is("days", t.led(2), 1);
            s.is("back() still", t.back(), STATE);
        });
    }

    private static void bodies() {
        for (int kind : new int[] {-1, 8, MIN, MAX}) {
            refused(37, "body(" + kind + ")", BAD, t -> t.body(kind));
            refused(45, "taken(0, " + kind + ")", BAD, t -> t.taken(0, kind));
        }
        refusedThen(37, "the 51st body", FULL, t -> repeat(48, () -> t.body(3)), t -> t.body(4));
        int[][] acts = {{-1, 0}, {2, 0}, {0, -1}, {0, 4}, {MIN, 0}, {MAX, 0}, {0, MIN}, {0, MAX}};
        for (int[] w : acts) {
            // Ahead of it both have no trace: all else is as it was.
            refusedThen(38, "act(" + w[0] + ", " + w[1] + ", 1)", 0, t -> t.act(-1, 0, 0), t -> t.act(w[0], w[1], 1));
        }
        for (int i : new int[] {-1, 10, 24, MIN, MAX}) {
            refused(39, "trace(" + i + ")", BAD, t -> t.trace(i));
        }
        int[][] keeps = {{-1, 0}, {6, 0}, {6, -1}, {1, -2}, {1, 2}, {0, 2}, {1, MIN}, {1, MAX}};
        for (int[] w : keeps) {
            refused(40, "keep(" + w[0] + ", " + w[1] + ")", BAD, t -> t.keep(w[0], w[1]));
        }
    }

    private static void shelves() {
        int[][] rows = {{-1, 0, 1}, {6, 0, 1}, {1, -1, 1}, {1, 5, 1}, {1, 0, 61}, {1, 0, MAX}, {1, 5, -1}, {0, MAX, 1}};
        for (int[] w : rows) {
            refused(41, "row(" + w[0] + ", " + w[1] + ", " + w[2] + ")", BAD, t -> t.row(w[0], w[1], w[2]));
        }
        refused(41, "row(1, 0, -1)", SIZE_BELOW_0, t -> t.row(1, 0, -1));
        refused(41, "row(0, 3, least)", SIZE_BELOW_0, t -> t.row(0, 3, MIN));
        for (int shelf : new int[] {-1, 6, MIN, MAX}) {
            refused(42, "put(" + shelf + ", 0, 9)", BAD, t -> t.put(shelf, 0, 9));
            refused(43, "element(" + shelf + ", 0)", Long.MIN_VALUE, t -> t.element(shelf, 0));
            refused(45, "taken(" + shelf + ", 0)", BAD, t -> t.taken(shelf, 0));
        }
        refused(42, "put(4, 0, 9)", NOTHING_THERE, t -> t.put(4, 0, 9));
        refused(42, "put(0, 0, 9)", OTHER_KIND, t -> t.put(0, 0, 9));
        refused(43, "element(4, 0)", Long.MIN_VALUE, t -> t.element(4, 0));
        refused(43, "element(0, 0)", Long.MIN_VALUE, t -> t.element(0, 0));
        for (int i : new int[] {-1, 6, 60, MIN, MAX}) {
            refused(42, "put(1, " + i + ", 9)", NO_PLACE, t -> t.put(1, i, 9));
            refused(43, "element(1, " + i + ")", Long.MIN_VALUE, t -> t.element(1, i));
        }
        refused(45, "taken(4, 0)", NOTHING_THERE, t -> t.taken(4, 0));
        refused(45, "taken(1, 0)", OTHER_KIND, t -> t.taken(1, 0));
        refused(45, "taken(0, 1)", OTHER_KIND, t -> t.taken(0, 1));
        for (int what : new int[] {-1, 7, MIN, MAX}) {
            refused(46, "count(" + what + ")", BAD, t -> t.count(what));
        }
    }

    private static void shifts() {
        int[][] wrong = { // shelf, i, other, j, n, answer
            {-1, 0, 1, 0, 1, BAD}, {1, 0, 6, 0, 1, BAD}, {4, 0, 1, 0, 1, NOTHING_THERE}, {1, 0, 4, 0, 1, NOTHING_THERE},
            {0, 0, 1, 0, 1, OTHER_KIND}, {1, 0, 0, 0, 1, OTHER_KIND}, {1, 0, 2, 0, 1, OTHER_KIND},
            {1, 0, 1, 1, 6, NO_PLACE}, {1, 1, 1, 0, 6, NO_PLACE}, {1, -1, 1, 0, 2, NO_PLACE}, {1, 0, 1, -1, 2, NO_PLACE},
            {1, 0, 1, 1, -1, NO_PLACE}, {1, 0, 1, 0, MAX, NO_PLACE}, {1, 0, 1, 0, MIN, NO_PLACE}, {1, MAX, 1, 0, 2, NO_PLACE},
            {1, 0, 1, MAX, 2, NO_PLACE}, {1, MIN, 1, 0, 2, NO_PLACE}, {1, 0, 1, MIN, 2, NO_PLACE},
        };
        for (int[] w : wrong) {
            String call = "shift(" + w[0] + ", " + w[1] + ", " + w[2] + ", " + w[3] + ", " + w[4] + ")";
            refused(44, call, w[5], t -> t.shift(w[0], w[1], w[2], w[3], w[4]));
        }
    }
}
