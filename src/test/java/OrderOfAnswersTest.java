/** "Answers, of several the one named first": the calls where several would fit, and what each refusal is for. */
public final class OrderOfAnswersTest {
    private static final int BAD = Sentences.BAD, NOT = Sentences.NOT, FULL = Sentences.FULL, STATE = Sentences.STATE;
    private static final int NOTHING_THERE = Sentences.NOTHING_THERE, OTHER_KIND = Sentences.OTHER_KIND;
    private static final int NO_PLACE = Sentences.NO_PLACE, SIZE_BELOW_0 = Sentences.SIZE_BELOW_0;
    private static final Sentences s = new Sentences("OrderOfAnswersTest");

    public static void main(String[] args) {
        constants();
        badFirst();
        thenOthers();
        refusals();
        s.end();
    }

    private static void constants() {
        s.test(1, "BAD (-1): no such number, or it is not as said; NOT (-2): as told; FULL (-3); STATE (-5): as told; -11 to -14.", t -> {
            s.is("BAD", TemperInHive.BAD, -1);
            s.is("NOT", TemperInHive.NOT, -2);
            s.is("FULL", TemperInHive.FULL, -3);
            s.is("STATE", TemperInHive.STATE, -5);
        });
        s.test(1, "VOID is -2000000000.", t -> s.is("VOID", TemperInHive.VOID, -2000000000));
        s.test(1, "What is answered so changes nothing.", t -> {
            s.is("back()", t.back(), STATE);
            s.is("undo()", t.undo(), STATE);
            s.is("redo()", t.redo(), STATE);
            s.is("hive(100)", t.hive(100), BAD);
            s.is("taken(0, 0)", t.taken(0, 0), NOTHING_THERE);
            for (int what = 0; what <= 6; what++) {
                s.is("count(" + what + ")", t.count(what), 0);
            }
        });
    }

    /** Six people, five HIVES that are full, ten DEEDS, a whole TAPE, fifty BODIES; a body, shorts and bytes on SHELVES. */
    private static void full(TemperInHive t) {
        for (int i = 0; i < 6; i++) {
            t.person(99);
        }
        for (int i = 0; i < 5; i++) {
            t.hive(44);
            t.mend(10 * i, 1, 99);
        }
        for (int i = 0; i < 10; i++) {
            t.deed(0, 98);
        }
        for (int i = 0; i < 120; i++) {
            t.feed('a');
        }
        for (int i = 0; i < 50; i++) {
            t.body(4);
        }
        t.keep(0, 0);
        t.row(1, Sentences.SHORTS, 3);
        t.row(2, Sentences.BYTES, 3);
    }

    private static void badFirst() {
        s.test(2, "Answers, of several the one named first: BAD (-1)", t -> {
            full(t);
            s.is("person(20)", t.person(20), FULL);
            s.is("person(100)", t.person(100), BAD);
            s.is("hive(20)", t.hive(20), FULL);
            s.is("hive(100)", t.hive(100), BAD);
            s.is("deed(2, 3)", t.deed(2, 3), FULL);
            s.is("deed(3, 2)", t.deed(3, 2), BAD);
            s.is("deeds(0, 0, 1)", t.deeds(0, 0, 1), OTHER_KIND);
            s.is("deeds(0, 0, 0)", t.deeds(0, 0, 0), BAD);
            s.is("deeds(1, -1, 1)", t.deeds(1, -1, 1), OTHER_KIND);
            s.is("feed(97)", t.feed(97), FULL);
            s.is("feed(256)", t.feed(256), BAD);
            s.is("body(4)", t.body(4), FULL);
            s.is("body(8)", t.body(8), BAD);
            s.is("takes(0, 1)", t.takes(0, 1), STATE);
            s.is("takes(0, 100)", t.takes(0, 100), BAD);
            s.is("puts(0, 1)", t.puts(0, 1), STATE);
            s.is("puts(0, 0)", t.puts(0, 0), BAD);
            s.is("does(0)", t.does(0), STATE);
            s.is("does(6)", t.does(6), BAD);
            s.is("way(44, 0)", t.way(44, 0), NOT);
            s.is("way(44, 100)", t.way(44, 100), BAD);
            s.is("set(4400, 9, 0)", t.set(4400, 9, 0), NOT);
            s.is("set(4400, 9, 2)", t.set(4400, 9, 2), BAD);
            s.is("who(9)", t.who(9), NOT);
            s.is("who(10)", t.who(10), BAD);
            s.is("row(0, 5, -1)", t.row(0, 5, -1), BAD);
            s.is("row(6, 0, -1)", t.row(6, 0, -1), BAD);
        });
    }

    private static void thenOthers() {
        s.test(13, "Answers, of several the one named first:", t -> {
            full(t);
            s.is("round() of nothing, for nobody", t.round(3, 6, 0), BAD);
            s.is("round() of nothing, at -2", t.round(3, 0, -2), BAD);
            s.is("round() of nothing, at 60", t.round(3, 0, 60), NOTHING_THERE);
            s.is("round() of a BODY, for nobody", t.round(0, 6, 0), BAD);
            s.is("round() of a BODY, at 60", t.round(0, 0, 60), OTHER_KIND);
            s.is("round() of shorts, at 60", t.round(1, 0, 60), OTHER_KIND);
            s.is("round() of bytes, at 60", t.round(2, 0, 60), NOT);
            s.is("without() of nothing, for nobody", t.without(3, 6), BAD);
            s.is("without() of a BODY, for nobody", t.without(0, 6), BAD);
            s.is("tries() of nothing, what 3", t.tries(3, 0, 3), BAD);
            s.is("tries() of nothing, HIVE 5", t.tries(3, 5, 0), BAD);
            s.is("tries() of a BODY, what 3", t.tries(0, 0, 3), BAD);
            s.is("next() of nothing, HIVE 5", t.next(3, 5), BAD);
            s.is("next() of shorts, HIVE 5", t.next(1, 5), BAD);
            s.is("put() on nothing, at -1", t.put(3, -1, 0), NOTHING_THERE);
            s.is("put() on a BODY, at -1", t.put(0, -1, 0), OTHER_KIND);
            s.is("shift() of a BODY to nothing", t.shift(0, -1, 3, -1, -1), NOTHING_THERE);
            s.is("shift() of nothing to a BODY", t.shift(3, -1, 0, -1, -1), NOTHING_THERE);
            s.is("shift() of shorts to bytes, at -1", t.shift(1, -1, 2, -1, -1), OTHER_KIND);
            s.is("shift() of shorts to SHELF 6", t.shift(1, -1, 6, -1, -1), BAD);
            s.is("taken() of nothing, k 8", t.taken(3, 8), BAD);
            s.is("taken() of a ROW, k 8", t.taken(1, 8), BAD);
        });
    }

    private static void refusals() {
        s.test(42, "The host's REFUSALS: -11 nothing is there where something is wanted;", t -> {
            t.person(0);
            t.hive(0);
            s.is("round()", t.round(0, 0, -1), NOTHING_THERE);
            s.is("without()", t.without(0, 0), NOTHING_THERE);
            s.is("tries()", t.tries(0, 0, 0), NOTHING_THERE);
            s.is("next()", t.next(0, 0), NOTHING_THERE);
            s.is("judge()", t.judge(0), NOTHING_THERE);
            s.is("put()", t.put(0, 0, 0), NOTHING_THERE);
            s.is("shift()", t.shift(0, 0, 0, 0, 0), NOTHING_THERE);
            s.is("taken()", t.taken(0, 0), NOTHING_THERE);
            s.is("deeds() wants nothing", t.deeds(0, 0, 1), 0);
        });
        s.test(45, "-12 it is of another kind;", t -> {
            t.person(0);
            t.hive(0);
            t.body(1);
            t.keep(0, 0);
            t.row(1, Sentences.INTS, 3);
            for (int shelf = 0; shelf <= 1; shelf++) {
                s.is("deeds()", t.deeds(shelf, 0, 1), OTHER_KIND);
                s.is("round()", t.round(shelf, 0, -1), OTHER_KIND);
                s.is("without()", t.without(shelf, 0), OTHER_KIND);
                s.is("tries()", t.tries(shelf, 0, 0), OTHER_KIND);
                s.is("next()", t.next(shelf, 0), OTHER_KIND);
                s.is("judge()", t.judge(shelf), OTHER_KIND);
                s.is("shift()", t.shift(shelf, 0, 1 - shelf, 0, 0), OTHER_KIND);
                s.is("taken() for VEIL", t.taken(shelf, 2), OTHER_KIND);
            }
            s.is("put()", t.put(0, 0, 0), OTHER_KIND);
        });
        s.test(44, "-13 a place that is not there;", t -> {
            t.row(0, Sentences.INTS, 3);
            s.is("put() at -1", t.put(0, -1, 0), NO_PLACE);
            s.is("put() at 3", t.put(0, 3, 0), NO_PLACE);
            s.is("put() at 2", t.put(0, 2, 0), 1);
            s.is("shift() from 4", t.shift(0, 4, 0, 0, 0), NO_PLACE);
            s.is("shift() to 4", t.shift(0, 0, 0, 4, 0), NO_PLACE);
            s.is("shift() of none from 3 to 3", t.shift(0, 3, 0, 3, 0), 0);
        });
        s.test(41, "-14 a size below 0.", t -> {
            s.is("row() of -1", t.row(0, 0, -1), SIZE_BELOW_0);
            s.is("row() of 0", t.row(0, 0, 0), 1);
        });
    }
}
