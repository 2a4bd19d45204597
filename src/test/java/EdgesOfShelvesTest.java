import java.util.ArrayList;
import java.util.List;

/** Promises 37 to 46, sentence by sentence: bodies and their acts, shelves and rows, counts. */
public final class EdgesOfShelvesTest {
    private static final int BAD = Sentences.BAD, FULL = Sentences.FULL;
    private static final int NOTHING_THERE = Sentences.NOTHING_THERE, OTHER_KIND = Sentences.OTHER_KIND;
    private static final int NO_PLACE = Sentences.NO_PLACE, SIZE_BELOW_0 = Sentences.SIZE_BELOW_0;
    private static final int MAX = Sentences.MAX, MIN = Sentences.MIN;
    private static final long NONE = Long.MIN_VALUE;
    private static final Sentences s = new Sentences("EdgesOfShelvesTest");

    public static void main(String[] args) {
        body();
        act();
        actsOfKinds();
        trace();
        keep();
        row();
        put();
        element();
        shift();
        shiftPlaces();
        taken();
        count();
        s.end(37, 46);
    }

    // ---- the kinds as classes of Java, each number said as its body begins

    private static final List<Integer> began = new ArrayList<>();

    private static int began(int number) {
        began.add(number);
        return 0;
    }

    private interface Keeps {
        int number();

        default int keeps(int x) {
            return began(1) + x + number();
        }
    }

    private static class Swarm implements Keeps {
        private final int n;

        Swarm(int n) {
            this.n = n;
        }

        @Override public int number() {
            return n;
        }

        int stings(int x) {
            return began(10) + keeps(x) * 2;
        }

        int grows(int x) {
            return began(11) + (x ^ n);
        }

        int tells(int x) {
            return began(2) + stings(x) - grows(1);
        }
    }

    private static class Lamb extends Swarm {
        Lamb(int n) {
            super(n);
        }

        @Override public int keeps(int x) {
            return began(20) + super.keeps(x) + 3;
        }
    }

    private static class Veil extends Swarm {
        Veil(int n) {
            super(n);
        }

        @Override int stings(int x) {
            return began(30) - super.stings(x);
        }
    }

    private static class Slate extends Veil {
        Slate(int n) {
            super(n);
        }

        @Override int grows(int x) {
            return began(40) + super.grows(x) * 3;
        }

        @Override int stings(int x) {
            return began(41) + super.stings(x + 1);
        }
    }

    private static class Heifer extends Lamb {
        Heifer(int n) {
            super(n);
        }

        @Override int tells(int x) {
            return began(50) + (super.tells(x) ^ 5);
        }
    }

    private static class Tinker extends Slate {
        Tinker(int n) {
            super(n);
        }

        @Override int grows(int x) {
            return began(60) + super.grows(x) - keeps(2);
        }

        @Override int tells(int x) {
            return began(61) + super.tells(x) + 1;
        }
    }

    private static class Frost extends Swarm {
        Frost(int n) {
            super(n);
        }

        @Override public int keeps(int x) {
            return began(70) + super.keeps(x) * 2;
        }
    }

    private static class Tar extends Frost {
        Tar(int n) {
            super(n);
        }

        @Override int stings(int x) {
            return began(80) + super.stings(x) + grows(2);
        }

        @Override public int keeps(int x) {
            return began(81) + super.keeps(x) - 1;
        }
    }

    private static Swarm made(int kind, int n) {
        return switch (kind) {
            case 0 -> new Swarm(n);
            case 1 -> new Lamb(n);
            case 2 -> new Veil(n);
            case 3 -> new Slate(n);
            case 4 -> new Heifer(n);
            case 5 -> new Tinker(n);
            case 6 -> new Frost(n);
            default -> new Tar(n);
        };
    }

    private static int acted(Swarm body, int act, int x) {
        began.clear();
        return switch (act) {
            case 0 -> body.keeps(x);
            case 1 -> body.stings(x);
            case 2 -> body.grows(x);
            default -> body.tells(x);
        };
    }

    private static void body() {
        s.test(37, "A BODY of a KIND (0 .. 7) is kept: its number.", t -> {
            for (int kind : new int[] {-1, 8, MIN, MAX}) {
                s.is("body(" + kind + ")", t.body(kind), BAD);
            }
            s.is("none came", t.count(5), 0);
            for (int kind = 0; kind <= 7; kind++) {
                s.is("body(" + kind + ")", t.body(kind), kind);
            }
        });
        s.test(37, "BODIES 0 .. 49 are kept by call, of KINDS:", t -> {
            for (int body = 0; body <= 49; body++) {
                s.is("act() of " + body + " ahead of it", t.act(body, 0, 1), 0);
                s.is("keep() of " + body + " ahead of it", t.keep(0, body), BAD);
                s.is("body " + body, t.body(body % 8), body);
                s.is("keep() of " + body, t.keep(0, body), 1);
                s.is("its KIND", t.taken(0, 0), body % 8);
            }
        });
        s.test(37, "BAD, FULL.", t -> {
            for (int body = 0; body < 50; body++) {
                s.is("body " + body, t.body(7), body);
            }
            s.is("the 51st", t.body(0), FULL);
            s.is("body(8), when full", t.body(8), BAD);
            s.is("body(-1), when full", t.body(-1), BAD);
            s.is("how many", t.count(5), 50);
            s.is("act() of the 51st", t.act(50, 0, 1), 0);
            s.is("keep() of the 51st", t.keep(0, 50), BAD);
        });
    }

    private static void act() {
        s.test(38, "An ACT (0 .. 3) of a BODY with x.", t -> {
            for (int kind = 0; kind < 8; kind++) {
                askActs(t, kind);
            }
        });
        s.test(38, "ACTS with x (an int that wraps): 0 keeps, 1 stings, 2 grows, 3 tells; n its number.", t -> {
            for (int body = 0; body < 50; body++) {
                t.body(body % 8);
            }
            int[] xs = {MAX, MIN, MAX - 49, -1, 1 << 30, 0};
            for (int body = 34; body < 50; body++) {
                for (int act = 0; act <= 3; act++) {
                    for (int x : xs) {
                        s.is("act(" + body + ", " + act + ", " + x + ")", t.act(body, act, x), acted(made(body % 8, body), act, x));
                    }
                }
            }
        });
        s.test(38, "0, and no TRACE then: no such BODY, ACT.", t -> {
            int[][] wrong = {{-1, 0}, {1, 0}, {50, 0}, {0, -1}, {0, 4}, {MIN, 0}, {MAX, 0}, {0, MIN}, {0, MAX}};
            t.body(5);
            for (int[] w : wrong) {
                s.is("act(0, 3, 5)", t.act(0, 3, 5) != 0 && t.count(6) == 10 ? 1 : 0, 1);
                s.is("act(" + w[0] + ", " + w[1] + ", 5)", t.act(w[0], w[1], 5), 0);
                s.is("none ran", t.count(6), 0);
                s.is("no TRACE", t.trace(0), BAD);
            }
        });
    }

    private static void askActs(TemperInHive t, int kind) {
        int body = t.body(kind);
        for (int act = 0; act <= 3; act++) {
            int due = acted(made(kind, body), act, 5);
            s.is("act(" + body + ", " + act + ", 5) of KIND " + kind, t.act(body, act, 5), due);
            s.is("how many ran", t.count(6), began.size());
            for (int i = 0; i < began.size(); i++) {
                s.is("trace(" + i + ")", t.trace(i), began.get(i));
            }
        }
    }

    private static void actsOfKinds() {
        s.test(38, "BODIES of acts: KEEPS (an interface of SWARM): 1 keeps: x + n.", t -> {
            askActs(t, 0);
            s.is("wraps", t.act(0, 0, MAX), MAX);
            t.body(0);
            s.is("n 1 wraps", t.act(1, 0, MAX), MIN);
        });
        s.test(38, "SWARM: 10 stings: keeps(x) * 2. 11 grows: x ^ n. TELLS (of SWARM): 2 tells: stings(x) - grows(1).", t -> {
            askActs(t, 0);
            s.is("stings wraps", t.act(0, 1, 1 << 30), MIN);
            s.is("stings wraps to 0", t.act(0, 1, MIN), 0);
            s.is("grows", t.act(0, 2, MIN), MIN);
            s.is("tells wraps", t.act(0, 3, 1 << 30), MAX);
        });
        s.test(38, "LAMB: 20 keeps: super.keeps(x) + 3. VEIL: 30 stings: -super.stings(x).", t -> {
            askActs(t, 1);
            askActs(t, 2);
            s.is("keeps wraps", t.act(0, 0, MAX), MIN + 2);
            s.is("stings of what is its own negative", t.act(1, 1, (1 << 30) - 1), MIN);
        });
        s.test(38, "SLATE: 40 grows: super.grows(x) * 3. 41 stings: super.stings(x + 1). HEIFER: 50 tells: super.tells(x) ^ 5.", t -> {
            askActs(t, 3);
            askActs(t, 4);
            s.is("grows wraps", t.act(0, 2, MIN), MIN);
            s.is("stings of what wraps", t.act(0, 1, MAX), 0);
        });
        s.test(38, "TINKER: 60 grows: super.grows(x) - keeps(2). 61 tells: super.tells(x) + 1. FROST: 70 keeps: super.keeps(x) * 2.", t -> {
            askActs(t, 5);
            askActs(t, 6);
            s.is("grows wraps", t.act(0, 2, MIN), MAX - 1);
            s.is("keeps wraps", t.act(1, 0, 1 << 30), MIN + 2);
        });
        s.test(38, "TAR: 80 stings: super.stings(x) + grows(2). 81 keeps: super.keeps(x) - 1.", t -> {
            askActs(t, 7);
            s.is("keeps wraps", t.act(0, 0, 1 << 30), MAX);
            s.is("stings wraps", t.act(0, 1, 1 << 30), 0);
        });
        s.test(38, "keeps(..) and so on: the body of its own KIND, or of the next KIND above that has one; super: from the KIND above "
            + "the body's on.", t -> {
            for (int kind = 7; kind >= 0; kind--) {
                askActs(t, kind);
            }
        });
        s.test(38, "0 SWARM; 1 LAMB under SWARM; 2 VEIL under SWARM; 3 SLATE under VEIL; 4 HEIFER under LAMB; 5 TINKER under SLATE; 6 "
            + "FROST under SWARM; 7 TAR under FROST.", t -> {
            int[][] above = {{1, 0}, {2, 0}, {3, 2}, {4, 1}, {5, 3}, {6, 0}, {7, 6}};
            for (int kind = 0; kind < 8; kind++) {
                t.body(kind);
                t.keep(0, kind);
                s.is("KIND " + kind + " is itself", t.taken(0, kind), kind);
                s.is("KIND " + kind + " is under SWARM", t.taken(0, 0), kind);
                s.is("KIND " + kind + " is under its KIND above", kind == 0 ? 0 : t.taken(0, above[kind - 1][1]), kind);
                s.is("there is no KIND 8 under it", t.taken(0, 8), BAD);
            }
        });
    }

    private static void trace() {
        s.test(39, "THE TRACE: numbers of the bodies that ran in the latest act(), as they began; the first 24 are kept.", t -> {
            s.is("on a new one", t.trace(0), BAD);
            t.body(5);
            t.body(0);
            t.act(0, 3, 0);
            int[] want = {61, 2, 41, 30, 10, 1, 60, 40, 11, 1}; // as many as any act has
            for (int i = 0; i < want.length; i++) {
                s.is("trace(" + i + ")", t.trace(i), want[i]);
            }
            s.is("behind the last", t.trace(10), BAD);
            t.act(1, 2, 0);
            s.is("the latest alone", t.trace(0), 11);
            s.is("one ran", t.trace(1), BAD);
        });
        s.test(39, "THE TRACE's i-th body. BAD.", t -> {
            t.body(0);
            t.act(0, 0, 0);
            s.is("trace(0)", t.trace(0), 1);
            for (int i : new int[] {-1, 1, 23, 24, 25, MIN, MAX}) {
                s.is("trace(" + i + ")", t.trace(i), BAD);
            }
        });
    }

    private static void keep() {
        s.test(40, "A SHELF holds nothing (body -1), or a BODY: 1. BAD.", t -> {
            s.is("no BODY 0", t.keep(0, 0), BAD);
            s.is("nothing on an empty one", t.keep(0, -1), 1);
            t.body(6);
            for (int shelf : new int[] {-1, 6, MIN, MAX}) {
                s.is("keep(" + shelf + ", 0)", t.keep(shelf, 0), BAD);
                s.is("keep(" + shelf + ", -1)", t.keep(shelf, -1), BAD);
            }
            for (int body : new int[] {-2, 1, 50, MIN, MAX}) {
                s.is("keep(0, " + body + ")", t.keep(0, body), BAD);
            }
            for (int shelf = 0; shelf <= 5; shelf++) {
                s.is("nothing yet", t.taken(shelf, 0), NOTHING_THERE);
                s.is("keep(" + shelf + ", 0)", t.keep(shelf, 0), 1);
                s.is("the BODY", t.taken(shelf, 0), 6);
            }
            s.is("nothing again", t.keep(5, -1), 1);
            s.is("it is gone", t.taken(5, 0), NOTHING_THERE);
            s.is("the others hold it", t.taken(4, 0), 6);
        });
        s.test(40, "each hold nothing (at first), a BODY, or a ROW:", t -> {
            t.body(0);
            t.row(0, 2, 60);
            s.is("a BODY for a ROW", t.keep(0, 0), 1);
            s.is("no ROW then", t.put(0, 0, 1), OTHER_KIND);
            s.is("a ROW for a BODY", t.row(0, 2, 1), 1);
            s.is("no BODY then", t.taken(0, 0), OTHER_KIND);
            s.is("nothing for a ROW", t.keep(0, -1), 1);
            s.is("nothing then", t.put(0, 0, 1), NOTHING_THERE);
        });
    }

    private static void row() {
        s.test(41, "A SHELF holds a ROW: 1. BAD (sort, n above 60); -14.", t -> {
            for (int shelf : new int[] {-1, 6, MIN, MAX}) {
                s.is("row(" + shelf + ", 0, 1)", t.row(shelf, 0, 1), BAD);
                s.is("row(" + shelf + ", 0, -1)", t.row(shelf, 0, -1), BAD);
            }
            for (int sort : new int[] {-1, 5, MIN, MAX}) {
                s.is("row(0, " + sort + ", 1)", t.row(0, sort, 1), BAD);
                s.is("row(0, " + sort + ", -1)", t.row(0, sort, -1), BAD);
                s.is("row(0, " + sort + ", 61)", t.row(0, sort, 61), BAD);
            }
            for (int sort = 0; sort <= 4; sort++) {
                s.is("61 of " + sort, t.row(0, sort, 61), BAD);
                s.is("the greatest of " + sort, t.row(0, sort, MAX), BAD);
                s.is("-1 of " + sort, t.row(0, sort, -1), SIZE_BELOW_0);
                s.is("the least of " + sort, t.row(0, sort, MIN), SIZE_BELOW_0);
            }
            s.is("nothing came", t.put(0, 0, 0), NOTHING_THERE);
            s.is("on the last SHELF", t.row(5, 4, 60), 1);
        });
        s.test(41, "of 0 bytes, 1 shorts, 2 ints, 3 longs, 4 booleans, of 0 .. 60 elements, 0 at first (false);", t -> {
            for (int sort = 0; sort <= 4; sort++) {
                s.is("none of " + sort, t.row(sort, sort, 0), 1);
                s.is("no element", t.put(sort, 0, 1), NO_PLACE);
                s.is("60 of " + sort, t.row(sort, sort, 60), 1);
                for (int i : new int[] {0, 30, 59}) {
                    s.is("element " + i + " at first", t.element(sort, i), 0);
                    s.is("put at " + i, t.put(sort, i, 1), 1);
                    s.is("element " + i, t.element(sort, i), 1);
                }
                s.is("no 60th", t.put(sort, 60, 1), NO_PLACE);
                t.row(sort, sort, 59);
                s.is("59 anew", t.element(sort, 58), 0);
                s.is("the first anew", t.element(sort, 0), 0);
                s.is("no 59th", t.put(sort, 59, 1), NO_PLACE);
                t.row(sort, sort, 60);
                s.is("60 anew", t.element(sort, 59), 0);
            }
        });
    }

    private static void askPut(TemperInHive t, int sort, long v, long want) {
        t.row(0, sort, 3);
        s.is("put(0, 1, " + v + ") of sort " + sort, t.put(0, 1, v), 1);
        s.is("element(0, 1)", t.element(0, 1), want);
        s.is("ahead of it", t.element(0, 0), 0);
        s.is("behind it", t.element(0, 2), 0);
    }

    private static void put() {
        s.test(42, "what is put in keeps its lowest bits (a boolean: whether it is not 0; 1 or 0).", t -> {
            long[] edges = {0, 1, -1, 127, 128, 129, 255, 256, -128, -129, 32767, 32768, 65535, 65536, -32768, -32769, MAX, MAX + 1L,
                MIN, MIN - 1L, 1L << 32, -1L >>> 32, Long.MAX_VALUE, Long.MIN_VALUE};
            for (long v : edges) {
                askPut(t, 0, v, (v & 255) >= 128 ? (v & 255) - 256 : v & 255);
                askPut(t, 1, v, (v & 65535) >= 32768 ? (v & 65535) - 65536 : v & 65535);
                askPut(t, 2, v, v << 32 >> 32);
                askPut(t, 3, v, v);
            }
        });
        s.test(42, "(a boolean: whether it is not 0; 1 or 0)", t -> {
            for (long v : new long[] {1, -1, 2, 256, 65536, 1L << 32, Long.MIN_VALUE, Long.MAX_VALUE}) {
                askPut(t, 4, v, 1);
            }
            askPut(t, 4, 0, 0);
            t.put(0, 1, 1);
            t.put(0, 1, 0);
            s.is("false again", t.element(0, 1), 0);
        });
        s.test(42, "Element i of a ROW becomes v: 1. BAD, -11, -12, -13.", t -> {
            for (int shelf : new int[] {-1, 6, MIN, MAX}) {
                s.is("put(" + shelf + ", -1, 1)", t.put(shelf, -1, 1), BAD);
            }
            s.is("nothing there, at -1", t.put(0, -1, 1), NOTHING_THERE);
            s.is("nothing there", t.put(5, 0, 1), NOTHING_THERE);
            t.body(0);
            t.keep(0, 0);
            s.is("a BODY, at -1", t.put(0, -1, 1), OTHER_KIND);
            s.is("a BODY", t.put(0, 0, 1), OTHER_KIND);
            for (int sort = 0; sort <= 4; sort++) {
                t.row(1, sort, 7);
                for (int i : new int[] {-1, 7, 8, 60, MIN, MAX}) {
                    s.is("put(1, " + i + ", 1)", t.put(1, i, 1), NO_PLACE);
                }
                s.is("the first", t.put(1, 0, 1), 1);
                s.is("the last", t.put(1, 6, 1), 1);
            }
        });
    }

    private static void element() {
        s.test(43, "Element i of a ROW; Long.MIN_VALUE: BAD, -11 to -13.", t -> {
            for (int shelf : new int[] {-1, 6, MIN, MAX}) {
                s.is("element(" + shelf + ", 0)", t.element(shelf, 0), NONE);
            }
            s.is("nothing there", t.element(0, 0), NONE);
            t.body(0);
            t.keep(0, 0);
            s.is("a BODY", t.element(0, 0), NONE);
            for (int sort = 0; sort <= 4; sort++) {
                t.row(sort + 1, sort, 0);
                s.is("no element", t.element(sort + 1, 0), NONE);
                t.row(sort + 1, sort, 60);
                t.put(sort + 1, 59, 1);
                for (int i : new int[] {-1, 60, 61, MIN, MAX}) {
                    s.is("element(" + (sort + 1) + ", " + i + ")", t.element(sort + 1, i), NONE);
                }
                s.is("the first", t.element(sort + 1, 0), 0);
                s.is("the last", t.element(sort + 1, 59), 1);
            }
            t.row(5, 3, 1);
            t.put(5, 0, NONE + 1);
            s.is("a long beside it", t.element(5, 0), NONE + 1);
        });
    }

    private static void elements(TemperInHive t, int shelf, long... want) {
        for (int i = 0; i < want.length; i++) {
            s.is("element(" + shelf + ", " + i + ")", t.element(shelf, i), want[i]);
        }
    }

    private static void shift() {
        s.test(44, "n elements of a ROW from i on come to another one (or the same) from j on, as they all were before: n.", t -> {
            Due.lay(t, 0, 3, 1, 2, 3, NONE, 5);
            Due.lay(t, 1, 3, 0, 0, 0);
            s.is("the last two to the last two", t.shift(0, 3, 1, 1, 2), 2);
            elements(t, 1, 0, NONE, 5);
            s.is("three to all", t.shift(0, 0, 1, 0, 3), 3);
            elements(t, 1, 1, 2, 3);
            s.is("one up", t.shift(0, 0, 0, 1, 4), 4);
            elements(t, 0, 1, 1, 2, 3, NONE);
            s.is("one down", t.shift(0, 1, 0, 0, 4), 4);
            elements(t, 0, 1, 2, 3, NONE, NONE);
            s.is("to itself", t.shift(0, 0, 0, 0, 5), 5);
            elements(t, 0, 1, 2, 3, NONE, NONE);
            s.is("none", t.shift(0, 0, 1, 0, 0), 0);
            elements(t, 1, 1, 2, 3);
        });
        s.test(44, "(or the same)", t -> {
            for (int sort = 0; sort <= 4; sort++) {
                t.row(sort, sort, 60);
                t.put(sort, 0, 1);
                t.put(sort, 59, 1);
                s.is("59 up", t.shift(sort, 0, sort, 1, 59), 59);
                s.is("the second", t.element(sort, 1), 1);
                s.is("the last went over the end", t.element(sort, 59), 0);
                s.is("all 60", t.shift(sort, 0, sort, 0, 60), 60);
                s.is("61", t.shift(sort, 0, sort, 0, 61), NO_PLACE);
            }
        });
        s.test(44, "BAD, -11 (either), -12 (no ROWS, or of unlike sorts), -13 (n below 0, too).", t -> {
            for (int shelf : new int[] {-1, 6, MIN, MAX}) {
                s.is("from SHELF " + shelf, t.shift(shelf, 0, 0, 0, -1), BAD);
                s.is("to SHELF " + shelf, t.shift(0, 0, shelf, 0, -1), BAD);
            }
            s.is("nothing to nothing", t.shift(0, 0, 1, 0, 0), NOTHING_THERE);
            t.row(0, 0, 5);
            t.body(0);
            t.keep(5, 0);
            s.is("a ROW to nothing", t.shift(0, 0, 1, 0, -1), NOTHING_THERE);
            s.is("nothing to a ROW", t.shift(1, 0, 0, 0, -1), NOTHING_THERE);
            s.is("a BODY to nothing", t.shift(5, 0, 1, 0, 0), NOTHING_THERE);
            s.is("nothing to a BODY", t.shift(1, 0, 5, 0, 0), NOTHING_THERE);
            s.is("a BODY to a ROW", t.shift(5, 0, 0, 0, -1), OTHER_KIND);
            s.is("a ROW to a BODY", t.shift(0, 0, 5, 0, -1), OTHER_KIND);
            s.is("a BODY to itself", t.shift(5, 0, 5, 0, 0), OTHER_KIND);
            for (int sort = 1; sort <= 4; sort++) {
                t.row(sort, sort, 5);
                s.is("bytes to sort " + sort, t.shift(0, 0, sort, 0, -1), OTHER_KIND);
                s.is("sort " + sort + " to bytes", t.shift(sort, 0, 0, 0, 0), OTHER_KIND);
            }
        });
    }

    private static void shiftPlaces() {
        s.test(44, "-13 (n below 0, too)", t -> {
            Due.lay(t, 0, 2, 1, 2, 3, 4, 5);
            Due.lay(t, 1, 2, 7, 8, 9);
            int[][] wrong = {{0, 0, -1}, {0, 0, MIN}, {0, 0, 4}, {0, 0, MAX}, {-1, 0, 1}, {0, -1, 1}, {-1, 0, 0}, {0, -1, 0},
                {3, 0, 3}, {4, 0, 2}, {5, 0, 1}, {6, 0, 0}, {0, 1, 3}, {0, 2, 2}, {0, 3, 1}, {0, 4, 0}, {MAX, 0, 1}, {0, MAX, 1},
                {MAX, 0, 0}, {0, MAX, 0}, {MAX, MAX, MAX}, {MIN, 0, 1}, {0, MIN, 1}, {1, 1, MAX}, {2, 2, MIN}};
            for (int[] w : wrong) {
                s.is("shift(0, " + w[0] + ", 1, " + w[1] + ", " + w[2] + ")", t.shift(0, w[0], 1, w[1], w[2]), NO_PLACE);
            }
            elements(t, 0, 1, 2, 3, 4, 5);
            elements(t, 1, 7, 8, 9);
            s.is("none, at both ends", t.shift(0, 5, 1, 3, 0), 0);
            s.is("the last to the last", t.shift(0, 4, 1, 2, 1), 1);
            elements(t, 1, 7, 8, 5);
            t.row(2, 2, 0);
            s.is("none to an empty ROW", t.shift(0, 0, 2, 0, 0), 0);
            s.is("none from an empty ROW", t.shift(2, 0, 0, 0, 0), 0);
            s.is("one from it", t.shift(2, 0, 0, 0, 1), NO_PLACE);
            s.is("one to it", t.shift(0, 0, 2, 0, 1), NO_PLACE);
        });
    }

    private static void taken() {
        s.test(45, "What a SHELF holds, taken for a BODY of KIND k (0 .. 7), or under it: its KIND.", t -> {
            for (int kind = 0; kind < 8; kind++) {
                t.body(kind);
                t.keep(0, kind);
                Class<?> its = made(kind, 0).getClass();
                for (int k = 0; k < 8; k++) {
                    boolean under = made(k, 0).getClass().isAssignableFrom(its);
                    s.is("KIND " + kind + " taken for " + k, t.taken(0, k), under ? kind : OTHER_KIND);
                }
            }
        });
        s.test(45, "BAD, -11, -12.", t -> {
            for (int shelf : new int[] {-1, 6, MIN, MAX}) {
                s.is("taken(" + shelf + ", 0)", t.taken(shelf, 0), BAD);
            }
            for (int k : new int[] {-1, 8, MIN, MAX}) {
                s.is("taken(0, " + k + "), nothing there", t.taken(0, k), BAD);
            }
            s.is("nothing there", t.taken(0, 7), NOTHING_THERE);
            for (int sort = 0; sort <= 4; sort++) {
                t.row(0, sort, sort);
                s.is("a ROW of " + sort, t.taken(0, 0), OTHER_KIND);
                s.is("a ROW of " + sort + ", k 8", t.taken(0, 8), BAD);
            }
            t.body(7);
            t.keep(0, 0);
            s.is("k 8", t.taken(0, 8), BAD);
            s.is("k 7", t.taken(0, 7), 7);
        });
    }

    private static void count() {
        s.test(46, "How many: 0 PEOPLE, 1 HIVES, 2 DEEDS, 3 bytes on THE TAPE, 4 changes that may be UNDONE, 5 BODIES,", t -> {
            int[] full = {6, 5, 10, 120, 40, 50};
            for (int i = 0; i <= 60; i++) {
                int[] now = {t.person(1), t.hive(1), t.deed(1, 1), t.feed('1'), t.mend(0, 9, 30 + i % 2), t.body(2)};
                for (int what = 0; what <= 5; what += i == 0 || i == 60 ? 1 : 5) {
                    s.is("count(" + what + ") " + i + ", " + now[what], t.count(what), Math.min(full[what], i + 1));
                }
            }
        });
        s.test(46, "6 bodies that ran in the latest act() (all, kept or not). BAD.", t -> {
            for (int what : new int[] {-1, 7, MIN, MAX}) {
                s.is("count(" + what + ")", t.count(what), BAD);
            }
            s.is("on a new one", t.count(6), 0);
            int[] ran = {4, 5, 5, 7, 6, 10, 5, 8};
            for (int kind = 0; kind < 8; kind++) {
                t.body(kind);
                t.act(kind, 3, 1);
                s.is("tells of KIND " + kind, t.count(6), ran[kind]);
            }
            t.act(0, 0, 1);
            s.is("keeps of SWARM", t.count(6), 1);
            t.act(8, 0, 1);
            s.is("no such BODY", t.count(6), 0);
        });
    }
}
