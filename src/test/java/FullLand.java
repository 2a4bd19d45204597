import java.util.ArrayList;
import java.util.List;

/** A land with something of everything, so that whatever a refused call changed would show. */
final class FullLand {
    private FullLand() {
    }

    /**
     * Three people, two hives, three deeds, a law, bytes on the tape, changes that stand and one undone, an image, deeds
     * done since, bodies, a trace. Shelves: 0 a body, 1 bytes, 2 shorts, 3 booleans, 4 nothing, 5 longs.
     */
    static TemperInHive make() {
        TemperInHive t = new TemperInHive();
        t.person(20);
        t.person(5);
        t.person(60);
        t.hive(44);
        t.hive(0);
        t.deed(10, 25);
        t.deed(0, 8);
        t.deed(30, 99);
        t.mend(0, 1, 25);
        t.mend(1, 1, 10);
        t.mend(12, 1, 40);
        Due.tell(t, "a+d+1");
        t.feed('a');
        t.feed('+');
        t.feed('h');
        t.takes(0, 2);
        t.image();
        t.takes(0, 3);
        t.puts(12, 4);
        t.day();
        t.does(10);
        t.does(11);
        t.marry(1);
        t.mend(2, 5, 30);
        t.mend(0, 9, 33);
        t.undo();
        t.body(0);
        t.body(5);
        t.act(1, 3, 7);
        t.keep(0, 1);
        Due.lay(t, 1, Sentences.BYTES, 0, 1, 2, 4, 4, 1);
        Due.lay(t, 2, Sentences.SHORTS, 0, 20, 1, 300);
        Due.lay(t, 3, Sentences.BOOLEANS, 1, 0);
        Due.lay(t, 5, Sentences.LONGS, Long.MIN_VALUE, Long.MAX_VALUE);
        return t;
    }

    /** What calls tell of it: first those that change nothing, then those that show what lies behind. */
    static List<String> tell(TemperInHive t) {
        List<String> all = new ArrayList<>();
        numbers(t, all);
        for (int what = 0; what < 7; what++) {
            all.add("count(" + what + ") " + t.count(what));
        }
        for (int i = 0; i < 10; i++) {
            all.add("trace(" + i + ") " + t.trace(i));
        }
        for (int shelf = 0; shelf < 6; shelf++) {
            all.add("taken(" + shelf + ", 0) " + t.taken(shelf, 0));
            for (int i = 0; i < 7; i++) {
                all.add("element(" + shelf + ", " + i + ") " + t.element(shelf, i));
            }
            all.add("put(" + shelf + ", 7, 0) " + t.put(shelf, 7, 0));
        }
        thoughts(t, all);
        for (int i = 0, left = 1; i < 40 && left > 0; i++) {
            left = t.undo();
            all.add("undo() " + left);
        }
        numbers(t, all);
        for (int i = 0, left = 1; i < 41 && left > 0; i++) {
            left = t.redo();
            all.add("redo() " + left);
        }
        all.add("law() " + t.law());
        thoughts(t, all);
        all.add("back() " + t.back());
        numbers(t, all);
        return all;
    }

    private static void numbers(TemperInHive t, List<String> all) {
        for (int one = 0; one < 6; one++) {
            all.add("of(" + one + ", 0) " + t.of(one, 0));
            for (int hive = 0; hive < 3; hive++) {
                all.add("of(" + (10 * hive + one) + ", 1) " + t.of(10 * hive + one, 1));
            }
        }
        for (int hive = 0; hive < 3; hive++) {
            all.add("of(" + hive + ", 2) " + t.of(hive, 2));
        }
        for (int deed = 0; deed < 4; deed++) {
            for (int what = 3; what < 6; what++) {
                all.add("of(" + deed + ", " + what + ") " + t.of(deed, what));
            }
        }
        for (int what = 6; what < 10; what++) {
            all.add("of(0, " + what + ") " + t.of(0, what));
        }
        for (int what = 0; what < 6; what++) {
            all.add("led(" + what + ") " + t.led(what));
        }
    }

    /** The law shows by these. */
    private static void thoughts(TemperInHive t, List<String> all) {
        for (int hp : new int[] {0, 1, 9, 12, 19, 28}) {
            all.add("later(" + hp + ", 2) " + t.later(hp, 2));
        }
    }
}
