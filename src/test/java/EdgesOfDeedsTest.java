/** Promises 27 to 36, sentence by sentence: what is done in deed, what is led, the image, changes undone and done again. */
public final class EdgesOfDeedsTest {
    private static final int BAD = Sentences.BAD, STATE = Sentences.STATE;
    private static final int MAX = Sentences.MAX, MIN = Sentences.MIN;
    private static final int[] NO_SHARES = {-1, -10, 2, 8, 9, 20, 21, 45, MIN, MAX};
    private static final Sentences s = new Sentences("EdgesOfDeedsTest");

    public static void main(String[] args) {
        takes();
        puts();
        day();
        does();
        marry();
        led();
        image();
        back();
        undo();
        redo();
        fortyChanges();
        s.end(27, 36);
    }

    /** Two people, two HIVES. */
    private static void land(TemperInHive t, int on, int in) {
        t.person(on);
        t.person(50);
        t.hive(0);
        t.hive(99);
        t.mend(0, 1, in);
    }

    private static void takes() {
        s.test(27, "TAKE v (1 .. 99) of one from a HIVE (hp): ON then.", t -> {
            land(t, 0, 99);
            for (int v : new int[] {0, 100, -1, MIN, MAX}) {
                s.is("takes(0, " + v + ")", t.takes(0, v), BAD);
            }
            for (int hp : NO_SHARES) {
                s.is("takes(" + hp + ", 1)", t.takes(hp, 1), BAD);
            }
            s.is("takes(0, 99)", t.takes(0, 99), 99);
            s.is("IN", t.of(0, 1), 0);
            s.is("taken", t.led(0), 99);
            t.mend(11, 1, 2);
            s.is("takes(11, 1)", t.takes(11, 1), 51);
            s.is("IN of the second", t.of(11, 1), 1);
        });
        s.test(27, "BAD; STATE: less is in it, or ON would be more than 99.", t -> {
            land(t, 59, 40);
            s.is("41 of 40", t.takes(0, 41), STATE);
            s.is("40 of 40, ON 99", t.takes(0, 40), 99);
            s.is("1 of 0", t.takes(0, 1), STATE);
            t.mend(0, 1, 1);
            s.is("1 of 1, ON 100", t.takes(0, 1), STATE);
            s.is("100", t.takes(0, 100), BAD);
            s.is("ON", t.of(0, 0), 99);
            s.is("IN", t.of(0, 1), 1);
            s.is("taken", t.led(0), 40);
            t.mend(1, 1, 99);
            s.is("another's is not his", t.takes(0, 2), STATE);
            t.mend(0, 0, 98);
            s.is("1 of 1, ON 99", t.takes(0, 1), 99);
        });
        s.test(27, "STATE: less is in it,", t -> {
            land(t, 0, 40);
            s.is("41 of 40, on nobody anything", t.takes(0, 41), STATE);
            s.is("99 of 40", t.takes(0, 99), STATE);
            t.mend(1, 1, 41);
            s.is("all in it are 81", t.takes(0, 41), STATE);
            t.mend(10, 1, 41);
            s.is("in both are 81", t.takes(0, 41), STATE);
            s.is("40 of 40", t.takes(0, 40), 40);
            s.is("1 of 0", t.takes(0, 1), STATE);
        });
        s.test(27, "IN DEED: TAKE v of one from a HIVE (ON more)", t -> {
            for (int hive = 0; hive < 5; hive++) {
                t.hive(hive);
            }
            for (int one = 0; one < 6; one++) {
                t.person(one);
            }
            t.mend(45, 1, 7);
            s.is("the last of the last", t.takes(45, 7), 12);
            for (int hive = 0; hive < 5; hive++) {
                t.mend(10 * hive, 1, 9 - hive);
            }
            for (int hive = 4; hive >= 0; hive--) {
                t.mend(0, 0, 0);
                s.is("all of the first from " + hive, t.takes(10 * hive, 9 - hive), 9 - hive);
                s.is("IN of it", t.of(10 * hive, 1), 0);
            }
            s.is("takes(46, 1)", t.takes(46, 1), BAD);
            s.is("takes(50, 1)", t.takes(50, 1), BAD);
            s.is("takes(6, 1)", t.takes(6, 1), BAD);
        });
    }

    private static void puts() {
        s.test(28, "PUT v (1 .. 99) in (hp): IN then.", t -> {
            land(t, 99, 0);
            for (int v : new int[] {0, 100, -1, MIN, MAX}) {
                s.is("puts(0, " + v + ")", t.puts(0, v), BAD);
            }
            for (int hp : NO_SHARES) {
                s.is("puts(" + hp + ", 1)", t.puts(hp, 1), BAD);
            }
            s.is("puts(0, 99)", t.puts(0, 99), 99);
            s.is("ON", t.of(0, 0), 0);
            s.is("put in", t.led(1), 99);
            s.is("puts(11, 1)", t.puts(11, 1), 1);
            s.is("ON of the second", t.of(1, 0), 49);
        });
        s.test(28, "BAD; STATE: less is on him, or IN would be more than 99.", t -> {
            land(t, 40, 59);
            s.is("41 of 40", t.puts(0, 41), STATE);
            s.is("40 of 40, IN 99", t.puts(0, 40), 99);
            s.is("1 of 0", t.puts(0, 1), STATE);
            t.mend(0, 0, 1);
            s.is("1 of 1, IN 100", t.puts(0, 1), STATE);
            s.is("100", t.puts(0, 100), BAD);
            s.is("ON", t.of(0, 0), 1);
            s.is("IN", t.of(0, 1), 99);
            s.is("put in", t.led(1), 40);
            s.is("another has his own place in it", t.puts(1, 50), 50);
            t.mend(0, 1, 98);
            s.is("1 of 1, IN 99", t.puts(0, 1), 99);
        });
        s.test(28, "STATE: less is on him,", t -> {
            land(t, 40, 0);
            s.is("41 of 40 in an empty one", t.puts(0, 41), STATE);
            s.is("99 of 40", t.puts(0, 99), STATE);
            s.is("40 of 40", t.puts(0, 40), 40);
            s.is("1 of 0", t.puts(0, 1), STATE);
        });
        s.test(28, "PUT v in (ON less)", t -> {
            for (int hive = 0; hive < 5; hive++) {
                t.hive(hive);
            }
            for (int one = 0; one < 6; one++) {
                t.person(one);
            }
            s.is("the last in the last", t.puts(45, 5), 5);
            s.is("ON", t.of(5, 0), 0);
            for (int hive = 0; hive < 5; hive++) {
                t.mend(0, 0, 9);
                s.is("of the first in " + hive, t.puts(10 * hive, 9 - hive), 9 - hive);
            }
            for (int hive = 0; hive < 5; hive++) {
                s.is("IN of the first in " + hive, t.of(10 * hive, 1), 9 - hive);
                s.is("IN of the last", t.of(10 * hive + 5, 1), hive == 4 ? 5 : 0);
            }
            s.is("puts(46, 1)", t.puts(46, 1), BAD);
            s.is("puts(50, 1)", t.puts(50, 1), BAD);
            s.is("puts(6, 1)", t.puts(6, 1), BAD);
        });
    }

    private static void day() {
        s.test(29, "A DAY passes: all that is in all HIVES then.", t -> {
            s.is("no HIVES", t.day(), 0);
            for (int hive = 0; hive < 5; hive++) {
                t.hive(hive);
            }
            s.is("nobody", t.day(), 0);
            for (int one = 0; one < 6; one++) {
                t.person(7);
            }
            s.is("nothing in them", t.day(), 0);
            t.mend(0, 1, 9);
            t.mend(45, 1, 10);
            s.is("9 and 11", t.day(), 20);
            Due.tell(t, "99");
            s.is("they alone", t.day(), 198);
            for (int hive = 0; hive < 5; hive++) {
                for (int one = 0; one < 6; one++) {
                    t.mend(10 * hive + one, 1, 1);
                }
            }
            s.is("all are full", t.day(), 2970);
            Due.tell(t, "0-1");
            s.is("all are empty", t.day(), 0);
            s.is("days", t.led(2), 7);
            s.is("ON stays", t.of(5, 0), 7);
        });
        s.test(29, "a DAY passes;", t -> {
            land(t, 0, 98);
            Due.tell(t, "a+1");
            s.is("till it is full", t.day(), 99);
            s.is("and no more", t.day(), 99);
            s.is("in season 3, too", t.mend(0, 6, 3) + t.day(), 99);
            t.mend(0, 1, 0);
            s.is("0 stays 0", t.day(), 0);
        });
        s.test(29, "d how many days have passed in thought (in deed: 0).", t -> {
            land(t, 0, 50);
            Due.tell(t, "d?99;a-1");
            for (int day = 1; day <= 60; day++) {
                s.is("day " + day, t.day(), Math.max(0, 50 - day));
            }
        });
    }

    private static void does() {
        s.test(30, "A DEED is done by one (dp: 10 times the DEED, and the one): ON then.", t -> {
            for (int one = 0; one < 6; one++) {
                t.person(99);
            }
            for (int deed = 0; deed < 10; deed++) {
                s.is("does(" + 10 * deed + ") ahead of it", t.does(10 * deed), BAD);
                t.deed(deed, 99);
            }
            for (int dp : new int[] {6, 9, 96, 99, 100, 105, -1, -10, MIN, MAX}) {
                s.is("does(" + dp + ")", t.does(dp), BAD);
            }
            s.is("the last by the last", t.does(95), 95);
            s.is("the first by the first", t.does(0), 99);
            s.is("deeds", t.led(3), 2);
        });
        s.test(30, "BAD; STATE: he may not.", t -> {
            t.person(19);
            t.deed(20, 40);
            s.is("one less than NEEDS", t.does(0), STATE);
            t.mend(0, 0, 41);
            s.is("one more than MOST", t.does(0), STATE);
            s.is("ON stays", t.of(0, 0), 41);
            s.is("no deeds", t.led(3), 0);
            s.is("no WORTH", t.led(4), 0);
            t.mend(0, 0, 40);
            s.is("MOST", t.does(0), 30);
            t.mend(0, 0, 20);
            s.is("NEEDS", t.does(0), 10);
            s.is("then less", t.does(0), STATE);
            s.is("BAD ahead of STATE", t.does(1), BAD);
        });
        s.test(30, "a DEED is done by one (ON is less by half of NEEDS, cut);", t -> {
            t.person(99);
            int[][] half = {{0, 99}, {1, 99}, {2, 98}, {3, 98}, {98, 50}, {99, 50}};
            for (int i = 0; i < half.length; i++) {
                t.deed(half[i][0], 99);
                t.mend(0, 0, 99);
                s.is("NEEDS " + half[i][0], t.does(10 * i), half[i][1]);
            }
        });
    }

    private static void askMarry(TemperInHive t, int a, int b, int first, int second) {
        t.mend(0, 0, a);
        t.mend(1, 0, b);
        s.is("marry(1) of " + a + " and " + b, t.marry(1), first);
        s.is("the other's", t.of(1, 0), second);
        t.mend(0, 0, a);
        t.mend(1, 0, b);
        s.is("marry(10) of " + a + " and " + b, t.marry(10), second);
        s.is("the lesser's", t.of(0, 0), first);
    }

    private static void marry() {
        s.test(31, "MARRY two: ON of both together, halved (cut, the odd one to the lesser number).", t -> {
            t.person(0);
            t.person(0);
            askMarry(t, 0, 0, 0, 0);
            askMarry(t, 0, 1, 1, 0);
            askMarry(t, 1, 0, 1, 0);
            askMarry(t, 99, 99, 99, 99);
            askMarry(t, 99, 98, 99, 98);
            askMarry(t, 0, 99, 50, 49);
            s.is("marriages", t.led(5), 12);
        });
        s.test(31, "MARRY two (ab: 10 times the one and the other): ON of the first one then. BAD.", t -> {
            for (int one = 0; one < 6; one++) {
                s.is("marry(" + one + ") ahead of him", t.marry(one), BAD);
                t.person(10 * one);
            }
            for (int one = 0; one < 6; one++) {
                s.is("one with himself", t.marry(11 * one), BAD);
            }
            for (int ab : new int[] {6, 9, 60, 65, 56, 59, 66, 99, 100, -1, -10, -12, MIN, MAX}) {
                s.is("marry(" + ab + ")", t.marry(ab), BAD);
            }
            s.is("no marriages", t.led(5), 0);
            s.is("the last two", t.marry(54), 45);
            s.is("the first and the last", t.marry(5), 23);
            s.is("the last", t.of(5, 0), 22);
        });
    }

    private static void led() {
        s.test(32, "LED: taken (what 0), put in (1), days (2), deeds (3), WORTH (4), marriages (5). BAD.", t -> {
            for (int what = 0; what <= 5; what++) {
                s.is("led(" + what + ") on a new one", t.led(what), 0);
            }
            for (int what : new int[] {-1, 6, MIN, MAX}) {
                s.is("led(" + what + ")", t.led(what), BAD);
            }
            land(t, 99, 0);
            t.deed(0, 99);
            t.mend(0, 5, 99);
            t.puts(0, 99);
            t.takes(0, 98);
            t.takes(0, 1);
            t.day();
            t.does(0);
            t.does(1);
            t.mend(0, 5, 0);
            t.does(0);
            t.marry(10);
            int[] want = {99, 99, 1, 3, 198, 1};
            for (int what = 0; what <= 5; what++) {
                s.is("led(" + what + ")", t.led(what), want[what]);
            }
        });
        s.test(32, "LED: taken, put in, days, deeds, WORTH, marriages.", t -> {
            land(t, 99, 0);
            for (int i = 1; i <= 200; i++) {
                t.puts(0, 99);
                s.is("taken again", t.takes(0, 99), 99);
            }
            s.is("taken", t.led(0), 19800);
            s.is("put in", t.led(1), 19800);
        });
    }

    private static void image() {
        s.test(33, "AN IMAGE is kept: days.", t -> {
            s.is("on a new one", t.image(), 0);
            s.is("laid back on it", t.back(), 0);
            t.day();
            t.day();
            s.is("behind two days", t.image(), 2);
            t.day();
            s.is("the later one is kept", t.back(), 2);
            s.is("the days are back, too", t.image(), 2);
        });
        s.test(33, "AN IMAGE keeps ON, IN, what LED tells.", t -> {
            for (int one = 0; one < 6; one++) {
                t.person(90 + one);
            }
            for (int hive = 0; hive < 5; hive++) {
                t.hive(hive);
                for (int one = 0; one < 6; one++) {
                    t.mend(10 * hive + one, 1, 10 * hive + one + 1);
                }
            }
            t.puts(45, 2);
            t.takes(0, 1);
            t.image();
            Due.tell(t, "0");
            t.day();
            t.deed(1, 99);
            t.does(5);
            t.marry(1);
            t.mend(0, 7, 3);
            s.is("back()", t.back(), 0);
            for (int one = 0; one < 6; one++) {
                s.is("ON of " + one, t.of(one, 0), one == 0 ? 91 : one == 5 ? 93 : 90 + one);
                for (int hive = 0; hive < 5; hive++) {
                    int hp = 10 * hive + one;
                    s.is("IN " + hp, t.of(hp, 1), hp == 0 ? 0 : hp == 45 ? 48 : hp + 1);
                }
            }
            int[] want = {1, 2, 0, 0, 0, 0};
            for (int what = 0; what <= 5; what++) {
                s.is("led(" + what + ")", t.led(what), want[what]);
            }
            s.is("the DEED stays", t.count(2), 1);
            s.is("REACH stays", t.of(0, 7), 3);
        });
    }

    private static void back() {
        s.test(34, "STATE: there is none.", t -> {
            s.is("back() on a new one", t.back(), STATE);
            t.day();
            s.is("back() behind a day", t.back(), STATE);
            t.image();
            s.is("back() to it", t.back(), 1);
            s.is("back() once more", t.back(), 1);
        });
        s.test(34, "PEOPLE that came since: ON as it is, nothing of theirs in HIVES;", t -> {
            t.hive(0);
            t.image();
            for (int one = 0; one < 6; one++) {
                t.person(80 + one);
                t.puts(one, one + 1);
            }
            s.is("back()", t.back(), 0);
            for (int one = 0; one < 6; one++) {
                s.is("ON of " + one, t.of(one, 0), 79);
                s.is("IN of " + one, t.of(one, 1), 0);
            }
            s.is("put in", t.led(1), 0);
            s.is("all in it", t.swarm(0), 0);
        });
        s.test(34, "It is laid back (PEOPLE that came since: ON as it is, nothing of theirs in HIVES; HIVES that came since: nothing "
            + "in them): days.", t -> {
            t.person(50);
            t.hive(0);
            t.puts(0, 5);
            t.image();
            for (int hive = 1; hive < 5; hive++) {
                t.hive(hive);
                t.puts(10 * hive, 5);
            }
            t.person(60);
            t.puts(1, 1);
            t.puts(41, 1);
            s.is("back()", t.back(), 0);
            s.is("ON of the first", t.of(0, 0), 45);
            s.is("ON of the second as it is", t.of(1, 0), 58);
            s.is("IN of the first", t.of(0, 1), 5);
            for (int hp : new int[] {1, 10, 20, 30, 40, 41}) {
                s.is("IN " + hp, t.of(hp, 1), 0);
            }
            s.is("HIVES stay", t.count(1), 5);
            s.is("PEOPLE stay", t.count(0), 2);
            t.mend(1, 0, 9);
            s.is("back() again", t.back(), 0);
            s.is("ON of the second as it is then", t.of(1, 0), 9);
        });
    }

    private static void undo() {
        s.test(35, "UNDONE: how many may still be. STATE: none.", t -> {
            s.is("undo() on a new one", t.undo(), STATE);
            t.mend(0, 7, 11);
            t.mend(0, 7, 12);
            s.is("one left", t.undo(), 1);
            s.is("REACH", t.of(0, 7), 11);
            s.is("none left", t.undo(), 0);
            s.is("REACH as at first", t.of(0, 7), 10);
            s.is("none", t.undo(), STATE);
            s.is("REACH stays", t.of(0, 7), 10);
            s.is("count(4)", t.count(4), 0);
        });
        s.test(35, "CHANGES (all numbers of mend(); telling the same number is none) can be UNDONE, the latest first,", t -> {
            land(t, 20, 0);
            t.deed(10, 30);
            int[] was = new int[10];
            int changes = t.count(4);
            for (int what = 0; what <= 9; what++) {
                was[what] = t.of(0, what);
                s.is("the same " + what, t.mend(0, what, was[what]), was[what]);
                s.is("is no change", t.count(4), changes + what);
                t.mend(0, what, was[what] + 1);
                s.is("another is", t.count(4), changes + what + 1);
                s.is("a refused one is none", t.mend(1000, what, 1), BAD);
                s.is("count(4)", t.count(4), changes + what + 1);
            }
            for (int what = 9; what >= 0; what--) {
                s.is("undo() of " + what, t.undo(), changes + what);
                s.is("of(0, " + what + ")", t.of(0, what), was[what]);
                s.is("the one ahead stays", what == 0 || t.of(0, what - 1) == was[what - 1] + 1 ? 1 : 0, 1);
            }
            for (int what = 0; what <= 9; what++) {
                s.is("redo() of " + what, t.redo(), 9 - what);
                s.is("of(0, " + what + ") again", t.of(0, what), was[what] + 1);
            }
        });
        s.test(35, "all numbers of mend()", t -> {
            int[][] changes = {{5, 0}, {0, 0}, {45, 1}, {40, 1}, {5, 1}, {4, 2}, {0, 2}, {9, 3}, {0, 3}, {9, 4}, {0, 4}, {9, 5}, {0, 5},
                {0, 6}, {0, 7}, {0, 8}, {0, 9}};
            for (int i = 0; i < 10; i++) {
                t.deed(20, 40);
                if (i < 6) {
                    t.person(10 + i);
                }
                if (i < 5) {
                    t.hive(i);
                }
            }
            int[] was = new int[changes.length];
            for (int i = 0; i < changes.length; i++) {
                was[i] = t.mend(changes[i][0], changes[i][1], i % 3 == 0 ? 3 : 2);
            }
            askNumbers(t, changes, -1, was);
        });
        s.test(35, "deeds are none (ON, IN by them, too).", t -> {
            t.person(50);
            t.person(50);
            t.hive(0);
            t.deed(2, 99);
            t.puts(0, 10);
            t.takes(0, 1);
            t.does(0);
            t.day();
            t.marry(1);
            t.image();
            t.back();
            Due.lay(t, 0, 0, 1, 2, 3);
            t.deeds(0, 0, 1);
            s.is("none may be undone", t.count(4), 0);
            s.is("undo()", t.undo(), STATE);
            t.mend(0, 0, 60);
            t.puts(0, 10);
            s.is("undo() of ON", t.undo(), 0);
            s.is("ON as it was ahead of the change", t.of(0, 0), 45);
            s.is("IN as by the deed", t.of(0, 1), 19);
        });
    }

    /** Undoes all changes but the oldest few, and does them again: each number as it was, and as it became. */
    private static void askNumbers(TemperInHive t, int[][] changes, int gone, int[] was) {
        int[] became = new int[changes.length];
        for (int i = 0; i < changes.length; i++) {
            became[i] = t.of(changes[i][0], changes[i][1]);
        }
        for (int i = changes.length - 1; i > gone; i--) {
            s.is("of(" + changes[i][0] + ", " + changes[i][1] + ") stands", t.of(changes[i][0], changes[i][1]), became[i]);
            s.is("undo()", t.undo() >= 0 ? 1 : 0, 1);
            s.is("of(" + changes[i][0] + ", " + changes[i][1] + ") as it was", t.of(changes[i][0], changes[i][1]), was[i]);
        }
        for (int i = gone + 1; i < changes.length; i++) {
            s.is("redo()", t.redo() >= 0 ? 1 : 0, 1);
            s.is("of(" + changes[i][0] + ", " + changes[i][1] + ") again", t.of(changes[i][0], changes[i][1]), became[i]);
        }
        s.is("no more", t.redo(), STATE);
    }

    private static void redo() {
        s.test(36, "DONE AGAIN: how many may still be. STATE: none.", t -> {
            s.is("redo() on a new one", t.redo(), STATE);
            t.mend(0, 7, 11);
            s.is("redo() of none", t.redo(), STATE);
            t.mend(0, 7, 12);
            t.undo();
            t.undo();
            s.is("one left", t.redo(), 1);
            s.is("REACH", t.of(0, 7), 11);
            s.is("none left", t.redo(), 0);
            s.is("REACH as at last", t.of(0, 7), 12);
            s.is("none", t.redo(), STATE);
            s.is("REACH stays", t.of(0, 7), 12);
            s.is("both may be undone", t.count(4), 2);
        });
        s.test(36, "and DONE AGAIN (as long as no other came behind);", t -> {
            t.person(1);
            t.mend(0, 0, 2);
            t.mend(0, 0, 3);
            t.undo();
            s.is("telling the same is none", t.mend(0, 0, 2), 2);
            s.is("nor what is refused", t.mend(0, 0, 100), BAD);
            t.person(5);
            t.hive(5);
            t.deed(1, 1);
            t.day();
            t.puts(0, 1);
            s.is("nor are deeds", t.redo(), 0);
            s.is("ON as it became", t.of(0, 0), 3);
            t.undo();
            t.undo();
            t.mend(0, 9, 1);
            s.is("another came behind", t.redo(), STATE);
            s.is("it stands", t.count(4), 1);
            s.is("it can be undone", t.undo(), 0);
            s.is("and done again", t.redo(), 0);
            s.is("LOSS", t.of(0, 9), 1);
        });
    }

    private static void fortyChanges() {
        s.test(35, "40 at most are kept;", t -> {
            for (int v = 1; v <= 39; v++) {
                t.mend(0, 9, 20 + v);
            }
            s.is("39", t.count(4), 39);
            t.mend(0, 9, 60);
            s.is("40", t.count(4), 40);
            t.mend(0, 9, 61);
            s.is("41 are 40", t.count(4), 40);
            for (int left = 39; left >= 0; left--) {
                s.is("undo()", t.undo(), left);
                s.is("LOSS", t.of(0, 9), 21 + left);
            }
            s.is("the first is gone", t.undo(), STATE);
            s.is("LOSS behind it", t.of(0, 9), 21);
            for (int left = 39; left >= 0; left--) {
                s.is("redo()", t.redo(), left);
            }
            s.is("no more", t.redo(), STATE);
            s.is("LOSS at last", t.of(0, 9), 61);
        });
        s.test(35, "the latest first, and DONE AGAIN (as long as no other came behind); 40 at most are kept;", t -> {
            int[][] changes = new int[44][];
            int[] was = new int[44];
            for (int i = 0; i < 10; i++) {
                t.deed(0, 50);
            }
            for (int i = 0; i < 5; i++) {
                t.person(10 + i);
                t.hive(20 + i);
            }
            for (int i = 0; i < 44; i++) {
                changes[i] = i < 5 ? new int[] {i, 0} : i < 10 ? new int[] {i - 5, 2} : i < 24 ? new int[] {10 * (i % 5) + i / 5 - 2, 1}
                    : i < 34 ? new int[] {i - 24, 4} : new int[] {i - 34, 5};
                was[i] = t.mend(changes[i][0], changes[i][1], 51 + i);
            }
            s.is("44 are 40", t.count(4), 40);
            askNumbers(t, changes, 3, was);
            s.is("the oldest ones stand", t.of(3, 0), 54);
        });
        s.test(36, "40 at most are kept;", t -> {
            for (int v = 1; v <= 40; v++) {
                t.mend(0, 9, 20 + v);
            }
            for (int left = 39; left >= 30; left--) {
                t.undo();
            }
            t.mend(0, 9, 0);
            s.is("30 and one", t.count(4), 31);
            s.is("none can be done again", t.redo(), STATE);
            for (int v = 1; v <= 9; v++) {
                t.mend(0, 9, v);
            }
            s.is("40 again", t.count(4), 40);
            t.mend(0, 9, 10);
            for (int left = 39; left >= 0; left--) {
                s.is("undo()", t.undo(), left);
            }
            s.is("the oldest is gone alone", t.of(0, 9), 21);
        });
    }
}
