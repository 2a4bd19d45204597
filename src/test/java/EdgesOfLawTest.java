/** Promise 9, sentence by sentence of what a law is: each fault's place, the last depth and the first too deep, wraps. */
public final class EdgesOfLawTest {
    private static final int BAD = Sentences.BAD, FULL = Sentences.FULL;
    private static final Sentences s = new Sentences("EdgesOfLawTest");

    public static void main(String[] args) {
        tape();
        lines();
        signs();
        operands();
        names();
        depth();
        wraps();
        answers();
        whichLine();
        faults();
        aDayLater();
        s.end(9, 9);
    }

    /** What a text is answered on a new object. */
    private static void told(String text, long want) {
        s.is("law() of " + text, Due.tell(new TemperInHive(), text), want);
    }

    /** What a law makes of 50 of one, with 30 of another in the same hive, in season 3. */
    private static void gives(String text, long want) {
        TemperInHive t = new TemperInHive();
        t.person(0);
        t.person(0);
        t.hive(0);
        t.hive(9);
        t.mend(10, 1, 50);
        t.mend(11, 1, 30);
        t.mend(0, 6, 3);
        s.is("law() of " + text, Due.tell(t, text), 1);
        s.is("a day by " + text, t.later(10, 1), want);
    }

    private static String repeated(String start, String more, int times) {
        StringBuilder text = new StringBuilder(start);
        for (int i = 0; i < times; i++) {
            text.append(more);
        }
        return text.toString();
    }

    private static void tape() {
        s.test(9, "THE LAW is a TEXT by THE TAPE (at most 120 bytes):", t -> {
            String whole = repeated("10", "+1", 59); // 120 bytes
            for (int i = 0; i < 120; i++) {
                s.is("feed", t.feed(whole.charAt(i)), i + 1);
            }
            s.is("the 121st", t.feed('9'), FULL);
            s.is("law()", t.law(), 1);
            t.person(0);
            t.hive(0);
            t.mend(0, 1, 1);
            s.is("a day by all its bytes", t.later(0, 1), 69);
        });
        s.test(9, "THE TAPE becomes THE LAW: 1; -100 less its FAULT; THE TAPE is empty then.", t -> {
            s.is("law() of an empty TAPE", t.law(), -100);
            s.is("a law", Due.tell(t, "a"), 1);
            s.is("THE TAPE", t.count(3), 0);
            s.is("law() again", t.law(), -100);
            s.is("a fault", Due.tell(t, "a+"), -102);
            s.is("THE TAPE", t.count(3), 0);
            s.is("law() again", t.law(), -100);
            s.is("the first byte after it", t.feed('7'), 1);
            s.is("law() of it alone", t.law(), 1);
        });
        s.test(9, "-100 less its FAULT", t -> {
            t.person(0);
            t.hive(0);
            t.mend(0, 1, 40);
            s.is("a fault ahead of any law", Due.tell(t, "7;"), -102);
            s.is("no law came", t.later(0, 1), 44);
            Due.tell(t, "7");
            s.is("a fault", Due.tell(t, "8+"), -102);
            s.is("the law stays", t.later(0, 1), 7);
            s.is("the empty TAPE", t.law(), -100);
            s.is("the law stays", t.later(0, 1), 7);
            s.is("another", Due.tell(t, "8"), 1);
            s.is("it is the law", t.later(0, 1), 8);
        });
    }

    private static void lines() {
        s.test(9, "LINES, one or more, parted by ; .", t -> {
            told("", -100);
            told("1", 1);
            told(";", -100);
            told("1;", -102);
            told("1;;1", -102);
            told(";1", -100);
            told(repeated("1", ";1", 59), 1); // 60 lines, 119 bytes
            told(repeated("1", ";1", 59) + ";", -220);
            gives(repeated("0?1", ";0?1", 28) + ";9", 9); // 29 lines that don't count, 117 bytes
        });
        s.test(9, "LINE: E, or E ? E", t -> {
            told("1?2", 1);
            told("1?", -102);
            told("?1", -100);
            told("1?2?3", -103);
            told("1??2", -102);
            told("1?2;3?4", 1);
            told("(1?2)", -102);
            told("(1;2)", -102);
            told("1?2|3&4<5+6*7", 1);
        });
        s.test(9, "(what counts if the first is not 0).", t -> {
            gives("1?7;9", 7);
            gives("-1?7;9", 7);
            gives("0?7;9", 9);
            gives("a-50?7;9", 9);
            gives("a-49?7;9", 7);
            gives("0?7", 0);
        });
    }

    private static void signs() {
        s.test(9, "E = A { | A }.", t -> {
            told("1|", -102);
            told("|1", -100);
            told("1||1", -102);
            gives(repeated("0", "|0", 59), 0);
            gives(repeated("0", "|0", 58) + "|1", 1);
        });
        s.test(9, "A = B { & B }.", t -> {
            told("1&", -102);
            told("&1", -100);
            told("1&&1", -102);
            gives(repeated("1", "&1", 59), 1);
            gives(repeated("1", "&1", 58) + "&0", 0);
            gives("1|1&0", 1);
            gives("0&1|1", 1);
        });
        s.test(9, "B = S, or S < S, S = S, S > S.", t -> {
            for (String sign : new String[] {"<", "=", ">"}) {
                told("1" + sign + "2", 1);
                told("1" + sign, -102);
                told(sign + "1", -100);
                for (String other : new String[] {"<", "=", ">"}) {
                    told("1" + sign + other + "2", -102);
                    told("1" + sign + "2" + other + "3", -103);
                    told("(1" + sign + "2)" + other + "3", 1);
                    told("1" + sign + "2&3" + other + "4", 1);
                    told("1" + sign + "2?3" + other + "4", 1);
                    told("1" + sign + "2;3" + other + "4", 1);
                }
            }
            gives("(1<2)+(2<2)*10", 1);
            gives("(2>1)+(2>2)*10", 1);
            gives("(2=2)+(1=2)*10+(2=1)*20", 1);
        });
        s.test(9, "S = P { + P, - P }.", t -> {
            told("1+", -102);
            told("+1", -100);
            told("1++1", -102);
            told("1--1", 1);
            told("1-", -102);
            gives("9-3-2", 4);
            gives("9-3+2", 8);
            gives("9--3", 12);
            gives(repeated("1", "+1", 59), 60);
        });
        s.test(9, "P = O { * O, / O, % O }.", t -> {
            told("1*", -102);
            told("*1", -100);
            told("/1", -100);
            told("%1", -100);
            told("1**1", -102);
            told("1/%1", -102);
            gives("2+3*4", 14);
            gives("60/3/2", 10);
            gives("60/3*2", 40);
            gives("29%10*3", 27);
        });
    }

    private static void operands() {
        s.test(9, "O = a number (1 to 4 digits), a NAME, ! O, - O, ( E ).", t -> {
            for (int letter = 0; letter <= 255; letter++) {
                TemperInHive one = new TemperInHive();
                one.feed(letter);
                boolean whole = letter >= '0' && letter <= '9' || "ansohd".indexOf(letter) >= 0;
                boolean opens = "(!-".indexOf(letter) >= 0;
                s.is("law() of the byte " + letter, one.law(), whole ? 1 : opens ? -101 : -100);
            }
        });
        s.test(9, "a number (1 to 4 digits)", t -> {
            told("9999", 1);
            told("0000", 1);
            told("10000", -104);
            told("99999", -104);
            told("00000", -104);
            told("a+12345", -106);
            told("1234+12345", -109);
            gives("9999-9950", 49);
            gives("0012", 12);
        });
        s.test(9, "( E )", t -> {
            told("(1|2&3<4+5*6)", 1);
            told("()", -101);
            told("(1", -102);
            told("1)", -101);
            told("(1))", -103);
            told("(1)2", -103);
            told("(1)(2)", -103);
            told("1(2)", -101);
        });
        s.test(9, "! O, - O,", t -> {
            told("!", -101);
            told("-", -101);
            told("!1", 1);
            told("-1", 1);
            told("!-1", 1);
            told("1!", -101);
            told("1!2", -101);
            told("2*-1", 1);
            told("2*!1", 1);
            gives("!0+4", 5);
            gives("-3+9", 6);
            gives("-3%2+9", 8);
            gives("!2*9", 0);
            gives("!0=1", 1);
        });
        s.test(9, "No blanks.", t -> {
            told(" a", -100);
            told("a ", -101);
            told("a + 1", -101);
            told("a+ 1", -102);
            told("1 2", -101);
            told("a\n", -101);
            told("a;\t", -102);
        });
    }

    private static void names() {
        s.test(9, "NAMES: a IN of one in a HIVE, n all that is in it, s SEASON, o how many have some in it, h the HIVE,", t -> {
            gives("a", 50);
            gives("n", 80);
            gives("s", 3);
            gives("o", 2);
            gives("h", 1);
            gives("d", 0);
            for (char other : "bcefgijklmpqrtuvwxyzANSOHD_@`{".toCharArray()) {
                told("1+" + other, -102);
            }
            told("aa", -101);
            told("a1", -101);
            told("1a", -101);
        });
        s.test(9, "o how many have some in it", t -> {
            for (int one = 0; one < 6; one++) {
                t.person(0);
            }
            t.hive(0);
            Due.tell(t, "o");
            t.mend(0, 1, 50);
            for (int one = 1; one < 6; one++) {
                s.is("o of " + one, t.later(0, 1), one);
                t.mend(one, 1, 1);
            }
            s.is("o of all six", t.later(0, 1), 6);
        });
        s.test(9, "h the HIVE", t -> {
            t.person(0);
            Due.tell(t, "h");
            for (int hive = 0; hive < 5; hive++) {
                t.hive(0);
                t.mend(10 * hive, 1, 50);
                s.is("h of " + hive, t.later(10 * hive, 1), hive);
            }
        });
        s.test(9, "n all that is in it", t -> {
            for (int one = 0; one < 6; one++) {
                t.person(0);
            }
            t.hive(0);
            t.hive(0);
            t.mend(10, 1, 77);
            Due.tell(t, "n/9+1");
            for (int one = 0; one < 6; one++) {
                t.mend(one, 1, 99);
                s.is("n of " + (one + 1), t.later(0, 1), 99 * (one + 1) / 9 + 1);
            }
        });
        s.test(9, "d how many days have passed in thought (in deed: 0).", t -> {
            t.person(0);
            t.hive(0);
            t.mend(0, 1, 50);
            Due.tell(t, "d+1");
            s.is("later by 1", t.later(0, 1), 1);
            s.is("later by 2", t.later(0, 2), 2);
            s.is("later by 60", t.later(0, 60), 60);
            s.is("a DAY in deed", t.day(), 1);
            s.is("another", t.day(), 1);
            s.is("thought begins anew", t.later(0, 3), 3);
        });
    }

    private static void depth() {
        s.test(9, "At most 6 of ( ! - ahead of an O are open at once.", t -> {
            for (String sign : new String[] {"(", "!", "-"}) {
                String close = sign.equals("(") ? ")" : "";
                String six = repeated("", sign, 6) + "1" + repeated("", close, 6);
                String seven = repeated("", sign, 7) + "1" + repeated("", close, 7);
                told(six, 1);
                told(seven, -106);
                told(repeated("", sign, 7), -106);
                told("1+" + seven, -108);
                told("1?" + seven, -108);
                told("1;" + seven, -108);
                told("1;1?" + seven, -110);
                told(six + "*" + six + "?" + six + ";" + six, 1);
                told(six + "+" + seven, -100 - six.length() - 7);
                told("(" + repeated("", sign, 5) + "1" + repeated("", close, 5) + ")", 1);
                told("(" + six + ")", -106);
            }
            told("(!-(!-1))", 1);
            told("(!-(!-(1)))", -106);
            told("(!-(!-!1))", -106);
            told("-(-(-(1)))", 1);
            told("-(-(-(-1)))", -106);
            told("((((((1)))))+((((1)))))", 1);
            told("((((((1)))))+(((((1))))))", 1);
            told("((((((1)))))+((((((1)))))))", -118);
            told("!!!!!!1+!!!!!!1", 1);
            told("(!!!!!1+!!!!!1)", 1);
            told("(!!!!!1+!!!!!!1)", -113);
            gives("((((((7))))))", 7);
            gives("!!!!!!7", 1);
            gives("------7", 7);
            gives("-----7+9", 2);
        });
        s.test(9, "( ! - ahead of an O", t -> told("1-1-1-1-1-1-1-1-1-1", 1));
    }

    private static void wraps() {
        s.test(9, "Ints that wrap;", t -> {
            gives("9999*9999*21+2>0", 1);
            gives("9999*9999*22>0", 0);
            gives("2048*1024*1024<0", 1);
            gives("2048*1024*1024-1>0", 1);
            gives("2048*1024*1024+2048*1024*1024+7", 7);
            gives("2048*1024*1023+2047*1024+1023+1<0", 1); // the greatest int, and one more
            gives("2048*1024*1023+2047*1024+1023<0", 0);
            gives("4096*1024*1024+5", 5);
            gives("-(2048*1024*1024)<0", 1);
            gives("(2048*1024*1024)/-1<0", 1);
            gives("(2048*1024*1024)%-1+3", 3);
            gives("-(2048*1024*1024)=2048*1024*1024", 1);
        });
        s.test(9, "Ints that wrap; / and % toward 0, by 0 they give 0;", t -> {
            gives("-7/2+9", 6);
            gives("7/-2+9", 6);
            gives("-7/-2", 3);
            gives("7/2", 3);
            gives("-7%3+9", 8);
            gives("7%-3", 1);
            gives("-1/2+5", 5);
            gives("7/0+5", 5);
            gives("7%0+5", 5);
            gives("0/0+5", 5);
            gives("-7/0+5", 5);
            gives("a/(n-80)+5", 5);
            gives("a%(n-80)+5", 5);
        });
    }

    private static void answers() {
        s.test(9, "| & < = > ! give 1, 0; all is worked out.", t -> {
            gives("7|0", 1);
            gives("0|7", 1);
            gives("0|0", 0);
            gives("-1|0", 1);
            gives("7&9", 1);
            gives("8&7", 1);
            gives("7&0", 0);
            gives("0&7", 0);
            gives("!0", 1);
            gives("!7", 0);
            gives("!-1", 0);
            gives("!!7", 1);
            gives("1|1/0", 1);
            gives("0&1/0", 0);
            gives("1<2", 1);
            gives("2<2", 0);
            gives("2=2", 1);
            gives("2>2", 0);
            gives("3>2", 1);
        });
    }

    private static void whichLine() {
        s.test(9, "The first LINE without a first E, or whose first E is not 0, counts; none: 0.", t -> {
            gives("0?7", 0);
            gives("0?7;0?8", 0);
            gives("1?7;8", 7);
            gives("-1?7;8", 7);
            gives("0?7;8", 8);
            gives("0?7;8;9", 8);
            gives("0?7;1?8;9", 8);
            gives("8;1?9", 8);
            gives("0;9", 0);
            gives("1?0;9", 0);
            gives("4096*1024*1024?7;8", 8); // wraps to 0
            gives("2048*1024*1024?7;8", 7);
        });
    }

    private static void faults() {
        s.test(9, "FAULT: the place (from 0) of the first byte with which no TEXT goes on; the length, if it ends too early.", t -> {
            told("b", -100);
            told("ab", -101);
            told("a+b", -102);
            told("a+b+b", -102);
            told("(a", -102);
            told("(a+", -103);
            told("(a]", -102);
            told("a;b", -102);
            told("a?b", -102);
            told("1<2<(", -103);
            told("a\u00ff", -101);
            told("a\u0000", -101);
            told(repeated("1", "+1", 59) + "+", -220);
            told(repeated("1", "+1", 59) + "b", -219);
            told(repeated("1", "+1", 59) + "1", 1);
            told(repeated("", "(", 120), -106);
        });
        s.test(9, "FAULT: the place (from 0)", t -> {
            String sure = repeated("a", "+a", 59);
            for (int i = 0; i < sure.length(); i++) {
                told(sure.substring(0, i) + "b" + sure.substring(i + 1), -100 - i);
                told(sure.substring(0, i), i % 2 == 1 ? 1 : -100 - i);
            }
        });
    }

    private static void aDayLater() {
        s.test(9, "It gives IN of that one a day later (held within 0 .. 99; 0 stays 0 without asking).", t -> {
            gives("98", 98);
            gives("99", 99);
            gives("100", 99);
            gives("9999", 99);
            gives("1", 1);
            gives("0", 0);
            gives("-1", 0);
            gives("-9999", 0);
            gives("2048*1024*1024", 0);
            gives("2048*1024*1024-1", 99);
        });
        s.test(9, "0 stays 0 without asking", t -> {
            t.person(0);
            t.person(0);
            t.hive(0);
            t.mend(1, 1, 1);
            Due.tell(t, "50");
            s.is("of 0", t.later(0, 1), 0);
            s.is("of 1", t.later(1, 1), 50);
            s.is("both", t.later(9, 60), 50);
            Due.tell(t, "d=0?0;50");
            s.is("what came to 0 stays", t.later(1, 2), 0);
        });
        s.test(9, "Without a text: a, and a by 10 (cut), if s is not 3.", t -> {
            t.person(0);
            t.hive(0);
            int[][] days = {{0, 0}, {1, 1}, {9, 9}, {10, 11}, {19, 20}, {20, 22}, {89, 97}, {90, 99}, {91, 99}, {99, 99}};
            for (int season = 0; season <= 3; season++) {
                t.mend(0, 6, season);
                for (int[] day : days) {
                    t.mend(0, 1, day[0]);
                    s.is(day[0] + " in season " + season, t.later(0, 1), season == 3 ? day[0] : day[1]);
                }
            }
            s.is("a text that says a", Due.tell(t, "a"), 1);
            t.mend(0, 6, 0);
            t.mend(0, 1, 50);
            s.is("it is a alone", t.later(0, 1), 50);
            s.is("BAD stays", t.later(0, 61), BAD);
        });
    }
}
