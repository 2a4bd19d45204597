/** What a test counts: answers that are not the ones that are due. */
final class Due {
    private final String test;
    private int wrong = 0;
    private int asked = 0;

    Due(String test) {
        this.test = test;
    }

    void is(String what, long got, long want) {
        asked++;
        if (got != want) {
            wrong++;
            if (wrong <= 40) {
                System.out.println(test + ": " + what + " answered " + got + ", due is " + want);
            }
        }
    }

    void so(String what, boolean holds) {
        is(what, holds ? 1 : 0, 1);
    }

    void end() {
        System.out.println(test + ": " + asked + " asked, " + wrong + " wrong");
        if (wrong != 0) {
            System.exit(1);
        }
    }

    /** Feeds a text and makes it the law. */
    static int tell(TemperInHive t, String text) {
        for (int i = 0; i < text.length(); i++) {
            t.feed(text.charAt(i));
        }
        return t.law();
    }

    /** Lays a row of a sort with these elements on a shelf. */
    static void lay(TemperInHive t, int shelf, int sort, long... elements) {
        t.row(shelf, sort, elements.length);
        for (int i = 0; i < elements.length; i++) {
            t.put(shelf, i, elements[i]);
        }
    }
}
