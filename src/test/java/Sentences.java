import java.util.List;
import java.util.function.Consumer;
import java.util.function.ToLongFunction;

/** Tests by sentences of the document: each has an object of its own and says which promise and which words it is for. */
final class Sentences {
    static final int BAD = -1, NOT = -2, FULL = -3, STATE = -5;
    static final int NOTHING_THERE = -11, OTHER_KIND = -12, NO_PLACE = -13, SIZE_BELOW_0 = -14;
    static final int MAX = Integer.MAX_VALUE, MIN = Integer.MIN_VALUE;
    static final int BYTES = 0, SHORTS = 1, INTS = 2, LONGS = 3, BOOLEANS = 4;

    private final Due due;
    private final boolean[] seen = new boolean[Doc.PROMISES + 1];
    private String sentence = "";
    private int asked = 0;

    Sentences(String test) {
        due = new Due(test);
    }

    /** The words stand in the promise, or in the terms that it rests on. */
    void test(int promise, String words, Consumer<TemperInHive> asks) {
        begin(promise, words);
        try {
            asks.accept(new TemperInHive());
        } catch (RuntimeException e) {
            due.so(sentence + "threw " + e, false);
        }
        due.so(sentence + "asks something", asked > 0);
    }

    private void begin(int promise, String words) {
        sentence = "promise " + promise + ", '" + words + "': ";
        asked = 0;
        seen[promise] = true;
        due.so(sentence + "stands in the document", (Doc.promise(promise) + Doc.ahead()).contains(words));
    }

    void is(String call, long got, long want) {
        asked++;
        due.is(sentence + call, got, want);
    }

    /**
     * Two like lands; one has the call that is refused: then all later calls tell the same of both. Ahead of it both have
     * what is laid ready.
     */
    void refused(int promise, String words, Consumer<TemperInHive> ready, String call, ToLongFunction<TemperInHive> refused,
        long want) {
        begin(promise, words);
        TemperInHive with = FullLand.make();
        TemperInHive without = FullLand.make();
        ready.accept(with);
        ready.accept(without);
        is(call, refused.applyAsLong(with), want);
        List<String> told = FullLand.tell(with);
        List<String> due2 = FullLand.tell(without);
        for (int i = 0; i < due2.size(); i++) {
            due.so(sentence + call + " changes nothing: " + told.get(i) + ", without it " + due2.get(i),
                told.get(i).equals(due2.get(i)));
        }
    }

    /** Every promise from the first to the last has a test. */
    void end(int first, int last) {
        for (int promise = first; promise <= last; promise++) {
            due.so("promise " + promise + " has a test", seen[promise]);
        }
        end();
    }

    void end() {
        due.end();
    }
}
