import java.lang.reflect.InvocationTargetException;
import java.lang.reflect.Method;
import java.util.ArrayList;
import java.util.Arrays;
import java.util.HashMap;
import java.util.List;
import java.util.Map;
import java.util.Random;

/** Drawn runs of 512 calls on a new object: each answer against PlainLand's, the document written a second time. */
public final class RunsTest {
    private static final int RUNS = 150, CALLS = 512;
    private static final Due due = new Due("RunsTest");
    private static final Random random = new Random(20261119);
    private static final Map<String, Method> plain = new HashMap<>();
    /** Kinds of runs: all calls alike often, or some of them more often than the others. */
    private static final String[] KINDS = {
        "", "person hive mend mend mend undo undo redo image back takes puts does marry day of of",
        "feed law later still day drawn", "deed deeds row put can round without who", "mend stung way least set",
        "row put tries next judge from swarm leave", "body act act act trace keep taken row put shift shift element",
    };
    private static final long[] WILD = {-1, -2, -9, -10, -11, -14, 60, 61, 99, 100, 101, 127, 128, 255, 256, 32768, 65536,
        Integer.MAX_VALUE, Integer.MIN_VALUE, Integer.MAX_VALUE - 1, Long.MAX_VALUE, Long.MIN_VALUE, 1L << 32};
    private static final String[] LAWS = {"a+1", "a-1", "a+s*2-o+d/9", "n>99?a/2;a+n/9", "d%2=0?a+5;a-5", "h=1?99;s?a;0",
        "o>2&!(a<9)?a-o*2;a+a/5+1", "(a+n)%100", "-a+99", "0", "a", "d>3|s=2?a+3", "99-n%7*h", "a*a/9-d", "1?2?3", "a+", "(a",
        "12345", "((((((a))))))", "(((((((a)))))))", "!!-(-a)+a", "a<n<9", "a;", ";a", "a=9?", ""};

    public static void main(String[] args) throws Exception {
        for (Method m : PlainLand.class.getDeclaredMethods()) {
            m.setAccessible(true);
            plain.put(m.getName() + Arrays.toString(m.getParameterTypes()), m);
        }
        List<Method> face = new ArrayList<>();
        for (Method m : TemperInHive.class.getMethods()) {
            if (m.getDeclaringClass() == TemperInHive.class) {
                face.add(m);
            }
        }
        face.sort((m, other) -> m.getName().compareTo(other.getName()));
        for (int run = 0; run < RUNS; run++) {
            oneRun(run, face);
        }
        due.end();
    }

    private static void oneRun(int run, List<Method> face) throws Exception {
        TemperInHive t = new TemperInHive();
        PlainLand p = new PlainLand();
        List<Method> some = new ArrayList<>(face);
        String more = KINDS[run % KINDS.length];
        for (String name : more.isEmpty() ? new String[0] : more.split(" ")) {
            for (Method m : face) {
                for (int i = 0; i < 6 && m.getName().equals(name); i++) {
                    some.add(m);
                }
            }
        }
        List<String> calls = begin(t, p, face);
        boolean same = true;
        while (same && calls.size() < CALLS) {
            Method m = some.get(random.nextInt(some.size()));
            if (m.getName().equals("feed") && random.nextInt(3) == 0) {
                same = tellLaw(t, p, m, calls);
            } else {
                same = ask(t, p, m, drawArguments(m), calls);
            }
        }
        if (!same) {
            System.out.println("run " + run + ": " + calls);
        }
    }

    /** Some people, HIVES and DEEDS, so that most calls find something. */
    private static List<String> begin(TemperInHive t, PlainLand p, List<Method> face) throws Exception {
        List<String> calls = new ArrayList<>();
        Map<String, Integer> many = Map.of("person", random.nextInt(7), "hive", random.nextInt(6), "deed", random.nextInt(11),
            "body", random.nextInt(9));
        for (Method m : face) {
            for (int i = 0; i < many.getOrDefault(m.getName(), 0); i++) {
                ask(t, p, m, drawArguments(m), calls);
            }
        }
        Method mend = TemperInHive.class.getMethod("mend", int.class, int.class, int.class);
        for (int i = 0; i < 30; i++) {
            ask(t, p, mend, new Object[] {hp(), 1, random.nextInt(random.nextBoolean() ? 12 : 80)}, calls);
        }
        layRows(t, p, calls);
        due.so("begun", calls.size() < CALLS);
        return calls;
    }

    /** Two rows of bytes, for rounds and for tries, and one of shorts. */
    private static void layRows(TemperInHive t, PlainLand p, List<String> calls) throws Exception {
        Method row = TemperInHive.class.getMethod("row", int.class, int.class, int.class);
        Method put = TemperInHive.class.getMethod("put", int.class, int.class, long.class);
        int[] most = {5, 10, 4};
        for (int shelf = 0; shelf < 3; shelf++) {
            int n = random.nextInt(28);
            ask(t, p, row, new Object[] {shelf, shelf == 2 ? 1 : 0, n}, calls);
            for (int i = 0; i < n; i++) {
                int v = shelf == 1 && i % 3 == 2 ? random.nextInt(2) : random.nextInt(most[shelf]);
                ask(t, p, put, new Object[] {shelf, i, (long) v}, calls);
            }
        }
    }

    private static boolean tellLaw(TemperInHive t, PlainLand p, Method feed, List<String> calls) throws Exception {
        String law = LAWS[random.nextInt(LAWS.length)];
        boolean same = true;
        for (int i = 0; i < law.length() && same && calls.size() < CALLS; i++) {
            same = ask(t, p, feed, new Object[] {(int) law.charAt(i)}, calls);
        }
        return same && (calls.size() >= CALLS || ask(t, p, TemperInHive.class.getMethod("law"), new Object[0], calls));
    }

    private static boolean ask(TemperInHive t, PlainLand p, Method m, Object[] arguments, List<String> calls) throws Exception {
        String call = m.getName() + Arrays.toString(arguments);
        calls.add(call);
        long want = ((Number) plain.get(m.getName() + Arrays.toString(m.getParameterTypes())).invoke(p, arguments)).longValue();
        try {
            long got = ((Number) m.invoke(t, arguments)).longValue();
            due.is(call, got, want);
            return got == want;
        } catch (InvocationTargetException e) {
            due.so(call + " threw " + e.getCause(), false);
            return false;
        }
    }

    private static Object[] drawArguments(Method m) {
        Class<?>[] types = m.getParameterTypes();
        Object[] arguments = new Object[types.length];
        int what = random.nextInt(11) - (random.nextInt(9) == 0 ? 1 : 0);
        for (int k = 0; k < types.length; k++) {
            long v = random.nextInt(25) == 0 ? WILD[random.nextInt(WILD.length)] : drawOne(m.getName(), k, what);
            arguments[k] = types[k] == long.class ? (Object) v : (Object) (int) v;
        }
        return arguments;
    }

    private static int hp() {
        return 10 * random.nextInt(5) + random.nextInt(random.nextInt(9) == 0 ? 10 : 6);
    }

    /** What the k-th one of a call's arguments mostly is. */
    private static long drawOne(String name, int k, int what) {
        return switch (name) {
            case "person", "hive", "stung", "way" -> random.nextInt(100);
            case "deed" -> k == 0 ? random.nextInt(60) : 30 + random.nextInt(70);
            case "mend", "of" -> k == 1 ? what : k == 0 ? numberFor(what) : valueFor(what);
            case "feed" -> "ansohd12345|&<=>+-*/%!();?".charAt(random.nextInt(26));
            case "later" -> k == 0 ? hp() + random.nextInt(3) : random.nextInt(random.nextBoolean() ? 4 : 61);
            case "least" -> k == 2 ? random.nextInt(2) : random.nextInt(100);
            case "set" -> k == 0 ? random.nextInt(10000) : k == 1 ? random.nextInt(100) : random.nextInt(2);
            case "takes", "puts" -> k == 0 ? hp() : 1 + random.nextInt(random.nextBoolean() ? 9 : 60);
            case "does" -> 10 * random.nextInt(10) + random.nextInt(6);
            case "marry" -> 10 * random.nextInt(6) + random.nextInt(6);
            case "drawn" -> k == 0 ? random.nextInt() : k == 1 ? 100 * random.nextInt(5) + random.nextInt(31) : random.nextInt(2);
            case "from" -> k == 0 ? random.nextInt(6) : random.nextInt(60);
            case "act" -> k == 0 ? random.nextInt(12) : k == 1 ? random.nextInt(4) : random.nextInt(999) - 400;
            case "trace" -> random.nextInt(12);
            case "body" -> random.nextInt(8);
            case "row" -> k == 0 ? 2 + random.nextInt(4) : k == 1 ? random.nextInt(5) : random.nextInt(20);
            case "put" -> k == 2 ? elementFor() : k == 0 ? random.nextInt(6) : random.nextInt(20);
            case "deeds", "element" -> k == 0 ? random.nextInt(3) : random.nextInt(12);
            case "shift" -> random.nextInt(k == 0 || k == 2 ? 4 : 9);
            case "round" -> k == 0 ? random.nextInt(2) : random.nextInt(8) - (k == 2 ? 1 : 0);
            case "who" -> random.nextInt(11) - 1;
            case "without", "taken" -> random.nextInt(k == 0 ? 4 : 7);
            case "tries" -> k == 0 ? random.nextInt(3) : random.nextInt(k == 1 ? 5 : 3);
            case "next", "can" -> random.nextInt(3);
            case "judge" -> 2 + random.nextInt(2);
            case "leave", "swarm" -> random.nextInt(2);
            case "keep" -> k == 0 ? 2 + random.nextInt(4) : random.nextInt(8) - 1;
            default -> random.nextInt(6);
        };
    }

    private static long elementFor() {
        return switch (random.nextInt(5)) {
            case 0 -> random.nextLong();
            case 1 -> random.nextInt(100);
            case 2 -> random.nextInt(2);
            default -> random.nextInt(11) - random.nextInt(2);
        };
    }

    private static int numberFor(int what) {
        return what == 1 ? hp() : what >= 6 ? random.nextInt(9) == 0 ? 1 : 0 : random.nextInt(what >= 3 ? 10 : 6);
    }

    private static int valueFor(int what) {
        return switch (what) {
            case 6 -> random.nextInt(5) - random.nextInt(2);
            case 7 -> random.nextInt(22);
            case 8 -> random.nextInt(14);
            default -> random.nextInt(random.nextBoolean() ? 101 : 30);
        };
    }
}
