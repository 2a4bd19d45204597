import java.lang.management.ManagementFactory;
import java.lang.reflect.InvocationTargetException;
import java.lang.reflect.Method;
import java.util.ArrayList;
import java.util.Arrays;
import java.util.Comparator;
import java.util.List;
import java.util.Random;

/** Drawn calls with wild arguments: none throws, refusals and thoughts change nothing, none makes an object. */
public final class SafetyTest {
    private static final Due due = new Due("SafetyTest");
    private static final Random random = new Random(512);
    private static final List<String> CHANGING = List.of("person", "hive", "deed", "deeds", "mend", "feed", "law", "takes",
        "puts", "day", "does", "marry", "image", "back", "undo", "redo", "body", "act", "keep", "row", "put", "shift");
    private static final long[] WILD = {-1, -2, -3, -10, -11, -100, 60, 61, 99, 100, 101, 120, 255, 256, 9999, 10000,
        Integer.MAX_VALUE, Integer.MIN_VALUE, Integer.MAX_VALUE - 1, Integer.MIN_VALUE + 1, 1 << 30, Long.MAX_VALUE,
        Long.MIN_VALUE};

    public static void main(String[] args) throws Exception {
        for (int run = 0; run < 400; run++) {
            wildRun(run);
        }
        makesNothing();
        due.end();
    }

    private static void wildRun(int run) throws IllegalAccessException {
        Method[] methods = TemperInHive.class.getDeclaredMethods();
        List<Method> face = new ArrayList<>();
        for (Method m : methods) {
            if (java.lang.reflect.Modifier.isPublic(m.getModifiers())) {
                face.add(m);
            }
        }
        face.sort(Comparator.comparing(Method::getName));
        due.is("methods of the face", face.size(), 45);
        TemperInHive t = new TemperInHive();
        for (int i = 0; i < 512; i++) {
            Method m = face.get(random.nextInt(face.size()));
            Object[] arguments = drawArguments(m);
            String call = "run " + run + ": " + m.getName() + Arrays.toString(arguments);
            boolean watched = run % 8 == 0;
            List<Long> before = watched ? snapshot(t) : null;
            long answer = answerOf(t, m, arguments, call);
            boolean refused = answer < 0 && answer >= -14 && !m.getName().equals("act");
            if (watched && (refused || !CHANGING.contains(m.getName()))) {
                due.so(call + " changes nothing", before.equals(snapshot(t)));
            }
        }
    }

    private static Object[] drawArguments(Method m) {
        Class<?>[] types = m.getParameterTypes();
        Object[] arguments = new Object[types.length];
        for (int k = 0; k < types.length; k++) {
            long v = random.nextInt(12) == 0 ? WILD[random.nextInt(WILD.length)] : random.nextInt(4) == 0
                ? random.nextInt(100) : random.nextInt(7);
            if (m.getName().equals("feed") && random.nextInt(10) > 0) {
                v = "ansohd12345|&<=>+-*/%!();?".charAt(random.nextInt(26));
            }
            if (m.getName().equals("drawn") && k == 1 && random.nextInt(5) > 0) {
                v = 100 * (1 + random.nextInt(5)) + 1 + random.nextInt(30);
            }
            arguments[k] = types[k] == long.class ? (Object) v : (Object) (int) v;
        }
        return arguments;
    }

    private static long answerOf(TemperInHive t, Method m, Object[] arguments, String call) throws IllegalAccessException {
        try {
            return ((Number) m.invoke(t, arguments)).longValue();
        } catch (InvocationTargetException e) {
            due.so(call + " throws " + e.getCause(), false);
            return 0;
        }
    }

    /** All that can be asked without changing anything. */
    private static List<Long> snapshot(TemperInHive t) {
        List<Long> all = new ArrayList<>();
        for (int what = 0; what < 10; what++) {
            for (int number = 0; number < 50; number++) {
                all.add((long) t.of(number, what));
            }
            all.add((long) t.count(what));
            all.add((long) t.led(what));
        }
        for (int shelf = 0; shelf < 6; shelf++) {
            for (int i = 0; i < 61; i++) {
                all.add(t.element(shelf, i));
            }
            all.add((long) t.taken(shelf, 0));
        }
        for (int i = 0; i < 24; i++) {
            all.add((long) t.trace(i));
        }
        for (int hive = 0; hive < 5; hive++) {
            all.add((long) t.later(10 * hive + 9, 2));
        }
        return all;
    }

    private static TemperInHive fullLand() {
        TemperInHive t = new TemperInHive();
        for (int p = 0; p < 6; p++) {
            t.person(10 * p);
        }
        for (int h = 0; h < 5; h++) {
            t.hive(21 * h);
            for (int p = 0; p < 6; p++) {
                t.mend(10 * h + p, 1, 5 + p);
            }
        }
        for (int d = 0; d < 10; d++) {
            t.deed(5 * d, 5 * d + 20);
            t.body(d % 8);
        }
        Due.lay(t, 0, 0, 1, 2, 3, 4, 5, 6, 7, 8, 9);
        Due.lay(t, 1, 1, 0, 0, 1, 10);
        Due.lay(t, 2, 0, 4, 4, 1, 5, 5, 0);
        return t;
    }

    private static long sum = 0;

    private static void allCalls(TemperInHive t, int i) {
        sum += t.person(1) + t.hive(1) + t.deed(1, 2) + t.deeds(0, 0, 2) + t.mend(0, 9, i % 100) + t.of(0, 1);
        sum += t.feed('a') + t.feed('+') + t.feed('(') + t.feed('d') + t.feed(')') + t.law() + t.later(9, 9) + t.still(1);
        sum += t.can(1, 1) + t.round(0, 1, 2) + t.without(0, 1) + t.who(-1) + t.who(9) + t.stung(44) + t.way(0, 90);
        sum += t.least(0, 99, 0) + t.set(99, 12, 0) + t.tries(2, 0, 0) + t.next(2, 0) + t.leave(0) + t.judge(1);
        sum += t.from(1, 1) + t.swarm(1) + t.drawn(i, 303, 0) + t.takes(1, 1) + t.puts(1, 1) + t.day() + t.does(11);
        sum += t.marry(12) + t.led(0) + t.image() + t.back() + t.undo() + t.redo() + t.body(1) + t.act(i % 10, 3, i);
        sum += t.trace(0) + t.keep(5, 1) + t.row(4, 3, 60) + t.put(4, 1, i) + t.element(4, 1) + t.shift(4, 0, 4, 1, 9);
        sum += t.taken(5, 0) + t.count(6);
    }

    /** All calls of one run live in one room, so a call that made something would tell in the end. */
    private static void makesNothing() {
        var bean = (com.sun.management.ThreadMXBean) ManagementFactory.getThreadMXBean();
        TemperInHive t = fullLand();
        for (int i = 0; i < 200; i++) {
            allCalls(t, i);
        }
        long id = Thread.currentThread().getId();
        long before = bean.getThreadAllocatedBytes(id);
        for (int i = 0; i < 2000; i++) {
            allCalls(t, i);
        }
        long made = bean.getThreadAllocatedBytes(id) - before;
        due.so("2000 rounds of calls made " + made + " bytes", made < 2000);
        before = bean.getThreadAllocatedBytes(id);
        for (int i = 0; i < 100; i++) {
            sum += new TemperInHive().count(0);
        }
        made = (bean.getThreadAllocatedBytes(id) - before) / 100;
        due.so("a new object made " + made + " bytes", made < 20000);
    }
}
