import java.io.IOException;
import java.lang.reflect.Method;
import java.lang.reflect.Modifier;
import java.nio.file.Files;
import java.nio.file.Path;
import java.util.regex.Matcher;
import java.util.regex.Pattern;
import java.util.stream.Stream;

/** README.md tells what is so: its calls answer what stands behind them, and it names every call, constant and test. */
public final class ReadmeTest {
    private static final Due due = new Due("ReadmeTest");
    private static final Pattern CALL = Pattern.compile("(?m)^t\\.(\\w+)\\(([^)]*)\\); *// (-?\\d+)");

    public static void main(String[] args) throws Exception {
        String page = Files.readString(Path.of("README.md"));
        callsOf(page);
        faceOf(page);
        constantsOf(page);
        testsOf(page);
        due.end();
    }

    private static void callsOf(String page) throws ReflectiveOperationException {
        TemperInHive t = new TemperInHive();
        Matcher call = CALL.matcher(page);
        int calls = 0;
        while (call.find()) {
            String[] told = call.group(2).isEmpty() ? new String[0] : call.group(2).split(", *");
            Object[] arguments = new Object[told.length];
            Class<?>[] types = new Class<?>[told.length];
            for (int k = 0; k < told.length; k++) {
                arguments[k] = told[k].startsWith("'") ? (int) told[k].charAt(1) : Integer.parseInt(told[k]);
                types[k] = int.class;
            }
            int answer = (int) TemperInHive.class.getMethod(call.group(1), types).invoke(t, arguments);
            due.is(call.group(), answer, Integer.parseInt(call.group(3)));
            calls++;
        }
        due.is("lines of the page's example", page.lines().filter(line -> line.startsWith("t.")).count(), calls);
        due.so("the page has an example", calls > 0);
    }

    private static void faceOf(String page) {
        for (Method m : TemperInHive.class.getDeclaredMethods()) {
            if (Modifier.isPublic(m.getModifiers())) {
                due.so("the page names " + m.getName(), page.contains("`" + m.getName() + "`"));
            }
        }
    }

    private static void constantsOf(String page) {
        due.so("BAD", page.contains("| `BAD` | " + TemperInHive.BAD + " |"));
        due.so("NOT", page.contains("| `NOT` | " + TemperInHive.NOT + " |"));
        due.so("FULL", page.contains("| `FULL` | " + TemperInHive.FULL + " |"));
        due.so("STATE", page.contains("| `STATE` | " + TemperInHive.STATE + " |"));
        due.so("VOID", page.contains("| `VOID` | " + TemperInHive.VOID + " |"));
    }

    private static void testsOf(String page) throws IOException {
        try (Stream<Path> files = Files.list(Path.of("src/test/java"))) {
            files.map(file -> file.getFileName().toString()).filter(name -> name.endsWith("Test.java"))
                .map(name -> name.substring(0, name.length() - ".java".length()))
                .forEach(name -> due.so("the page names " + name, page.contains("`" + name + "`")));
        }
    }
}
