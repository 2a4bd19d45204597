import java.lang.reflect.Field;
import java.lang.reflect.Method;
import java.lang.reflect.Modifier;
import java.nio.file.Files;
import java.nio.file.Path;
import java.util.ArrayList;
import java.util.Arrays;
import java.util.HashSet;
import java.util.List;
import java.util.Set;
import java.util.TreeSet;
import java.util.regex.Matcher;
import java.util.regex.Pattern;

/** The face as the document has it, and what can be seen of LANGUAGE.md's rules in the source. */
public final class LanguageTest {
    private static final Due due = new Due("LanguageTest");
    private static final String FACE = "person(int) hive(int) deed(int,int) deeds(int,int,int) mend(int,int,int) of(int,int) "
        + "feed(int) law() later(int,int) still(int) can(int,int) round(int,int,int) without(int,int) who(int) stung(int) "
        + "way(int,int) least(int,int,int) set(int,int,int) tries(int,int,int) next(int,int) leave(int) judge(int) "
        + "from(int,int) swarm(int) drawn(int,int,int) takes(int,int) puts(int,int) day() does(int) marry(int) led(int) "
        + "image() back() undo() redo() body(int) act(int,int,int) trace(int) keep(int,int) row(int,int,int) "
        + "put(int,int,long) element(int,int) shift(int,int,int,int,int) taken(int,int) count(int)";

    public static void main(String[] args) throws Exception {
        String source = withoutComments(Files.readString(Path.of("src/main/java/TemperInHive.java")));
        face();
        nested();
        words(source);
        methods(source);
        due.end();
    }

    private static String withoutComments(String source) {
        return source.replaceAll("(?s)/\\*.*?\\*/", "").replaceAll("//[^\n]*", "");
    }

    private static void face() throws Exception {
        Class<?> c = TemperInHive.class;
        due.so("public and final", Modifier.isPublic(c.getModifiers()) && Modifier.isFinal(c.getModifiers()));
        due.is("constructors", c.getDeclaredConstructors().length, 1);
        due.so("a public constructor", Modifier.isPublic(c.getDeclaredConstructor().getModifiers()));
        Set<String> seen = new TreeSet<>();
        for (Method m : c.getDeclaredMethods()) {
            if (!Modifier.isPrivate(m.getModifiers())) {
                due.so(m + " is public and of the object", m.getModifiers() == Modifier.PUBLIC);
                due.so(m + "'s answer", m.getReturnType() == (m.getName().equals("element") ? long.class : int.class));
                StringBuilder types = new StringBuilder();
                for (Class<?> type : m.getParameterTypes()) {
                    types.append(types.length() == 0 ? "" : ",").append(type.getName());
                }
                seen.add(m.getName() + "(" + types + ")");
            }
        }
        due.so("the face is " + seen, seen.equals(new TreeSet<>(Arrays.asList(FACE.split(" ")))));
        Set<String> constants = new TreeSet<>();
        for (Field f : c.getDeclaredFields()) {
            if (!Modifier.isPrivate(f.getModifiers())) {
                constants.add(f.getName() + "=" + f.get(null));
            } else {
                due.so(f + " is final or the object's", Modifier.isFinal(f.getModifiers()) || !Modifier.isStatic(f.getModifiers()));
            }
        }
        due.so("constants " + constants, constants.equals(
            new TreeSet<>(List.of("BAD=-1", "NOT=-2", "FULL=-3", "STATE=-5", "VOID=-2000000000"))));
    }

    private static void nested() {
        Class<?>[] inside = TemperInHive.class.getDeclaredClasses();
        due.so("at most twelve classes", inside.length + 1 <= 12);
        Set<String> names = new HashSet<>();
        for (Method m : TemperInHive.class.getDeclaredMethods()) {
            if (Modifier.isPublic(m.getModifiers())) {
                names.add(m.getName());
            }
        }
        List<Class<?>> all = new ArrayList<>(Arrays.asList(inside));
        all.add(TemperInHive.class);
        for (Class<?> c : all) {
            int fields = 0;
            for (Field f : c.getDeclaredFields()) {
                fields += Modifier.isStatic(f.getModifiers()) ? 0 : 1;
            }
            due.so(c + " has " + fields + " fields", fields <= 20);
            due.so(c + " is static", c == TemperInHive.class || Modifier.isStatic(c.getModifiers()));
            for (Method m : c.getDeclaredMethods()) {
                due.so(m + " has at most seven parameters", m.getParameterCount() <= 7);
                boolean ofFace = c == TemperInHive.class && Modifier.isPublic(m.getModifiers());
                due.so(m + " bears a name of its own", ofFace || !names.contains(m.getName()));
                due.so(m + " is no lambda", !m.isSynthetic());
            }
        }
    }

    private static void words(String source) {
        String[] never = {"\\bthrow\\b", "\\btry\\b", "\\bcatch\\b", "\\bsynchronized\\b", "\\bassert\\b", "\\bimport\\b",
            "\\bpackage\\b", "->", "::", "\\bthrows\\b", "Exact\\(", "\\bdouble\\b", "\\bfloat\\b", "\\bObject\\b",
            "hashCode", "toString", "\\bstatic\\s*\\{", "\\bwhile\\s*\\(\\s*true", "\\bnull\\b", "\\bvar\\b", "\\byield\\b"};
        for (String word : never) {
            due.so("no " + word, !Pattern.compile(word).matcher(source).find());
        }
        Set<String> library = new TreeSet<>();
        Matcher uses = Pattern.compile("\\b(Math|Integer|Long|System|Arrays|String|StringBuilder)\\b(\\.\\w+)?").matcher(source);
        while (uses.find()) {
            library.add(uses.group());
        }
        due.so("library " + library, Set.of("Math.max", "Math.min", "Math.abs", "Integer.bitCount", "System.arraycopy")
            .containsAll(library));
        for (int i = 0; i < source.length(); i++) {
            due.so("sign " + (int) source.charAt(i), source.charAt(i) < 128);
        }
    }

    private static void methods(String source) {
        String[] lines = source.split("\n");
        int start = -1;
        String indent = "";
        for (int i = 0; i < lines.length; i++) {
            Matcher head = Pattern.compile("^( +)[\\w\\[\\] ]+\\w+\\([^;]*\\) \\{$").matcher(lines[i]);
            boolean isHead = head.matches() && !lines[i].trim().matches("(if|for|while|switch|\\}).*");
            if (start < 0 && isHead) {
                start = i;
                indent = head.group(1);
            } else if (start >= 0 && lines[i].equals(indent + "}")) {
                due.so("line " + start + ": a method of " + (i - start + 1) + " lines", i - start + 1 <= 60);
                start = -1;
            }
        }
    }
}
