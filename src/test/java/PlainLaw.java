import java.util.ArrayList;
import java.util.List;

/** A law's text by the words of the grammar alone: what is a TEXT, where its FAULT is, what it gives. */
final class PlainLaw {
    private static final String NAMES = "ansohd";

    private PlainLaw() {
    }

    /** "the place (from 0) of the first byte with which no TEXT goes on; the length, if it ends too early"; or -1. */
    static int fault(String tape) {
        for (int i = 0; i < tape.length(); i++) {
            if (!goesOn(tape.substring(0, i + 1))) {
                return i;
            }
        }
        return isText(tape) ? -1 : tape.length();
    }

    /** Some TEXT begins so: a number and brackets, if anything, end it. */
    private static boolean goesOn(String start) {
        for (String part : new String[] {"", "1"}) {
            for (int closed = 0; closed <= 6; closed++) {
                if (isText(start + part + ")".repeat(closed))) {
                    return true;
                }
            }
        }
        return false;
    }

    static boolean isText(String text) {
        for (String line : text.split(";", -1)) {
            String[] parts = line.split("\\?", -1);
            if (parts.length > 2) {
                return false;
            }
            for (String e : parts) {
                if (!isE(e, 0)) {
                    return false;
                }
            }
        }
        return true;
    }

    private static boolean isE(String e, int open) {
        for (String a : split(e, "|")) {
            for (String b : split(a, "&")) {
                List<String> compared = split(b, "<=>");
                if (compared.size() > 2) {
                    return false;
                }
                for (String s : compared) {
                    for (String p : split(s, "+-")) {
                        for (String o : split(p, "*/%")) {
                            if (!isO(o, open)) {
                                return false;
                            }
                        }
                    }
                }
            }
        }
        return true;
    }

    private static boolean isO(String o, int open) {
        if (o.matches("[0-9]{1,4}") || o.length() == 1 && NAMES.contains(o)) {
            return true;
        }
        if (o.isEmpty() || open == 6) {
            return false;
        }
        if (o.charAt(0) == '!' || o.charAt(0) == '-') {
            return isO(o.substring(1), open + 1);
        }
        return o.charAt(0) == '(' && o.endsWith(")") && o.length() > 1 && isE(o.substring(1, o.length() - 1), open + 1);
    }

    /** The parts between signs that stand in no bracket and behind the end of a part. */
    private static List<String> split(String text, String signs) {
        List<String> parts = new ArrayList<>();
        int from = 0;
        for (int at : places(text, signs)) {
            parts.add(text.substring(from, at));
            from = at + 1;
        }
        parts.add(text.substring(from));
        return parts;
    }

    private static List<Integer> places(String text, String signs) {
        List<Integer> places = new ArrayList<>();
        int level = 0;
        for (int i = 0; i < text.length(); i++) {
            char c = text.charAt(i);
            level += c == '(' ? 1 : c == ')' ? -1 : 0;
            boolean behindPart = i > 0 && (NAMES + "0123456789)").indexOf(text.charAt(i - 1)) >= 0;
            if (level == 0 && signs.indexOf(c) >= 0 && (c != '-' || behindPart)) {
                places.add(i);
            }
        }
        return places;
    }

    /** What a TEXT gives; names by the letters of a, n, s, o, h, d. */
    static int give(String text, int... names) {
        for (String line : text.split(";")) {
            String[] parts = line.split("\\?");
            if (parts.length == 1 || worth(parts[0], 0, names) != 0) {
                return worth(parts[parts.length - 1], 0, names);
            }
        }
        return 0;
    }

    private static int worth(String e, int rank, int... names) {
        String[] ranks = {"|", "&", "<=>", "+-", "*/%"};
        if (rank == ranks.length) {
            return worthOfO(e, names);
        }
        List<Integer> places = places(e, ranks[rank]);
        List<String> parts = split(e, ranks[rank]);
        int worth = worth(parts.get(0), rank + 1, names);
        for (int i = 0; i < places.size(); i++) {
            worth = join(e.charAt(places.get(i)), worth, worth(parts.get(i + 1), rank + 1, names));
        }
        return worth;
    }

    private static int worthOfO(String o, int... names) {
        return switch (o.charAt(0)) {
            case '!' -> worthOfO(o.substring(1), names) == 0 ? 1 : 0;
            case '-' -> -worthOfO(o.substring(1), names);
            case '(' -> worth(o.substring(1, o.length() - 1), 0, names);
            default -> NAMES.contains(o) ? names[NAMES.indexOf(o)] : Integer.parseInt(o);
        };
    }

    private static int join(char sign, int l, int r) {
        boolean so = switch (sign) {
            case '|' -> l != 0 || r != 0;
            case '&' -> l != 0 && r != 0;
            case '<' -> l < r;
            case '=' -> l == r;
            case '>' -> l > r;
            default -> false;
        };
        return switch (sign) {
            case '+' -> l + r;
            case '-' -> l - r;
            case '*' -> l * r;
            case '/' -> r == 0 ? 0 : l / r;
            case '%' -> r == 0 ? 0 : l % r;
            default -> so ? 1 : 0;
        };
    }
}
