import java.io.IOException;
import java.lang.reflect.Field;
import java.lang.reflect.Modifier;
import java.nio.file.Files;
import java.nio.file.Path;
import java.util.ArrayList;
import java.util.HashMap;
import java.util.List;
import java.util.Map;
import java.util.Set;
import java.util.TreeMap;
import java.util.TreeSet;
import java.util.regex.MatchResult;
import java.util.regex.Matcher;
import java.util.regex.Pattern;

/** LANGUAGE.md's rules, as far as the source and the compiled class show them; run from the top of the project. */
public final class RulesTest {
    private static final Check CHECK = new Check("RulesTest");
    private static final String[] RULED_OUT = {
        "\\bthrow\\b", "\\bthrows\\b", "\\btry\\b", "\\bcatch\\b", "\\bfinally\\b", "\\bsynchronized\\b",
        "\\bassert\\b",
        "->", "::", "\\bpackage\\b", "\\bstatic\\s*\\{", "\\bprotected\\b", "\\bException\\b", "Exact\\b",
        "\\bThread\\b", "\\bRandom\\b", "\\bnanoTime\\b", "\\bcurrentTimeMillis\\b", "\\bSystem\\.(?!arraycopy)",
        "\\bhashCode\\b", "\\btoString\\b", "\\bgetClass\\b", "[^\\x00-\\x7f]", "\\bvar\\b", "\\bdouble\\b",
        "\\bfloat\\b", "\\bnew \\w+\\([^;{}]*\\) *\\{"
    };
    /** What of the library the program uses, all of it listed by rule 4. */
    private static final Set<String> LIBRARY =
            Set.of("Math.max", "Math.min", "Math.abs", "Math.floorMod", "Math.floorDiv", "Arrays.fill");
    private static final Set<Class<?>> CONSTANTS = Set.of(int.class, long.class, boolean.class, char.class,
            String.class, int[].class, long[].class, char[].class, byte[].class);
    private static final int MOST_CLASSES = 12, MOST_FIELDS = 20, MOST_LINES = 60, DEEPEST_CALLS = 8;

    public static void main(String[] args) throws IOException {
        String source = Files.readString(Path.of("src/main/java/CanDepths.java"));
        String code = source.replaceAll("(?s)/\\*.*?\\*/", "").replaceAll("//[^\n]*", "");
        for (String pattern : RULED_OUT) {
            CHECK.due("places with " + pattern, count(pattern, code), 0);
        }
        String otherImports = "import (?!java\\.util\\.(Arrays|ArrayList|List|Iterator);)";
        CHECK.due("imports of what is not listed", count(otherImports, code), 0);
        long classes = count("\\b(class|record|enum|interface) \\w+", code);
        CHECK.due("classes beyond twelve", Math.max(0, classes - MOST_CLASSES), 0);
        library(code);
        fields(CanDepths.class);
        for (Class<?> inside : CanDepths.class.getDeclaredClasses()) {
            fields(inside);
        }
        methods(code);
        CHECK.end();
    }

    private static long count(String pattern, String code) {
        return Pattern.compile(pattern).matcher(code).results().count();
    }

    /** Rules 3 and 4: names with a great letter and small ones are own classes or of the library that is listed. */
    private static void library(String code) {
        Set<String> own = new TreeSet<>(Set.of("CanDepths"));
        for (Class<?> inside : CanDepths.class.getDeclaredClasses()) {
            own.add(inside.getSimpleName());
        }
        String body = code.replaceAll("import [^;]*;", "");
        for (MatchResult name : Pattern.compile("\\b([A-Z]\\w*[a-z]\\w*)(\\.\\w+)?").matcher(body).results().toList()) {
            boolean known = own.contains(name.group(1)) || LIBRARY.contains(name.group());
            CHECK.due(name.group() + " is listed", known ? 1 : 0, 1);
        }
    }

    /** Rules 3, 5 and 11: what fields are of, what is static, how many there are. */
    private static void fields(Class<?> owner) {
        int changing = 0;
        for (Field field : owner.getDeclaredFields()) {
            String name = owner.getSimpleName() + "." + field.getName();
            Class<?> type = field.getType();
            if (Modifier.isStatic(field.getModifiers())) {
                CHECK.due(name + " is final", Modifier.isFinal(field.getModifiers()) ? 1 : 0, 1);
                CHECK.due(name + " is a constant", CONSTANTS.contains(type) ? 1 : 0, 1);
                continue;
            }
            changing++;
            Class<?> part = type.isArray() ? type.getComponentType() : type;
            boolean known = part == int.class || part == boolean.class || part.getNestHost() == CanDepths.class;
            CHECK.due(name + " is a number, an own class or a row of them", known ? 1 : 0, 1);
        }
        CHECK.due("fields beyond twenty of " + owner.getSimpleName(), Math.max(0, changing - MOST_FIELDS), 0);
    }

    /** Rules 8 and 11: short methods, no recursion, calls at most eight deep. Methods of one name are taken as one. */
    private static void methods(String code) {
        Map<String, StringBuilder> bodies = new TreeMap<>();
        // Methods are told by how far they stand from the edge: 4 signs in the class, 8 in those inside it.
        for (String edge : new String[] {"    ", "        "}) {
            String head = "(?!class|switch|if|for|while)[a-zA-Z][^\n={]*?(\\w+)\\([^\n]*\\) \\{\n";
            Matcher method = Pattern.compile("(?ms)^" + edge + head + "(.*?)^" + edge + "\\}\n").matcher(code);
            while (method.find()) {
                bodies.computeIfAbsent(method.group(1), name -> new StringBuilder()).append(method.group(2));
                long lines = method.group(2).lines().count();
                CHECK.due("lines beyond sixty of " + method.group(1), Math.max(0, lines - MOST_LINES), 0);
            }
        }
        CHECK.due("methods are found, digest among them", bodies.containsKey("digest") ? 1 : 0, 1);
        CHECK.due("methods are found, isWithin among them", bodies.containsKey("isWithin") ? 1 : 0, 1);
        CHECK.due("methods are found, depthAt among them", bodies.containsKey("depthAt") ? 1 : 0, 1);
        for (String name : bodies.keySet()) {
            List<String> open = new ArrayList<>();
            int deep = depth(name, bodies, open, new HashMap<>());
            CHECK.due("calls from " + name + " beyond eight deep", Math.max(0, deep - DEEPEST_CALLS), 0);
        }
    }

    private static int depth(String name, Map<String, StringBuilder> bodies, List<String> open,
            Map<String, Integer> known) {
        if (open.contains(name)) {
            CHECK.due("recursion of " + name + " by " + open, 1, 0);
            return 0;
        }
        if (known.containsKey(name)) {
            return known.get(name);
        }
        open.add(name);
        int deepest = 0;
        for (MatchResult call : Pattern.compile("(?<!new )\\b(\\w+)\\(").matcher(bodies.get(name)).results().toList()) {
            if (bodies.containsKey(call.group(1))) {
                deepest = Math.max(deepest, depth(call.group(1), bodies, open, known));
            }
        }
        open.remove(name);
        known.put(name, deepest + 1);
        return deepest + 1;
    }
}
