import java.io.IOException;
import java.io.UncheckedIOException;
import java.lang.reflect.InvocationTargetException;
import java.net.URL;
import java.net.URLClassLoader;
import java.nio.file.Files;
import java.nio.file.Path;
import java.util.Comparator;
import java.util.regex.Matcher;
import java.util.regex.Pattern;
import java.util.stream.Stream;
import javax.tools.ToolProvider;

/** README.md's calls answer what it says of them; run from the top of the project. */
public final class ReadmeTest {
    private static final Check CHECK = new Check("ReadmeTest");
    private static final Pattern BLOCK = Pattern.compile("(?s)```java\n(.*?)```");
    private static final Pattern ANSWERED =
            Pattern.compile("(?m)^(int (\\w+) = )?(cans\\.(\\w+)\\(.*\\)); *// (-?\\d+|[A-Z]{4,})\\b(?:[:,].*)?$");
    private static final String[] FACE = {"letter", "blank", "fault", "take", "drop", "turn", "bend", "head", "depth",
        "ground", "tile", "byTurns", "best", "field", "count", "digest"};
    private static final String[] SAID = {"NONE", "UNKNOWN", "OUTSIDE", "STATE", "FULL"};

    public static void main(String[] args) throws Exception {
        Matcher block = BLOCK.matcher(Files.readString(Path.of("README.md")));
        CHECK.due("README.md shows calls", block.find() ? 1 : 0, 1);
        String shown = block.group(1);
        dueAllIsShown(shown);
        run(asProgram(shown));
        CHECK.end();
    }

    /** Each call of the document and each of its constants is shown with what it answers. */
    private static void dueAllIsShown(String shown) {
        for (String call : FACE) {
            boolean found = ANSWERED.matcher(shown).results().anyMatch(answered -> answered.group(4).equals(call));
            CHECK.due("README.md shows " + call + "()", found ? 1 : 0, 1);
        }
        for (String said : SAID) {
            boolean found = ANSWERED.matcher(shown).results().anyMatch(answered -> answered.group(5).equals(said));
            CHECK.due("README.md shows " + said, found ? 1 : 0, 1);
        }
        long calls = shown.lines().filter(line -> line.matches("(?! ).*\\bcans\\.\\w+\\(.*")).count();
        CHECK.due("calls that README.md shows without their answer", calls - answers(shown), 0);
    }

    private static long answers(String shown) {
        return ANSWERED.matcher(shown).results().count();
    }

    private static String asProgram(String shown) {
        String body = ANSWERED.matcher(shown).replaceAll(answered -> {
            String said = answered.group(5);
            String want = said.matches("[A-Z]+") ? "CanDepths." + said : said + "L";
            String call = Matcher.quoteReplacement(answered.group(3));
            if (answered.group(1) == null) {
                return "due(\"" + call + "\", " + call + ", " + want + ");";
            }
            return answered.group(1) + call + "; due(\"" + call + "\", " + answered.group(2) + ", " + want + ");";
        });
        return "public final class Shown {\n"
                + "static int wrong, asked;\n"
                + "static void due(String call, long got, long want) {\n"
                + "asked++;\n"
                + "if (got != want) { wrong++; System.out.println(\"README.md: \" + call + \" answered \" + got); }\n"
                + "}\n"
                + "public static int[] run() {\n" + body + "return new int[] {asked, wrong};\n}\n}\n";
    }

    private static void run(String program) throws Exception {
        Path place = Files.createTempDirectory("readme");
        try {
            Path source = place.resolve("Shown.java");
            Files.writeString(source, program);
            String classes = System.getProperty("java.class.path");
            int failed = ToolProvider.getSystemJavaCompiler()
                    .run(null, null, null, "-cp", classes, "-d", place.toString(), source.toString());
            CHECK.due("README.md's calls compile", failed, 0);
            if (failed == 0) {
                runCompiled(place);
            }
        } finally {
            remove(place);
        }
    }

    private static void runCompiled(Path place) throws IOException, ReflectiveOperationException {
        try (URLClassLoader loader = new URLClassLoader(new URL[] {place.toUri().toURL()})) {
            int[] counts = (int[]) loader.loadClass("Shown").getMethod("run").invoke(null);
            CHECK.due("calls of README.md that were asked", counts[0] > 0 ? 1 : 0, 1);
            CHECK.due("calls of README.md that answer otherwise", counts[1], 0);
        } catch (InvocationTargetException thrown) {
            CHECK.due("README.md's calls throw nothing, but " + thrown.getCause(), 1, 0);
        }
    }

    private static void remove(Path place) throws IOException {
        try (Stream<Path> parts = Files.walk(place)) {
            parts.sorted(Comparator.reverseOrder()).forEach(part -> {
                try {
                    Files.delete(part);
                } catch (IOException failed) {
                    throw new UncheckedIOException(failed);
                }
            });
        }
    }
}
