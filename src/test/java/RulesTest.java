import java.io.IOException;
import java.nio.file.Files;
import java.nio.file.Path;
import java.util.regex.Matcher;
import java.util.regex.Pattern;

/** LANGUAGE.md's rules, as far as the source shows them; run from the top of the project. */
public final class RulesTest {
    private static final Check CHECK = new Check("RulesTest");
    private static final String[] RULED_OUT = {
        "\\bthrow\\b", "\\bthrows\\b", "\\btry\\b", "\\bcatch\\b", "\\bfinally\\b", "\\bsynchronized\\b", "\\bassert\\b",
        "->", "::", "\\bpackage\\b", "\\bstatic\\s*\\{", "\\bprotected\\b", "\\bException\\b", "Exact\\b",
        "\\bThread\\b", "\\bRandom\\b", "\\bnanoTime\\b", "\\bcurrentTimeMillis\\b", "\\bSystem\\.(?!arraycopy)",
        "\\bhashCode\\b", "\\btoString\\b", "\\bgetClass\\b", "[^\\x00-\\x7f]"
    };

    public static void main(String[] args) throws IOException {
        String source = Files.readString(Path.of("src/main/java/CanDepths.java"));
        String code = source.replaceAll("(?s)/\\*.*?\\*/", "").replaceAll("//[^\n]*", "");
        for (String pattern : RULED_OUT) {
            Matcher found = Pattern.compile(pattern).matcher(code);
            CHECK.due("places with " + pattern, found.results().count(), 0);
        }
        Matcher imports = Pattern.compile("import (?!java\\.util\\.(Arrays|ArrayList|List|Iterator);)").matcher(code);
        CHECK.due("imports of what is not listed", imports.results().count(), 0);
        Matcher classes = Pattern.compile("\\b(class|record|enum|interface) \\w+").matcher(code);
        CHECK.due("classes beyond twelve", Math.max(0, classes.results().count() - 12), 0);
        Matcher loose = Pattern.compile("\\bstatic (?!final\\b)\\w+(\\[\\])* \\w+ *(=|;)").matcher(code);
        CHECK.due("static fields that are not final", loose.results().count(), 0);
        CHECK.due("methods of more than sixty lines", longMethods(code), 0);
        CHECK.end();
    }

    /** Methods are told by how far they stand from the edge: 4 signs in the class, 8 in those inside it. */
    private static int longMethods(String code) {
        int tooLong = 0;
        for (String edge : new String[] {"    ", "        "}) {
            Pattern method = Pattern.compile("(?ms)^" + edge + "[a-zA-Z][^\n]*\\) \\{\n(.*?)^" + edge + "\\}\n");
            Matcher found = method.matcher(code);
            while (found.find()) {
                if (found.group(1).lines().count() > 60) {
                    tooLong++;
                }
            }
        }
        return tooLong;
    }
}
