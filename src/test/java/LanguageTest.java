import java.io.IOException;
import java.nio.charset.StandardCharsets;
import java.nio.file.Files;
import java.nio.file.Path;
import java.util.Set;
import java.util.regex.Matcher;
import java.util.regex.Pattern;

/** Rules of LANGUAGE.md that can be seen from the source, whose path is the argument. */
public final class LanguageTest {
    private static final Check CHECK = new Check();
    private static final Set<String> CALLED = Set.of("Arrays.fill", "Arrays.copyOf", "Arrays.copyOfRange", "System.arraycopy", "List.of");
    private static final String[] WORDS = {"throw", "throws", "try", "catch", "finally", "synchronized", "assert", "package",
        "volatile", "native", "Thread", "Random", "protected"};
    private static final int METHOD_LINES = 60;

    public static void main(String[] args) throws IOException {
        String source = Files.readString(Path.of(args[0]), StandardCharsets.ISO_8859_1);
        String bare = source.replaceAll("(?s)/\\*.*?\\*/", "").replaceAll("//[^\n]*", "")
            .replaceAll("'(\\\\.|[^'\\\\])'", "0").replaceAll("\"(\\\\.|[^\"\\\\])*\"", "0");
        CHECK.holds("rule 4: signs of the source are plain", source.chars().allMatch(c -> c < 127));
        for (String word : WORDS) {
            CHECK.holds("rules 1, 3, 6: no " + word, !Pattern.compile("\\b" + word + "\\b").matcher(bare).find());
        }
        CHECK.holds("rule 2: no lambda, no method reference", !bare.contains("->") && !bare.contains("::"));
        CHECK.holds("rule 2: no class without static", !Pattern.compile("\n    +(private )?(final )?class").matcher(bare).find());
        Matcher imports = Pattern.compile("import ([^;]*);").matcher(bare);
        while (imports.find()) {
            CHECK.holds("rule 4: import " + imports.group(1), imports.group(1).matches("java\\.util\\.(Arrays|ArrayList|List|Iterator)"));
        }
        Matcher uses = Pattern.compile("\\b(Integer|Long|Math|Arrays|System|List|Short|Byte|Character)\\.(\\w+)\\(").matcher(bare);
        while (uses.find()) {
            boolean isNumbers = uses.group(1).matches("Integer|Long|Math") && !uses.group(2).endsWith("Exact");
            CHECK.holds("rule 4: " + uses.group(), isNumbers || CALLED.contains(uses.group(1) + "." + uses.group(2)));
        }
        Matcher makes = Pattern.compile("\\bstatic (?!final)(?!class)(\\w+(\\[\\])* \\w+ ?[=;])").matcher(bare);
        CHECK.holds("rule 5: static fields are final", !makes.find());
        methodLengths(bare);
        CHECK.end("LanguageTest");
    }

    private static void methodLengths(String bare) {
        Matcher m = Pattern.compile("(?m)^( {4}| {8})(?:\\w+(?:\\[\\])* )*(\\w+)\\([^)]*\\) \\{\n((?:(?!\\1\\}).*\n)*)\\1\\}").matcher(bare);
        while (m.find()) {
            long lines = m.group(3).lines().count();
            CHECK.holds("rule 11: " + m.group(2) + " has lines: " + lines, lines <= METHOD_LINES);
        }
    }
}
