import java.io.IOException;
import java.nio.file.Files;
import java.nio.file.Path;
import java.util.List;
import java.util.regex.Matcher;
import java.util.regex.Pattern;

/** Those rules of ../shared/LANGUAGE.md that can be seen from the words of the program. */
public final class RulesTest {
    private static final String[] NEVER = {
        "->", "::", "\\bcatch\\b", "\\btry\\b", "\\bfinally\\b", "\\bsynchronized\\b",
        "\\bassert\\b", "\\bvar\\b", "\\bprotected\\b", "^package\\b", "static\\s*\\{",
        "\\.(equals|hashCode|toString|getClass|getMessage|stream|format|wait|notify)\\(",
        "System\\.(?!arraycopy\\()", "Math\\.(?!max\\(|min\\()", "\\bArrays\\.",
        "\\bstatic(?! final| boolean| int| long| void)", "\\+ \"", "\" \\+", "\\w\\.\\.\\."};

    private RulesTest() {
    }

    public static void main(String[] args) throws IOException {
        List<String> lines = Files.readAllLines(Path.of("src/main/java/MountSpaces.java"));
        String code = String.join("\n", lines).replaceAll("(?s)/\\*.*?\\*/", "")
            .replaceAll("//[^\n]*", "");
        for (String never : NEVER) {
            Matcher matcher = Pattern.compile(never, Pattern.MULTILINE).matcher(code);
            Check.same("found " + never, matcher.find() ? matcher.group() : "", "");
        }
        Check.same("imports", Pattern.compile("(?m)^import .*$").matcher(code).results()
            .map(found -> found.group()).toList().toString(),
            "[import java.util.NoSuchElementException;]");
        Matcher thrown = Pattern.compile("throw [^;]*;").matcher(code);
        while (thrown.find()) {
            Check.same(thrown.group(), thrown.group().matches(
                "throw new [A-Z]\\w+Exception\\(\"[^\"]*\"\\);"), true);
        }
        for (int i = 0; i < code.length(); i++) {
            Check.same("sign " + i, code.charAt(i) < 127, true);
        }
        long classes = Pattern.compile("\\bclass \\w+").matcher(code).results().count();
        Check.same(classes + " classes are not too many", classes <= 12, true);
        methods(lines);
        Check.end("RulesTest");
    }

    private static void methods(List<String> lines) {
        Pattern head = Pattern.compile("( {4}| {8})(?! )(?!.*\\bclass\\b).*\\b(\\w+)\\((.*)");
        for (int i = 0; i < lines.size(); i++) {
            Matcher matcher = head.matcher(lines.get(i));
            if (!matcher.matches() || lines.get(i).endsWith(";")) {
                continue;
            }
            int end = i;
            while (end < lines.size() - 1 && !lines.get(end).equals(matcher.group(1) + "}")) {
                end++;
            }
            String name = matcher.group(2);
            Check.same(name + " has at most 60 lines", end - i <= 60, true);
            long commas = matcher.group(3).chars().filter(sign -> sign == ',').count();
            Check.same(name + " has at most 7 parameters", commas <= 6, true);
        }
    }
}
