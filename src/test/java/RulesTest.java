import java.io.IOException;
import java.lang.reflect.Field;
import java.lang.reflect.Modifier;
import java.nio.file.Files;
import java.nio.file.Path;
import java.util.List;
import java.util.regex.Matcher;
import java.util.regex.Pattern;

/** Those rules of ../shared/LANGUAGE.md that can be seen from the words of the program. */
public final class RulesTest {
    /** What no rule allows; of the exceptions those that the machine throws by itself, too. */
    private static final String[] NEVER = {
        "->", "::", "\\bfinally\\b", "\\btry \\(", "\\bsynchronized\\b", "\\bassert\\b",
        "\\bvar\\b", "\\bprotected\\b", "^package\\b", "static\\s*\\{",
        "catch \\((?!(IllegalState|IllegalArgument|UnsupportedOperation|NoSuchElement)Exception )",
        "\\.(hashCode|getClass|getMessage|stream|format|wait|notify)\\(",
        "System\\.(?!arraycopy\\()", "Math\\.(?!(max|min|abs|floorDiv|floorMod)\\()",
        "\\bArrays\\.(?!(copyOf|copyOfRange|fill)\\()",
        "\\bstatic(?! final| boolean| int| long| void| abstract)", "\\+ \"", "\" \\+",
        "\\w\\.\\.\\."};
    private static final String IMPORT =
        "import java\\.util\\.(NoSuchElementException|ArrayList|List|Arrays|Iterator);";

    private RulesTest() {
    }

    public static void main(String[] args) throws IOException {
        List<String> lines = Files.readAllLines(Path.of("src/main/java/MountSpaces.java"));
        String code = String.join("\n", lines).replaceAll("(?s)/\\*.*?\\*/", "")
            .replaceAll("//[^\n]*", "");
        for (String never : NEVER) {
            Matcher matcher = Pattern.compile(never, Pattern.MULTILINE).matcher(code);
            Check.same("found " + never, matcher.find() ? matcher.group() : "", "");
        }
        Matcher imports = Pattern.compile("(?m)^import .*$").matcher(code);
        while (imports.find()) {
            Check.same(imports.group(), imports.group().matches(IMPORT), true);
        }
        Matcher thrown = Pattern.compile("throw [^;]*;").matcher(code);
        while (thrown.find()) {
            Check.same(thrown.group(), thrown.group().matches(
                "throw new [A-Z]\\w+Exception\\((\"[^\"]*\")?\\);"), true);
        }
        Check.same("signs over 127", code.chars().filter(sign -> sign > 127).count(), 0);
        long classes = Pattern.compile("\\bclass \\w+").matcher(code).results().count();
        Check.same(classes + " classes are not too many", classes <= 12, true);
        methods(lines);
        fields(MountSpaces.class);
        for (Class<?> inside : MountSpaces.class.getDeclaredClasses()) {
            fields(inside);
        }
        Check.end("RulesTest");
    }

    private static void fields(Class<?> type) {
        int fields = 0;
        for (Field field : type.getDeclaredFields()) {
            fields += Modifier.isStatic(field.getModifiers()) ? 0 : 1;
        }
        Check.same(type + " has at most 20 fields", fields <= 20, true);
    }

    private static void methods(List<String> lines) {
        Pattern head = Pattern.compile("( {4}| {8})(?! )(?!.*\\bclass\\b).*\\b(\\w+)\\((.*)");
        for (int i = 0; i < lines.size(); i++) {
            Matcher matcher = head.matcher(lines.get(i));
            if (!matcher.matches() || lines.get(i).endsWith(";")) {
                continue;
            }
            int end = i;
            while (end < lines.size() - 1 && !lines.get(end).equals(matcher.group(1) + "}")) {
                end++;
            }
            String name = matcher.group(2);
            Check.same(name + " has at most 60 lines", end - i <= 60, true);
            long commas = matcher.group(3).chars().filter(sign -> sign == ',').count();
            Check.same(name + " has at most 7 parameters", commas <= 6, true);
        }
    }
}
