import java.io.IOException;
import java.nio.file.Files;
import java.nio.file.Paths;
import java.util.List;
import java.util.regex.Matcher;
import java.util.regex.Pattern;

/** Those rules of LANGUAGE.md that a look at the text of the class can tell. */
final class LanguageTest {
    private static final int LONGEST_METHOD = 60;
    private static final int MOST_FIELDS = 20;
    private static final String[] REFUSED = {
        "->", "::", "\\btry\\b", "\\bcatch\\b", "\\bfinally\\b", "\\bassert\\b", "\\bsynchronized\\b",
        "\\bpackage\\b", "Exact\\b", "\\bSystem\\.(?!arraycopy\\b)", "\\bMath\\.(sqrt|pow|random|round|floor|ceil)\\b",
        "\\b(equals|hashCode|toString)\\s*\\(", "\\bvar\\b", "\\bThread\\b", "\\bObjects\\b", "\\bstatic\\s*\\{",
        "\"\\s*\\+", "\\+\\s*\""};

    public static void main(String[] args) throws IOException {
        Check check = new Check();
        List<String> lines = Files.readAllLines(Paths.get("src/main/java/TapLoom.java"));
        imports(check, lines);
        refused(check, lines);
        methods(check, lines);
        signs(check, lines);
        fields(check);
        check.end();
    }

    private static void imports(Check check, List<String> lines) {
        for (String line : lines) {
            if (line.startsWith("import ")) {
                check.due(line, line.matches("import java\\.util\\.(ArrayList|Arrays|List);"), true);
            }
        }
    }

    private static void refused(Check check, List<String> lines) {
        for (String words : REFUSED) {
            Pattern pattern = Pattern.compile(words);
            for (int i = 0; i < lines.size(); i++) {
                String code = lines.get(i).replaceAll("//.*|^\\s*/?\\*.*", "");
                check.due("line " + (i + 1) + " holds " + words, pattern.matcher(code).find(), false);
            }
        }
    }

    private static void methods(Check check, List<String> lines) {
        Pattern head = Pattern.compile("^( +)[^=;/*]*\\(([^()]*)\\)[^=;]*\\{$");
        for (int i = 0; i < lines.size(); i++) {
            Matcher m = head.matcher(lines.get(i));
            if (!m.find() || lines.get(i).matches("\\s*(\\} else )?(if|for|while|switch).*")) {
                continue;
            }
            int end = i;
            while (end < lines.size() && !lines.get(end).equals(m.group(1) + "}")) {
                end++;
            }
            check.due("line " + (i + 1) + " begins a short method", end - i <= LONGEST_METHOD, true);
            check.due("line " + (i + 1) + " has at most seven parameters",
                    m.group(2).split(",").length <= 7, true);
        }
    }

    private static void signs(Check check, List<String> lines) {
        for (int i = 0; i < lines.size(); i++) {
            check.due("line " + (i + 1) + " has plain signs", lines.get(i).matches("[ -~]*"), true);
        }
    }

    private static void fields(Check check) {
        check.due("some twenty fields", fieldsOf(TapLoom.class) <= MOST_FIELDS, true);
        for (Class<?> inside : TapLoom.class.getDeclaredClasses()) {
            check.due("some twenty fields in " + inside, fieldsOf(inside) <= MOST_FIELDS, true);
        }
    }

    private static int fieldsOf(Class<?> type) {
        int count = 0;
        for (java.lang.reflect.Field f : type.getDeclaredFields()) {
            count += java.lang.reflect.Modifier.isStatic(f.getModifiers()) ? 0 : 1;
        }
        return count;
    }
}
