import java.io.IOException;
import java.lang.reflect.Method;
import java.lang.reflect.Modifier;
import java.net.URL;
import java.net.URLClassLoader;
import java.nio.file.Files;
import java.nio.file.Path;
import java.nio.file.Paths;
import java.util.ArrayList;
import java.util.List;
import java.util.regex.Matcher;
import java.util.regex.Pattern;
import javax.tools.ToolProvider;

/** What README.md says: its rows of Java answer so, and what it names is there. */
final class ReadmeTest {
    private static final Path README = Paths.get("README.md");
    private static final Path TESTS = Paths.get("src/test/java");
    private static final String CLASS = "ReadmeRows";
    // A row that makes a variable, or a call alone, each with its answer behind it.
    private static final Pattern ROW = Pattern.compile("(?:int (\\w+) = )?(loom\\.\\w+\\(.*\\)); +// (-?\\w+)(?:: .*)?");

    private static final Kit KIT = new Kit();

    private static String text;

    public static void main(String[] args) throws IOException {
        text = Files.readString(README);
        KIT.test("README.md, 'Use': its rows compile, and each call answers what stands behind it", () ->
                run(ReadmeTest::rows));
        KIT.test("README.md, 'Use': each call of the public face is shown", ReadmeTest::calls);
        KIT.test("README.md, 'Use': what it says of refused calls", ReadmeTest::refusals);
        KIT.test("README.md, 'Tests': each test is named, and each one named is there", () -> run(ReadmeTest::files));
        KIT.end();
    }

    private interface Step {
        void go() throws IOException, ReflectiveOperationException;
    }

    private static void run(Step step) {
        try {
            step.go();
        } catch (IOException | ReflectiveOperationException e) {
            KIT.fail("threw " + e);
        }
    }

    private static String[] shown() {
        int from = text.indexOf("```java\n") + "```java\n".length();
        return text.substring(from, text.indexOf("```", from)).split("\n");
    }

    private static void rows() throws IOException, ReflectiveOperationException {
        StringBuilder body = new StringBuilder();
        List<String> due = new ArrayList<>();
        List<String> calls = new ArrayList<>();
        for (String row : shown()) {
            Matcher parts = ROW.matcher(row);
            if (parts.matches()) {
                String made = parts.group(1);
                body.append(made == null ? "" : "int " + made + " = " + parts.group(2) + ";\n");
                body.append("got.add(\"\" + ").append(made == null ? parts.group(2) : made).append(");\n");
                calls.add(parts.group(2));
                due.add(parts.group(3));
            } else if (row.equals("TapLoom loom = new TapLoom();") || row.isEmpty()) {
                body.append(row).append("\n");
            } else {
                KIT.fail("a row without an answer: " + row);
            }
        }
        List<String> got = answers(body.toString());
        KIT.is("how many answers", got.size(), due.size());
        for (int i = 0; i < got.size() && i < due.size(); i++) {
            if (!got.get(i).equals(due.get(i))) {
                KIT.fail(calls.get(i) + " answered " + got.get(i) + ", README.md says " + due.get(i));
            }
        }
    }

    private static List<String> answers(String body) throws IOException, ReflectiveOperationException {
        Path folder = Files.createTempDirectory("readme");
        Path source = folder.resolve(CLASS + ".java");
        Path made = folder.resolve(CLASS + ".class");
        List<String> got = new ArrayList<>();
        try {
            Files.writeString(source, "public final class " + CLASS
                    + " { public static void rows(java.util.List<String> got) {\n" + body + "} }\n");
            int failed = ToolProvider.getSystemJavaCompiler().run(null, null, null, "-proc:none",
                    "-cp", System.getProperty("java.class.path"), "-d", folder.toString(), source.toString());
            KIT.is("the compiler", failed, 0);
            if (failed == 0) {
                try (URLClassLoader loader = new URLClassLoader(new URL[] {folder.toUri().toURL()})) {
                    loader.loadClass(CLASS).getMethod("rows", List.class).invoke(null, got);
                }
            }
        } finally {
            Files.deleteIfExists(made);
            Files.deleteIfExists(source);
            Files.deleteIfExists(folder);
        }
        return got;
    }

    private static void calls() {
        String rows = String.join("\n", shown());
        for (Method m : TapLoom.class.getDeclaredMethods()) {
            if (Modifier.isPublic(m.getModifiers())) {
                KIT.is(m.getName() + " is shown", rows.contains("loom." + m.getName() + "("), true);
            }
        }
    }

    private static void refusals() {
        KIT.refuses(Kit.INDEX, Looms::busy, loom -> loom.set(3, 0, 0));
        KIT.refuses(Kit.INDEX, Looms::busy, loom -> loom.tapOf(32));
        KIT.refuses(Kit.INDEX, Looms::busy, loom -> loom.answer(32));
        KIT.refuses(Kit.INDEX, Looms::busy, loom -> loom.output(-1));
        KIT.refuses(Kit.ARGUMENT, Looms::busy, loom -> loom.run(32768));
        KIT.refuses(Kit.STATE, Looms::busyFull, loom -> loom.section(0));
        KIT.refuses(Kit.STATE, () -> Looms.busyChain(5), loom -> loom.gain(TapLoom.LOW, true));
        KIT.refuses(Kit.STATE, () -> Looms.busyChain(5), loom -> loom.meets(TapLoom.LOW, 0, 1) ? 1 : 0);
    }

    /** The promises' tests are named by the first and the last one of their row. */
    private static void files() throws IOException {
        List<String> names = new ArrayList<>();
        try (var paths = Files.list(TESTS)) {
            paths.forEach(path -> names.add(path.getFileName().toString().replace(".java", "")));
        }
        for (int promise = 1; promise <= 20; promise++) {
            String start = String.format("Promise%02d", promise);
            KIT.is("tests of promise " + promise,
                    names.stream().filter(name -> name.startsWith(start) && name.endsWith("Test")).count(), 1);
        }
        for (String name : names) {
            boolean inRow = name.matches("Promise(0[2-9]|1\\d)\\w+Test");
            KIT.is(name + " is named", inRow || text.contains("`" + name + "`")
                    || text.contains(name + ".java"), true);
        }
        Matcher named = Pattern.compile("\\b(?:Promise\\d\\d\\w*Test|\\w+Test|Kit|Looms|Told|Model)\\b").matcher(text);
        while (named.find()) {
            KIT.is(named.group() + " is there", names.contains(named.group()), true);
        }
    }
}
