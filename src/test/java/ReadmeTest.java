import java.nio.file.Files;
import java.nio.file.Path;
import java.util.ArrayList;
import java.util.List;
import java.util.Set;
import java.util.TreeSet;
import java.util.regex.Matcher;
import java.util.regex.Pattern;
import java.util.stream.Stream;
import javax.tools.ToolProvider;

/** What README.md says is so when it is tried: its Java is compiled and run, each call against the answer behind it. */
public final class ReadmeTest {
    private static int wrong = 0;
    private static int calls = 0;

    /** Called by the program that is made of the page. */
    public static void due(String call, long got, long want) {
        calls++;
        need(got == want, call + " answered " + got + ", the page says " + want);
    }

    private static void need(boolean fine, String what) {
        if (!fine) {
            wrong++;
            System.out.println("README: " + what);
        }
    }

    public static void main(String[] args) throws Exception {
        String page = Files.readString(Path.of("README.md"));
        List<String> blocks = blocks(page, "java");
        tryAll(program(blocks));
        feedsTellTheText(page, blocks);
        usesTheWholeFace(page);
        namesAllTests(page);
        need(Files.isExecutable(Path.of(".ci/run")) && blocks(page, "sh").contains(".ci/run\n"), "the command that runs all tests");
        System.out.println("ReadmeTest: " + (wrong == 0 ? calls + " answers as due" : wrong + " wrong"));
        if (wrong != 0) System.exit(1);
    }

    private static List<String> blocks(String page, String kind) {
        List<String> found = new ArrayList<>();
        Matcher m = Pattern.compile("(?s)```" + kind + "\\n(.*?)```").matcher(page);
        while (m.find()) found.add(m.group(1));
        return found;
    }

    private static String program(List<String> blocks) {
        StringBuilder methods = new StringBuilder();
        StringBuilder main = new StringBuilder();
        for (String block : blocks) {
            if (block.startsWith("static ")) methods.append(block);
            else for (String line : block.split("\n")) main.append(statement(line)).append('\n');
        }
        return "public final class ReadmeTried {\n" + methods + "public static void main(String[] args) {\n" + main + "}\n}\n";
    }

    /** A call becomes a question whether it answers what stands behind it; a call without an answer there is a mistake. */
    private static String statement(String line) {
        Matcher m = Pattern.compile("((?:x\\.|tell\\().*\\));\\s*// (-?\\d+): .*").matcher(line);
        if (m.matches()) {
            String name = m.group(1).replace("\\", "\\\\").replace("\"", "\\\"");
            return "ReadmeTest.due(\"" + name + "\", " + m.group(1) + ", " + m.group(2) + "L);";
        }
        need(line.equals("TaperTalk x = new TaperTalk();"), "a line without an answer: " + line);
        return line;
    }

    private static void tryAll(String program) throws Exception {
        Path dir = Files.createTempDirectory("readme");
        Path file = dir.resolve("ReadmeTried.java");
        Path made = dir.resolve("ReadmeTried.class");
        try {
            Files.writeString(file, program);
            String path = System.getProperty("java.class.path");
            int code = ToolProvider.getSystemJavaCompiler().run(null, null, null, "-cp", path, "-d", dir.toString(), file.toString());
            need(code == 0, "its Java does not compile");
            if (code != 0) return;
            try (var loader = new java.net.URLClassLoader(new java.net.URL[] {dir.toUri().toURL()})) {
                loader.loadClass("ReadmeTried").getMethod("main", String[].class).invoke(null, (Object) new String[0]);
            }
        } finally {
            Files.deleteIfExists(file);
            Files.deleteIfExists(made);
            Files.deleteIfExists(dir);
        }
    }

    private static void feedsTellTheText(String page, List<String> blocks) {
        StringBuilder fed = new StringBuilder();
        Matcher m = Pattern.compile("x\\.feed\\(([^)]*)\\);\\s*// \\d+: \"([^\"]*)\"").matcher(String.join("", blocks));
        while (m.find()) {
            StringBuilder twenty = new StringBuilder();
            for (String number : m.group(1).split(", ")) {
                for (int shift = 24; shift >= 0; shift -= 8) twenty.append((char) (Integer.decode(number) >> shift & 255));
            }
            need(twenty.toString().equals(m.group(2)), "a feed brings '" + twenty + "', the page says '" + m.group(2) + "'");
            fed.append(twenty);
        }
        need(fed.toString().trim().equals(blocks(page, "text").get(0).trim()), "the feeds bring another text: " + fed);
    }

    private static void usesTheWholeFace(String page) {
        for (var method : TaperTalk.class.getDeclaredMethods()) {
            boolean ofFace = java.lang.reflect.Modifier.isPublic(method.getModifiers());
            need(!ofFace || page.contains("x." + method.getName() + "("), "no call of " + method.getName());
        }
    }

    private static void namesAllTests(String page) throws Exception {
        Set<String> is = new TreeSet<>();
        try (Stream<Path> files = Files.list(Path.of("src/test/java"))) {
            files.map(f -> f.getFileName().toString()).filter(n -> n.endsWith("Test.java")).forEach(n -> is.add(n.replace(".java", "")));
        }
        Set<String> named = new TreeSet<>();
        Matcher m = Pattern.compile("`(\\w+Test)`").matcher(page);
        while (m.find()) named.add(m.group(1));
        need(named.equals(is), "tests named " + named + ", tests there " + is);
    }
}
