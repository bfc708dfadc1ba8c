import java.lang.management.ManagementFactory;
import java.lang.reflect.Constructor;
import java.lang.reflect.Field;
import java.lang.reflect.Method;
import java.lang.reflect.Modifier;
import java.nio.file.Files;
import java.nio.file.Path;
import java.util.Arrays;
import java.util.List;
import java.util.Set;
import java.util.TreeSet;
import java.util.regex.Matcher;
import java.util.regex.Pattern;
import java.util.stream.Collectors;

/** What of LANGUAGE.md can be seen from the source text, the class and its use of memory. */
public final class LanguageTest {
    private static int wrong = 0;

    private static void need(boolean fine, String what) {
        if (!fine) {
            wrong++;
            System.out.println("LANGUAGE: " + what);
        }
    }

    public static void main(String[] args) throws Exception {
        String source = Files.readString(Path.of("src/main/java/TaperTalk.java"));
        String code = source.replaceAll("(?s)/\\*.*?\\*/", "").replaceAll("//[^\\n]*", "").replaceAll("\"[^\"]*\"", "\"\"");
        words(code);
        face(Files.readString(Path.of("../shared/DOC.md")));
        members();
        methodLengths(code);
        memory();
        System.out.println(wrong == 0 ? "LanguageTest: fine" : "LanguageTest: " + wrong + " wrong");
        if (wrong != 0) System.exit(1);
    }

    private static void words(String code) {
        for (String word : List.of("throw", "throws", "try", "catch", "finally", "synchronized", "assert", "import", "package",
                "protected", "var", "record", "volatile", "native", "Object", "Exception", "Error", "Thread")) {
            need(!Pattern.compile("\\b" + word + "\\b").matcher(code).find(), "rule 6 or 3: " + word);
        }
        for (String sign : List.of("->", "::", "static {", "Exact", "@")) need(!code.contains(sign), "rule 2, 4 or 5: " + sign);
        Matcher library = Pattern.compile("\\b(System|Integer|Long|Math|Arrays|String)\\.(\\w+)").matcher(code);
        Set<String> used = new TreeSet<>();
        while (library.find()) used.add(library.group());
        used.removeAll(Set.of("System.arraycopy", "Integer.bitCount", "Math.min", "Math.max", "Math.abs"));
        need(used.isEmpty(), "rule 4: " + used);
    }

    /** The public face is the document's, and nothing else. */
    private static void face(String doc) {
        String block = doc.substring(doc.indexOf("```java"), doc.indexOf("## Terms"));
        Set<String> due = new TreeSet<>();
        Matcher m = Pattern.compile("public (int|long) (\\w+)\\(([^)]*)\\);").matcher(block);
        while (m.find()) {
            String types = m.group(3).isEmpty() ? "" : Arrays.stream(m.group(3).split(", ")).map(p -> p.split(" ")[0]).collect(Collectors.joining(","));
            due.add(m.group(1) + " " + m.group(2) + "(" + types + ")");
        }
        Set<String> is = new TreeSet<>();
        for (Method method : TaperTalk.class.getDeclaredMethods()) {
            if (!Modifier.isPrivate(method.getModifiers())) {
                is.add(method.getReturnType() + " " + method.getName() + "("
                    + Arrays.stream(method.getParameterTypes()).map(Class::getName).collect(Collectors.joining(",")) + ")");
                need(Modifier.isPublic(method.getModifiers()) && !Modifier.isStatic(method.getModifiers()), "rule 1: " + method);
            }
        }
        need(due.size() == 69, "the face of the document is read: " + due.size());
        need(due.equals(is), "rule 1, the face: " + due + " is " + is);
    }

    private static void members() {
        Set<String> publicNames = new TreeSet<>();
        for (Method m : TaperTalk.class.getDeclaredMethods()) if (Modifier.isPublic(m.getModifiers())) publicNames.add(m.getName());
        for (Field f : TaperTalk.class.getDeclaredFields()) {
            need(Modifier.isPrivate(f.getModifiers()) || f.getName().equals("NONE"), "rule 1: " + f);
        }
        Constructor<?>[] made = TaperTalk.class.getDeclaredConstructors();
        need(made.length == 1 && made[0].getParameterCount() == 0 && Modifier.isPublic(made[0].getModifiers()), "rule 1: the constructor");
        need(Modifier.isFinal(TaperTalk.class.getModifiers()), "rule 1: final");
        Class<?>[] inside = TaperTalk.class.getDeclaredClasses();
        need(inside.length <= 12, "rule 11: classes");
        for (Class<?> c : inside) {
            need(Modifier.isStatic(c.getModifiers()), "rule 2: " + c);
            checkClass(c, publicNames);
        }
        checkClass(TaperTalk.class, publicNames);
    }

    private static void checkClass(Class<?> c, Set<String> publicNames) {
        int fields = 0;
        for (Field f : c.getDeclaredFields()) {
            if (Modifier.isStatic(f.getModifiers())) need(Modifier.isFinal(f.getModifiers()), "rule 5: " + f);
            else fields++;
        }
        need(fields <= 20, "rule 11: fields of " + c);
        for (Method m : c.getDeclaredMethods()) {
            boolean ofFace = c == TaperTalk.class && Modifier.isPublic(m.getModifiers());
            need(ofFace || !publicNames.contains(m.getName()), "rule 1: " + m + " bears a public name");
            need(m.getParameterCount() <= 7, "rule 11: " + m);
        }
    }

    private static void methodLengths(String code) {
        int start = -1;
        String[] lines = code.split("\n");
        for (int i = 0; i < lines.length; i++) {
            if (lines[i].matches("( {4}| {8})[^ ].*\\) \\{")) start = i;
            if (lines[i].matches("( {4}| {8})\\}") && start >= 0) {
                need(i - start <= 60, "rule 11: " + lines[start]);
                start = -1;
            }
        }
    }

    /** All calls of a run live in one room: only a constructor makes objects. */
    private static void memory() {
        TaperTalk x = Telling.told("night hours 12 law 2 odds 5; pew rest; pew turn; pew drop; pew add 4; pew change 1 2; pew rest; pew rest;"
            + " aisle 0 1; aisle 1 2; aisle 2 3; aisle 1 4; aisle 4 5; aisle 5 6; light 0 1 2 3; draught 1 at 3;");
        Telling.row(x, 0, 1, 2, 3);
        Telling.row(x, 1, 0, 0, 3);
        var bean = (com.sun.management.ThreadMXBean) ManagementFactory.getThreadMXBean();
        allCalls(x);
        long before = bean.getCurrentThreadAllocatedBytes();
        for (int i = 0; i < 20; i++) allCalls(x);
        long after = bean.getCurrentThreadAllocatedBytes();
        need(after - before < 2000, "rule 12: calls made " + (after - before) + " bytes");
        long start = bean.getCurrentThreadAllocatedBytes();
        TaperTalk y = new TaperTalk();
        long size = bean.getCurrentThreadAllocatedBytes() - start;
        need(size < 30000 && y.count(3) == 0, "rule 12: a new object has " + size + " bytes");
    }

    private static long allCalls(TaperTalk x) {
        long s = x.feed(1, 2, 3, 4, 5) + x.end(0) + x.fault(0) + x.pew(0, 0) + x.near(0) + x.far(0, 6) + x.told(0, 0);
        s += x.lit(3) + x.letters(0, 0) + x.says(0, 0, 0) + x.from(1, 1) + x.since(1, 1) + x.when(1) + x.often(1) + x.full() + x.dark();
        s += x.still() + x.sorts(3) + x.alike(0, 0) + x.depth(3, 5) + x.longest(3) + x.shortest(3) + x.words(3) + x.turned(3) + x.spoken(1, 3);
        s += x.taught(1) + x.deepest() + x.fresh(2) + x.gone(3) + x.hears(0, 1, 2) + x.heard(0, 1, 2, 0) + x.round(0, 1, 2);
        s += x.first(0, 0, 4) + x.letter(0, 0, 4, 0) + x.ways(0, 0, 4) + x.best() + x.worth(5) + x.share(2, 0) + x.fewest() + x.sets();
        s += x.gust(3) + x.guard() + x.whom(1) + x.ask(1) + x.leaves(1) + x.laws(1) + x.by(2) + x.law() + x.rector() + x.opens() + x.replies(2);
        s += x.rests(0, 1) + x.gets(0, 1, 1, 0) + x.chance(1, 7, 0) + x.mean(7, 1) + x.light(0, 1, 2) + x.draught(0, 3) + x.image(0) + x.undo() + x.anew();
        s += x.drawn(7, 1) + x.luck(7, 20, 3) + x.back(0) + x.anew() + x.hushes(6) + x.count(9) + x.row(2, 0, 3) + x.write(2, 0, 7) + x.paste(0, 0, 2, 0, 3);
        s += x.image(1) + x.night() + x.back(1);
        return s;
    }
}
