import java.lang.reflect.InvocationTargetException;
import java.lang.reflect.Method;
import java.lang.reflect.Modifier;
import java.util.ArrayList;
import java.util.Arrays;
import java.util.Comparator;
import java.util.List;
import java.util.Random;
import java.util.TreeMap;
import java.util.TreeSet;

/** Long runs of calls by chance (from fixed seeds), each answer against the Oracle's. */
public final class OracleTest {
    private static final int CALLS = 470;
    private final Random random;
    private final TaperTalk talk = new TaperTalk();
    private final Oracle oracle = new Oracle();
    private final List<String> log = new ArrayList<>();
    private final TreeMap<String, TreeSet<Long>> answers;
    private int calls = 0;
    private String wrong = null;

    private OracleTest(long seed, TreeMap<String, TreeSet<Long>> answers) {
        random = new Random(seed);
        this.answers = answers;
    }

    public static void main(String[] args) throws Exception {
        int runs = args.length > 0 ? Integer.parseInt(args[0]) : 150;
        TreeMap<String, TreeSet<Long>> answers = new TreeMap<>();
        int failed = 0;
        for (int seed = 0; seed < runs && failed < 5; seed++) {
            OracleTest test = new OracleTest(seed, answers);
            test.run();
            if (test.wrong != null) {
                failed++;
                System.out.println("seed " + seed + ": " + test.wrong);
                test.log.forEach(l -> System.out.println("    " + l));
            }
        }
        if (args.length > 1) answers.forEach((name, set) -> System.out.println(name + " " + set.size() + " " + set.stream().limit(40).toList()));
        for (Method m : FACE) {
            if (!answers.containsKey(m.getName()) || answers.get(m.getName()).size() < 2) {
                System.out.println("never told apart: " + m.getName());
                failed++;
            }
        }
        System.out.println(failed == 0 ? "OracleTest: all answers agree" : "OracleTest: failed");
        if (failed != 0) System.exit(1);
    }

    private static final List<Method> FACE = Arrays.stream(TaperTalk.class.getDeclaredMethods())
        .filter(m -> Modifier.isPublic(m.getModifiers())).sorted(Comparator.comparing(Method::getName)).toList();

    private void run() throws Exception {
        if (random.nextInt(10) > 0) tellNight();
        while (calls < CALLS && wrong == null) {
            int dice = random.nextInt(200);
            if (dice < 3) tellNight();
            else if (dice < 12) letterRow();
            else if (dice < 20) clueRow();
            else if (dice < 23) call("back", random.nextInt(3));
            else anyCall();
        }
    }

    private void anyCall() throws Exception {
        Method m = FACE.get(random.nextInt(FACE.size()));
        if (m.getName().equals("night") && random.nextInt(4) > 0) return;
        if (m.getName().equals("hushes") && random.nextInt(4) > 0) return;
        Object[] args = new Object[m.getParameterCount()];
        for (int i = 0; i < args.length; i++) {
            args[i] = m.getParameterTypes()[i] == long.class ? (Object) (long) number(m.getName()) : (Object) number(m.getName());
        }
        if ((m.getName().equals("drawn") || m.getName().equals("luck")) && random.nextInt(10) > 0) {
            int[] edges = {0, 1, 2000000000, 1999999990, 2000000001, Integer.MAX_VALUE, -1};
            args[0] = random.nextInt(4) == 0 ? edges[random.nextInt(edges.length)] : random.nextInt(2000000001);
        }
        call(m.getName(), args);
    }

    private int number(String name) {
        int dice = random.nextInt(60);
        if (dice == 0) return random.nextInt();
        if (dice == 1) return List.of(Integer.MIN_VALUE, Integer.MAX_VALUE, 255, 256, 257, 60, 61, 59).get(random.nextInt(8));
        if (dice < 5) return -1;
        if (dice < 15) return random.nextInt(14);
        if (name.equals("worth")) return random.nextInt(128);
        if (name.equals("row")) return dice < 40 ? random.nextInt(4) : random.nextInt(12);
        return random.nextInt(random.nextBoolean() ? 3 : 6);
    }

    private void call(String name, Object... args) throws Exception {
        calls++;
        Class<?>[] types = Arrays.stream(args).map(a -> a instanceof Long ? long.class : int.class).toArray(Class<?>[]::new);
        Method mine = TaperTalk.class.getMethod(name, types);
        long got;
        try {
            got = ((Number) mine.invoke(talk, args)).longValue();
        } catch (InvocationTargetException e) {
            wrong = name + Arrays.toString(args) + " threw " + e.getCause();
            return;
        }
        long due = name.equals("feed")
            ? oracle.feed(Arrays.stream(args).mapToInt(a -> (Integer) a).toArray())
            : ((Number) Oracle.class.getDeclaredMethod(name, types).invoke(oracle, args)).longValue();
        log.add(name + Arrays.toString(args) + " = " + got);
        answers.computeIfAbsent(name, n -> new TreeSet<>()).add(due);
        if (got != due) wrong = name + Arrays.toString(args) + " answered " + got + ", due is " + due;
    }

    private void letterRow() throws Exception {
        int slot = random.nextInt(4);
        int pews = oracle.pews();
        String said = "";
        if (pews > 0 && random.nextBoolean()) {
            StringBuilder start = new StringBuilder();
            for (int i = random.nextInt(4); i >= 0; i--) start.append(1 + random.nextInt(4));
            Oracle.At[][] course = oracle.course(oracle.new What().alone(java.util.Set.of(random.nextInt(pews)), start.toString()));
            said = course[oracle.night.hours][random.nextInt(pews)].says;
        }
        if (said.isEmpty()) for (int i = random.nextInt(7); i > 0; i--) said += 1 + random.nextInt(4);
        call("row", slot, random.nextInt(4), said.length());
        for (int i = 0; i < said.length(); i++) call("write", slot, i, (long) said.charAt(i) - '0' + (random.nextInt(300) == 0 ? 256 : 0));
        for (String name : List.of("first", "ways", "hears", "round")) {
            if (pews > 0) call(name, slot, random.nextInt(pews), random.nextInt(pews));
        }
        for (String name : List.of("letter", "heard")) {
            if (pews > 0) call(name, slot, random.nextInt(pews), random.nextInt(pews), random.nextInt(4));
        }
    }

    private void clueRow() throws Exception {
        int slot = random.nextInt(4);
        int pews = oracle.pews();
        int n = random.nextInt(3);
        call("row", slot, random.nextInt(4), 3 * n);
        if (pews == 0) return;
        Oracle.At[][] course = oracle.night.lights.isEmpty() || random.nextInt(3) == 0
            ? oracle.now() : oracle.toldTo(random.nextInt(pews));
        for (int i = 0; i < n; i++) {
            int pew = random.nextInt(pews);
            int hour = random.nextInt(oracle.night.hours + 1);
            int size = random.nextInt(12) == 0 ? random.nextInt(8) : course[hour][pew].says.length();
            call("write", slot, 3 * i, (long) pew);
            call("write", slot, 3 * i + 1, (long) hour);
            call("write", slot, 3 * i + 2, (long) size);
        }
        for (String name : List.of("whom", "ask", "leaves", "laws")) call(name, slot);
    }

    private void tellNight() throws Exception {
        StringBuilder text = new StringBuilder(nightText());
        if (random.nextInt(3) == 0) damage(text);
        String told = text.toString();
        if (random.nextInt(5) > 0) call("end", 0);
        while (told.length() % 20 != 0 && random.nextInt(20) == 0) told += ' ';
        int before = oracle.tape.size();
        Telling.feed((a, b, c, d, e) -> {
            try {
                call("feed", a, b, c, d, e);
            } catch (Exception x) {
                throw new IllegalStateException(x);
            }
            return 0;
        }, told, '@');
        if (random.nextInt(30) > 0) call("end", before + told.length());
        call("night");
        call("fault", 0);
        call("fault", 1);
        log.add("  told: " + told);
    }

    private void damage(StringBuilder text) {
        String signs = "; 0123456789abzpewlight-A\n\t\u0000\u00ff";
        for (int times = 1 + random.nextInt(2); times > 0 && text.length() > 0; times--) {
            int at = random.nextInt(text.length());
            switch (random.nextInt(6)) {
                case 0 -> text.deleteCharAt(at);
                case 1 -> text.setCharAt(at, signs.charAt(random.nextInt(signs.length())));
                case 2 -> text.insert(at, signs.charAt(random.nextInt(signs.length())));
                case 3 -> text.setLength(at);
                case 4 -> text.insert(at, List.of("pew rest;", "night hours 1 law 0 odds 0;", " 7 ", " at ", ";;", "0", "light 0 1 2 3 4 1 2 3;", "aisle 0 0;",
                    "light 0;", "light 0 1 2 3 4 1 2 5;", "pew change 1 1;", "draught 0 at 12;").get(random.nextInt(12)));
                default -> {
                    int digit = at;
                    while (digit < text.length() && !Character.isDigit(text.charAt(digit))) digit++;
                    if (digit < text.length()) text.setCharAt(digit, (char) ('0' + random.nextInt(10)));
                }
            }
        }
    }

    private String nightText() {
        StringBuilder t = new StringBuilder();
        int hours = random.nextInt(5) == 0 ? 1 + random.nextInt(12) : 1 + random.nextInt(6);
        t.append("night hours " + hours + " law " + random.nextInt(4) + " odds " + random.nextInt(11)).append(sign());
        int most = random.nextInt(12) == 0 ? 0 : 1 + random.nextInt(random.nextInt(40) == 0 ? 8 : 7);
        for (int p = 0; p < most; p++) t.append("pew " + rule()).append(sign());
        if (most == 0) return t.toString();
        List<String> lines = new ArrayList<>();
        List<String> pairs = new ArrayList<>();
        for (int p = 0; p < most; p++) for (int q = 0; q < most; q++) if (p < q) pairs.add(random.nextBoolean() ? p + " " + q : q + " " + p);
        java.util.Collections.shuffle(pairs, random);
        int aisles = Math.min(random.nextInt(random.nextInt(30) == 0 ? 15 : 13), pairs.size());
        for (int i = 0; i < aisles; i++) lines.add("aisle " + pairs.get(i));
        for (int i = random.nextInt(random.nextInt(30) == 0 ? 7 : 4); i > 0; i--) {
            StringBuilder light = new StringBuilder("light " + random.nextInt(most));
            for (int k = random.nextInt(random.nextInt(30) == 0 ? 8 : 6); k >= 0; k--) light.append(" " + (1 + random.nextInt(4)));
            lines.add(light.toString());
        }
        for (int i = random.nextInt(random.nextInt(30) == 0 ? 9 : 5); i > 0; i--) lines.add("draught " + random.nextInt(most) + " at " + random.nextInt(Math.min(12, hours + 2)));
        java.util.Collections.shuffle(lines, random);
        for (String line : lines) t.append(line).append(sign());
        return t.toString();
    }

    private String sign() {
        return List.of(";", "; ", " ;\n", ";  ").get(random.nextInt(4));
    }

    private String rule() {
        int k = 1 + random.nextInt(4);
        return switch (random.nextInt(6)) {
            case 0 -> "turn";
            case 1 -> "drop";
            case 2 -> "add " + k;
            case 3 -> "change " + k + " " + (1 + k % 4);
            case 4 -> random.nextBoolean() ? "add 0" + k : "rest";
            default -> "rest";
        };
    }
}
