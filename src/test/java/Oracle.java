import java.util.ArrayList;
import java.util.Arrays;
import java.util.Comparator;
import java.util.HashSet;
import java.util.List;
import java.util.Set;
import java.util.TreeMap;
import java.util.function.IntPredicate;
import java.util.function.ToIntFunction;
import java.math.BigInteger;
import java.util.stream.IntStream;

/**
 * The document once more, written straight from its words with texts, lists and
 * brute force, so that a slip in TaperTalk does not stand here as well.
 */
final class Oracle {
    static final class Fault extends RuntimeException {
        final int kind;
        final int place;
        Fault(int kind, int place) { this.kind = kind; this.place = place; }
    }

    record Token(String text, int place) {
        boolean isNumber() { return text.matches("[0-9]+"); }
    }

    record Rule(String name, int first, int second) { }
    record Light(int pew, String says) { }
    record Draught(int pew, int hour) { }
    record Act(int pew, int letter, int hour) { }

    static final class Night implements Cloneable {
        int hours, law, odds, lines;
        List<Rule> pews = new ArrayList<>();
        List<Set<Integer>> aisles = new ArrayList<>();
        List<Light> lights = new ArrayList<>();
        List<Draught> draughts = new ArrayList<>();
        List<Act> acts = new ArrayList<>();

        Night copy() {
            Night n = new Night();
            n.hours = hours; n.law = law; n.odds = odds; n.lines = lines;
            n.pews.addAll(pews); n.aisles.addAll(aisles); n.lights.addAll(lights);
            n.draughts.addAll(draughts); n.acts.addAll(acts);
            return n;
        }
    }

    /** One PEW in one HOUR; says is empty when it is out. */
    static final class At {
        String says = "";
        int since = -1, from = -1, depth = -1;
        At copy() { At a = new At(); a.says = says; a.since = since; a.from = from; a.depth = depth; return a; }
        boolean lit() { return !says.isEmpty(); }
    }

    List<Integer> tape = new ArrayList<>();
    Night night = new Night();
    Night[] images = new Night[3];
    long[][] slots = new long[4][];
    int[] widths = new int[4];
    int fault = 0, faultPlace = -1;

    // ---- reading

    static List<Token> tokens(List<Integer> tape) {
        List<Token> list = new ArrayList<>();
        StringBuilder text = new StringBuilder();
        for (int b : tape) text.append((char) b);
        java.util.regex.Matcher m = java.util.regex.Pattern.compile("[a-z]+|[0-9]+|[^ \\n]", java.util.regex.Pattern.DOTALL).matcher(text);
        while (m.find()) list.add(new Token(m.group(), m.start()));
        list.add(new Token("", tape.size()));
        return list;
    }

    private List<Token> list;
    private int at;

    private Token peek() { return list.get(at); }

    private void word(String w) {
        if (!peek().text.equals(w)) throw new Fault(1, peek().place);
        at++;
    }

    private int number(IntPredicate fine) {
        Token t = peek();
        if (!t.isNumber()) throw new Fault(1, t.place);
        BigInteger v = new BigInteger(t.text);
        int n = v.bitLength() > 20 ? 1 << 20 : v.intValue();
        if (!fine.test(n)) throw new Fault(2, t.place);
        at++;
        return n;
    }

    private static IntPredicate within(int a, int b) { return n -> n >= a && n <= b; }

    private Night parse() {
        Night n = new Night();
        list = tokens(tape);
        at = 0;
        while (!peek().text.isEmpty()) {
            line(n);
            word(";");
            n.lines++;
        }
        return n;
    }

    private void atMost(int have, int most) { if (have >= most) throw new Fault(3, peek().place); }

    private void line(Night n) {
        if (n.lines == 0) {
            word("night"); word("hours"); n.hours = number(within(1, 12));
            word("law"); n.law = number(within(0, 3));
            word("odds"); n.odds = number(within(0, 10));
            return;
        }
        switch (peek().text) {
            case "pew" -> {
                atMost(n.pews.size(), 7); at++;
                String r = peek().text;
                if (!List.of("rest", "turn", "drop", "add", "change").contains(r)) throw new Fault(1, peek().place);
                at++;
                int k = r.equals("add") || r.equals("change") ? number(within(1, 4)) : 0;
                int l = r.equals("change") ? number(v -> v >= 1 && v <= 4 && v != k) : 0;
                n.pews.add(new Rule(r, k, l));
            }
            case "aisle" -> {
                atMost(n.aisles.size(), 12); at++;
                int p = number(within(0, n.pews.size() - 1));
                int q = number(v -> v < n.pews.size() && v != p && !n.aisles.contains(Set.of(p, v)));
                n.aisles.add(Set.of(p, q));
            }
            case "light" -> {
                atMost(n.lights.size(), 4); at++;
                int p = number(within(0, n.pews.size() - 1));
                String says = "" + number(within(1, 4));
                while (peek().isNumber()) {
                    Token t = peek();
                    int k = number(within(1, 4));
                    if (says.length() == 6) throw new Fault(3, t.place);
                    says += k;
                }
                n.lights.add(new Light(p, says));
            }
            case "draught" -> {
                atMost(n.draughts.size(), 6); at++;
                int p = number(within(0, n.pews.size() - 1));
                word("at");
                n.draughts.add(new Draught(p, number(within(0, 11))));
            }
            default -> throw new Fault(1, peek().place);
        }
    }

    int feed(int... five) {
        if (tape.size() + 20 > 600) return -1;
        for (int v : five) for (int s = 24; s >= 0; s -= 8) tape.add(v >>> s & 255);
        return tape.size();
    }

    int end(int n) {
        if (n < 0 || n > tape.size()) return -1;
        tape = new ArrayList<>(tape.subList(0, n));
        return n;
    }

    int night() {
        try {
            Night n = parse();
            fault = 0; faultPlace = -1;
            night = n;
            return n.lines;
        } catch (Fault f) {
            fault = f.kind; faultPlace = f.place;
            return -4;
        } finally {
            tape.clear();
        }
    }

    int fault(int what) { return what == 0 ? fault : what == 1 ? faultPlace : -1; }

    // ---- the course

    static String change(Rule r, String s) {
        if (s.isEmpty()) return s;
        return switch (r.name) {
            case "turn" -> new StringBuilder(s).reverse().toString();
            case "drop" -> s.substring(0, s.length() - 1);
            case "add" -> s.length() == 6 ? s : s + r.first;
            case "change" -> s.replace((char) ('0' + r.first), (char) ('0' + r.second));
            default -> s;
        };
    }

    /** What may be otherwise than now; aloneSays null: nothing is told alone. */
    final class What {
        int law = night.law;
        Set<Integer> aloneSet = Set.of();
        String aloneSays = null;
        List<Draught> draughts = new ArrayList<>(night.draughts);
        Set<Integer> shut = Set.of();
        int silence = 0;
        Integer rector = null;

        What alone(Set<Integer> set, String says) { aloneSet = set; aloneSays = says; return this; }
    }

    boolean near(int p, int q) { return night.aisles.contains(p == q ? Set.of() : Set.of(p, q)); }

    At[][] course(What w) {
        int n = night.pews.size();
        At[][] all = new At[night.hours + 1][n];
        for (int h = 0; h <= night.hours; h++) {
            for (int p = 0; p < n; p++) all[h][p] = h == 0 ? new At() : heardState(all[h - 1], p, h, w);
            if (h == 0) {
                if (w.aloneSays != null) for (int p : w.aloneSet) lit(all[0][p], 0, w.aloneSays);
                else for (Light l : night.lights) lit(all[0][l.pew], 0, l.says);
            }
            if (w.aloneSays == null) {
                for (Act a : night.acts) if (a.letter > 0 && a.hour == h) lit(all[h][a.pew], h, "" + a.letter);
                if (h == 0 && w.rector != null) lit(all[0][w.rector], 0, "1");
            }
            for (Draught d : w.draughts) if (d.hour == h) all[h][d.pew] = new At();
            for (Act a : night.acts) if (a.letter == 0 && a.hour == h) all[h][a.pew] = new At();
        }
        return all;
    }

    private static void lit(At a, int hour, String says) {
        if (!a.lit()) a.since = hour;
        a.says = says; a.from = -1; a.depth = 0;
    }

    private At heardState(At[] before, int p, int hour, What w) {
        if (before[p].lit()) return before[p].copy();
        if ((w.silence >> (hour - 1) & 1) == 1 || w.shut.contains(p)) return new At();
        List<Integer> heardable = IntStream.range(0, before.length)
            .filter(q -> near(p, q) && before[q].lit() && !w.shut.contains(q)).boxed().toList();
        if (heardable.isEmpty()) return new At();
        int q = switch (w.law) {
            case 0 -> heardable.get(0);
            case 1 -> heardable.get(heardable.size() - 1);
            case 2 -> heardable.stream().min(Comparator.comparing((Integer x) -> -before[x].says.length()).thenComparing(x -> x)).get();
            default -> heardable.stream().min(Comparator.comparing((Integer x) -> -before[x].since).thenComparing(x -> x)).get();
        };
        At a = new At();
        a.says = change(night.pews.get(p), before[q].says);
        if (a.lit()) { a.since = hour; a.from = q; a.depth = before[q].depth + 1; }
        return a;
    }

    At[][] now() { return course(new What()); }

    boolean noNight() { return night.lines == 0; }
    boolean noPew(int p) { return p < 0 || p >= night.pews.size(); }
    boolean noHour(int h) { return noNight() || h < 0 || h > night.hours; }

    static int bits(int n, IntPredicate p) { return IntStream.range(0, n).filter(p).map(i -> 1 << i).sum(); }
    int pews() { return night.pews.size(); }
    int litBits(At[] row) { return bits(pews(), p -> row[p].lit()); }
    int lastLit(What w) { return Integer.bitCount(litBits(course(w)[night.hours])); }

    int pew(int p, int what) {
        if (noPew(p) || what < 0 || what > 2) return -2;
        Rule r = night.pews.get(p);
        return what == 0 ? List.of("rest", "turn", "drop", "add", "change").indexOf(r.name) : what == 1 ? r.first : r.second;
    }

    int near(int p) { return noPew(p) ? -2 : bits(pews(), q -> near(p, q)); }

    int far(int p, int q) {
        if (noPew(p) || noPew(q)) return -2;
        int n = pews();
        int[][] d = new int[n][n];
        for (int i = 0; i < n; i++) for (int j = 0; j < n; j++) d[i][j] = i == j ? 0 : near(i, j) ? 1 : 100;
        for (int k = 0; k < n; k++) for (int i = 0; i < n; i++) for (int j = 0; j < n; j++) d[i][j] = Math.min(d[i][j], d[i][k] + d[k][j]);
        return d[p][q] >= 100 ? -1 : d[p][q];
    }

    static int letterAt(String s, int i) { return i < 0 || i >= s.length() ? -1 : s.charAt(i) - '0'; }

    int told(int l, int i) { return l < 0 || l >= night.lights.size() ? -2 : letterAt(night.lights.get(l).says, i); }
    int lit(int h) { return noHour(h) ? -2 : litBits(now()[h]); }
    int letters(int p, int h) { return noPew(p) || noHour(h) ? -2 : now()[h][p].says.length(); }
    int says(int p, int h, int i) { return noPew(p) || noHour(h) || i < 0 ? -2 : letterAt(now()[h][p].says, i); }
    int from(int p, int h) { return noPew(p) || noHour(h) ? -2 : now()[h][p].from; }
    int since(int p, int h) { return noPew(p) || noHour(h) ? -2 : now()[h][p].since; }
    int depth(int p, int h) { return noPew(p) || noHour(h) ? -2 : now()[h][p].depth; }

    int when(int p) {
        if (noPew(p)) return -2;
        At[][] c = now();
        return IntStream.rangeClosed(0, night.hours).filter(h -> c[h][p].lit()).findFirst().orElse(-1);
    }

    int often(int p) {
        if (noPew(p)) return -2;
        At[][] c = now();
        return (int) IntStream.rangeClosed(0, night.hours).filter(h -> c[h][p].lit()).count();
    }

    int full() {
        if (noNight()) return -2;
        At[][] c = now();
        return IntStream.rangeClosed(0, night.hours)
            .filter(h -> pews() > 0 && Arrays.stream(c[h]).allMatch(At::lit)).findFirst().orElse(-1);
    }

    int dark() {
        if (noNight()) return -2;
        At[][] c = now();
        return bits(pews(), p -> Arrays.stream(c).noneMatch(row -> row[p].lit()));
    }

    private static List<String> said(At[] row) { return Arrays.stream(row).map(a -> a.says).toList(); }

    int still() {
        if (noNight()) return -2;
        At[][] c = now();
        for (int h = 0; ; h++) {
            int from = h;
            if (IntStream.rangeClosed(from, night.hours).allMatch(g -> said(c[g]).equals(said(c[night.hours])))) return h;
        }
    }

    int sorts(int h) {
        if (noHour(h)) return -2;
        Set<String> s = new HashSet<>(said(now()[h]));
        s.remove("");
        return s.size();
    }

    int alike(int p, int h) {
        if (noPew(p) || noHour(h)) return -2;
        At[] row = now()[h];
        return bits(pews(), q -> row[p].lit() && row[q].says.equals(row[p].says));
    }

    int longest(int h) { return byLength(h, a -> -a.says.length()); }
    int shortest(int h) { return byLength(h, a -> a.says.length()); }

    private int byLength(int h, ToIntFunction<At> key) {
        if (noHour(h)) return -2;
        At[] row = now()[h];
        return IntStream.range(0, pews()).filter(p -> row[p].lit()).boxed()
            .min(Comparator.comparing((Integer p) -> key.applyAsInt(row[p])).thenComparing(p -> p)).orElse(-1);
    }

    int words(At[] row) { return String.join("", said(row)).length(); }
    int words(int h) { return noHour(h) ? -2 : words(now()[h]); }

    int turned(int h) {
        if (noHour(h)) return -2;
        At[][] c = now();
        return bits(pews(), p -> !c[h][p].says.equals(h == 0 ? "" : c[h - 1][p].says));
    }

    int spoken(int k, int h) {
        if (noHour(h) || k < 1 || k > 4) return -2;
        return (int) String.join("", said(now()[h])).chars().filter(x -> x == '0' + k).count();
    }

    int taught(int p) {
        if (noPew(p)) return -2;
        At[][] c = now();
        return bits(pews(), q -> Arrays.stream(c).anyMatch(row -> row[q].from == p));
    }

    int deepest() {
        if (noNight()) return -2;
        return Arrays.stream(now()).flatMap(Arrays::stream).mapToInt(a -> a.depth).max().orElse(-1);
    }

    int fresh(int h) {
        if (noHour(h)) return -2;
        At[] row = now()[h];
        return bits(pews(), p -> row[p].lit() && row[p].since == h);
    }

    int gone(int h) {
        if (noHour(h)) return -2;
        At[][] c = now();
        return bits(pews(), p -> h > 0 && c[h - 1][p].lit() && !c[h][p].lit());
    }

    // ---- rows heard

    boolean noSlot(int s) { return s < 0 || s > 3; }

    String sayingOf(int slot) {
        StringBuilder s = new StringBuilder();
        for (long v : slots[slot]) {
            if (v < 1 || v > 4) return "";
            s.append(v);
        }
        return s.length() > 6 ? "" : s.toString();
    }

    int rowRefusal(int slot, int p, int q) {
        if (noSlot(slot) || noPew(p) || noPew(q)) return -2;
        if (slots[slot] == null) return -6;
        return sayingOf(slot).isEmpty() ? -2 : 0;
    }

    String twice(String s, int p, int q) { return change(night.pews.get(q), change(night.pews.get(p), s)); }

    int hears(int slot, int p, int q) {
        int r = rowRefusal(slot, p, q);
        return r != 0 ? r : twice(sayingOf(slot), p, q).length();
    }

    int heard(int slot, int p, int q, int i) {
        if (i < 0) return -2;
        int r = rowRefusal(slot, p, q);
        return r != 0 ? r : letterAt(twice(sayingOf(slot), p, q), i);
    }

    int round(int slot, int p, int q) {
        int r = rowRefusal(slot, p, q);
        if (r != 0) return r;
        String s = sayingOf(slot);
        for (int t = 1; t <= 50 && !s.isEmpty(); t++) {
            s = twice(s, p, q);
            if (s.equals(sayingOf(slot))) return t;
        }
        return -1;
    }

    /** All SAYINGS of the shortest length that come, the least first. */
    List<String> firsts(String target, int p, int q) {
        for (int n = 1; n <= 4; n++) {
            List<String> found = new ArrayList<>();
            for (String s : all(n)) if (course(new What().alone(Set.of(p), s))[night.hours][q].says.equals(target)) found.add(s);
            if (!found.isEmpty()) return found;
        }
        return List.of();
    }

    static List<String> all(int n) {
        if (n == 0) return List.of("");
        List<String> list = new ArrayList<>();
        for (String s : all(n - 1)) for (int k = 1; k <= 4; k++) list.add(s + k);
        return list;
    }

    int first(int slot, int p, int q) {
        int r = rowRefusal(slot, p, q);
        if (r != 0) return r;
        List<String> f = firsts(sayingOf(slot), p, q);
        return f.isEmpty() ? -1 : f.get(0).length();
    }

    int letter(int slot, int p, int q, int i) {
        if (i < 0) return -2;
        int r = rowRefusal(slot, p, q);
        if (r != 0) return r;
        List<String> f = firsts(sayingOf(slot), p, q);
        return f.isEmpty() ? -1 : letterAt(f.get(0), i);
    }

    int ways(int slot, int p, int q) {
        int r = rowRefusal(slot, p, q);
        return r != 0 ? r : firsts(sayingOf(slot), p, q).size();
    }

    // ---- sets

    static Set<Integer> setOf(int bits) {
        Set<Integer> s = new HashSet<>();
        for (int i = 0; i < 7; i++) if ((bits >> i & 1) == 1) s.add(i);
        return s;
    }

    int worthOf(int set) { return lastLit(new What().alone(setOf(set), "1")); }

    int best() {
        if (noNight()) return -2;
        return IntStream.range(0, pews()).boxed()
            .min(Comparator.comparing((Integer p) -> -worthOf(1 << p)).thenComparing(p -> p)).orElse(-1);
    }

    int worth(int set) { return noNight() || set < 0 || set >= 1 << pews() ? -2 : worthOf(set); }

    int share(int p, int what) {
        if (noPew(p) || what < 0 || what > 1) return -2;
        int[] w = IntStream.range(0, 1 << pews()).map(this::worthOf).toArray();
        long[] sum = {0, 0};
        orders(0, 0, p, w, sum);
        return (int) part(sum[0], sum[1], what);
    }

    // Every order, one by one.
    private void orders(int set, int gain, int p, int[] w, long[] sum) {
        if (set == (1 << pews()) - 1) { sum[0] += gain; sum[1]++; return; }
        for (int q = 0; q < pews(); q++) {
            if ((set >> q & 1) == 0) orders(set | 1 << q, q == p ? w[set | 1 << q] - w[set] : gain, p, w, sum);
        }
    }

    static long part(long above, long below, int what) {
        BigInteger g = BigInteger.valueOf(above).gcd(BigInteger.valueOf(below));
        return BigInteger.valueOf(what == 0 ? above : below).divide(g).longValueExact();
    }

    int sets() {
        if (noNight()) return -2;
        return IntStream.range(0, 1 << pews()).filter(s -> worthOf(s) == pews()).boxed()
            .min(Comparator.comparing((Integer s) -> Integer.bitCount(s)).thenComparing(s -> s)).orElse(-1);
    }

    int fewest() {
        int s = sets();
        return s < 0 ? s : Integer.bitCount(s);
    }

    private int litWithDraught(int p, int h, Integer rector) {
        What w = new What();
        w.rector = rector;
        w.draughts.add(new Draught(p, h));
        return lastLit(w);
    }

    int gust(int h) {
        if (noHour(h)) return -2;
        int now = lastLit(new What());
        return IntStream.range(0, pews()).filter(p -> litWithDraught(p, h, null) < now).boxed()
            .min(Comparator.comparing((Integer p) -> litWithDraught(p, h, null)).thenComparing(p -> p)).orElse(-1);
    }

    private int litWithout(int d) {
        What w = new What();
        w.draughts.remove(d);
        return lastLit(w);
    }

    int guard() {
        if (noNight()) return -2;
        int now = lastLit(new What());
        return IntStream.range(0, night.draughts.size()).filter(d -> litWithout(d) > now).boxed()
            .min(Comparator.comparing((Integer d) -> -litWithout(d)).thenComparing(d -> d)).orElse(-1);
    }

    // ---- HEARD

    int clueRefusal(int slot, boolean lightNeeded) {
        if (noSlot(slot) || noNight() || lightNeeded && night.lights.isEmpty()) return -2;
        if (slots[slot] == null) return -6;
        long[] r = slots[slot];
        if (r.length % 3 != 0) return -2;
        for (int i = 0; i < r.length; i += 3) {
            if (r[i] < 0 || r[i] >= pews() || r[i + 1] < 0 || r[i + 1] > night.hours || r[i + 2] < 0 || r[i + 2] > 6) return -2;
        }
        return 0;
    }

    boolean fits(int slot, At[][] c) {
        long[] r = slots[slot];
        for (int i = 0; i < r.length; i += 3) if (c[(int) r[i + 1]][(int) r[i]].says.length() != r[i + 2]) return false;
        return true;
    }

    At[][] toldTo(int p) { return course(new What().alone(Set.of(p), night.lights.get(0).says)); }

    int whom(int slot) {
        int r = clueRefusal(slot, true);
        return r != 0 ? r : bits(pews(), p -> fits(slot, toldTo(p)));
    }

    private int[] question(int slot) {
        List<At[][]> left = new ArrayList<>();
        for (int p = 0; p < pews(); p++) if (fits(slot, toldTo(p))) left.add(toldTo(p));
        int[] best = {-1, left.size()};
        for (int p = 0; p < pews(); p++) {
            for (int h = 0; h <= night.hours; h++) {
                TreeMap<Integer, Integer> groups = new TreeMap<>();
                for (At[][] c : left) groups.merge(c[h][p].says.length(), 1, Integer::sum);
                int worst = groups.values().stream().mapToInt(x -> x).max().orElse(0);
                if (worst < best[1]) best = new int[] {100 * p + h, worst};
            }
        }
        return best;
    }

    int ask(int slot) {
        int r = clueRefusal(slot, true);
        return r != 0 ? r : question(slot)[0];
    }

    int leaves(int slot) {
        int r = clueRefusal(slot, true);
        return r != 0 ? r : question(slot)[1];
    }

    At[][] byLaw(int law) {
        What w = new What();
        w.law = law;
        return course(w);
    }

    int laws(int slot) {
        int r = clueRefusal(slot, false);
        return r != 0 ? r : bits(4, l -> fits(slot, byLaw(l)));
    }

    int by(int law) { return noNight() || law < 0 || law > 3 ? -2 : litBits(byLaw(law)[night.hours]); }

    int law() {
        if (noNight()) return -2;
        return IntStream.range(0, 4).boxed()
            .min(Comparator.comparing((Integer l) -> -words(byLaw(l)[night.hours])).thenComparing(l -> l)).get();
    }

    // ---- games

    private int replyTo(int p) {
        return IntStream.range(0, pews()).boxed()
            .min(Comparator.comparing((Integer q) -> litWithDraught(q, 1, p)).thenComparing(q -> q)).get();
    }

    private int valueOf(int p) { return litWithDraught(replyTo(p), 1, p); }

    int rector() { return pews() == 0 ? -1000 : valueOf(opens()); }

    int opens() {
        if (noNight()) return -2;
        return IntStream.range(0, pews()).boxed()
            .min(Comparator.comparing((Integer p) -> -valueOf(p)).thenComparing(p -> p)).orElse(-1);
    }

    int replies(int p) { return noPew(p) ? -2 : replyTo(p); }

    int gain(int p, int q, int x, int y) {
        What w = new What();
        w.shut = new HashSet<>();
        if (x == 1) w.shut.add(p);
        if (y == 1) w.shut.add(q);
        return course(w)[night.hours][p].says.length() + 2 * x;
    }

    int gets(int p, int q, int x, int y) {
        return noPew(p) || noPew(q) || p == q || x < 0 || x > 1 || y < 0 || y > 1 ? -1000 : gain(p, q, x, y);
    }

    int rests(int p, int q) {
        if (noPew(p) || noPew(q) || p == q) return -2;
        int[] pairs = {0, 0, 1, 0, 0, 1, 1, 1};
        return bits(4, i -> {
            int x = pairs[2 * i], y = pairs[2 * i + 1];
            return gain(p, q, 1 - x, y) <= gain(p, q, x, y) && gain(q, p, 1 - y, x) <= gain(q, p, y, x);
        });
    }

    // ---- SILENCE

    private long[] weighed(int hour, ToIntFunction<At[]> measure) {
        long above = 0, below = 0;
        int n = hour + 1;
        for (int s = 0; s < 1 << n; s++) {
            long weight = 1;
            for (int h = 0; h < n; h++) weight *= (s >> h & 1) == 1 ? night.odds : 10 - night.odds;
            What w = new What();
            w.silence = s;
            above += weight * measure.applyAsInt(course(w)[hour + 1]);
            below += weight;
        }
        return new long[] {above, below};
    }

    long chance(int p, int h, int what) {
        if (noPew(p) || noHour(h) || h > 7 || h == night.hours || what < 0 || what > 1) return -2;
        long[] f = weighed(h, row -> row[p].lit() ? 1 : 0);
        return part(f[0], f[1], what);
    }

    long mean(int h, int what) {
        if (noHour(h) || h > 7 || h == night.hours || what < 0 || what > 1) return -2;
        long[] f = weighed(h, this::words);
        return part(f[0], f[1], what);
    }

    private int silenceFrom(long seed) {
        BigInteger x = BigInteger.valueOf(seed);
        int s = 0;
        for (int h = 0; h < night.hours; h++) {
            x = x.multiply(BigInteger.valueOf(1103515245)).add(BigInteger.valueOf(12345)).mod(BigInteger.TWO.pow(31));
            if (x.intValueExact() / 65536 % 10 < night.odds) s |= 1 << h;
        }
        return s;
    }

    private int litDrawn(long seed) {
        What w = new What();
        w.silence = silenceFrom(seed);
        return litBits(course(w)[night.hours]);
    }

    int drawn(int seed, int what) {
        if (noNight() || seed < 0 || seed > 2000000000 || what < 0 || what > 1) return -2;
        return what == 0 ? silenceFrom(seed) : litDrawn(seed);
    }

    int luck(int seed, int n, int p) {
        if (noPew(p) || seed < 0 || seed > 2000000000 || n < 1 || n > 20) return -2;
        return (int) IntStream.range(0, n).filter(i -> (litDrawn((long) seed + i) >> p & 1) == 1).count();
    }

    // ---- acts, IMAGES, SLOTS

    private int act(Act a) {
        if (night.acts.size() == 30) return -5;
        night.acts.add(a);
        return lastLit(new What());
    }

    int light(int p, int k, int h) { return noPew(p) || noHour(h) || k < 1 || k > 4 ? -2 : act(new Act(p, k, h)); }
    int draught(int p, int h) { return noPew(p) || noHour(h) ? -2 : act(new Act(p, 0, h)); }

    int undo() {
        if (noNight()) return -2;
        if (night.acts.isEmpty()) return -5;
        night.acts.remove(night.acts.size() - 1);
        return night.acts.size();
    }

    int anew() {
        if (noNight()) return -2;
        int n = night.acts.size();
        night.acts.clear();
        return n;
    }

    int hushes(int p) {
        if (noPew(p)) return -2;
        if (!night.acts.isEmpty()) return -5;
        int was = pew(p, 0);
        night.pews.set(p, new Rule("rest", 0, 0));
        return was;
    }

    int count(int what) {
        int held = (int) Arrays.stream(slots).filter(r -> r != null).count();
        int[] all = {night.hours, night.law, night.odds, pews(), night.aisles.size(), night.lights.size(),
            night.draughts.size(), night.acts.size(), night.lines, tape.size(), held};
        return what < 0 || what >= all.length ? -1 : all[what];
    }

    int image(int k) {
        if (k < 0 || k > 2) return -2;
        images[k] = night.copy();
        return 0;
    }

    int back(int k) {
        if (k < 0 || k > 2) return -2;
        if (images[k] == null) return -6;
        night = images[k].copy();
        return 0;
    }

    int row(int s, int w, int n) {
        if (noSlot(s) || w < 0 || w > 3 || n > 60) return -2;
        if (n < 0) return -3;
        slots[s] = new long[n];
        widths[s] = w;
        return 0;
    }

    int write(int s, int i, long v) {
        if (noSlot(s)) return -2;
        if (slots[s] == null) return -6;
        if (i < 0 || i >= slots[s].length) return -7;
        slots[s][i] = switch (widths[s]) { case 0 -> (byte) v; case 1 -> (short) v; case 2 -> (int) v; default -> v; };
        return 0;
    }

    int paste(int s, int i, int t, int k, int n) {
        if (noSlot(s) || noSlot(t)) return -2;
        if (slots[s] == null || slots[t] == null) return -6;
        if (widths[s] != widths[t]) return -8;
        try {
            System.arraycopy(slots[s], i, slots[t], k, n);
            return 0;
        } catch (IndexOutOfBoundsException e) {
            return -7;
        }
    }
}
