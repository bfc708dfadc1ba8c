import java.util.ArrayList;
import java.util.List;
import java.util.function.Supplier;
import java.util.function.ToLongFunction;

/** What the tests of boundary cases share: an answer that is due, and that a refused call leaves all as it was. */
final class Edge {
    static final int MIN = Integer.MIN_VALUE;
    static final int MAX = Integer.MAX_VALUE;
    static final String BASE = "night hours 3 law 0 odds 0;";

    /**
     * HOUR 0: 0 says 123. 1: 1 says 321. 2: 2 says 32, 4 says 322. 3: 3 says 324, and 1 is put out.
     * 4: 1 hears 0 once more and says 321. It has PEWS 0 .. 4, HOURS 0 .. 5, one LIGHT, one DRAUGHT.
     */
    static final String FIVE = "night hours 5 law 0 odds 5;pew rest;pew turn;pew drop;pew add 4;pew change 1 2;"
        + "aisle 0 1;aisle 1 2;aisle 2 3;aisle 1 4;light 0 1 2 3;draught 1 at 3;";

    /** PEW p hears the one ahead of it in HOUR p, and says 123412 as it does. */
    static final String CHAIN = "night hours 12 law 0 odds 0;" + "pew rest;".repeat(7)
        + "aisle 0 1;aisle 1 2;aisle 2 3;aisle 3 4;aisle 4 5;aisle 5 6;light 0 1 2 3 4 1 2;";

    /** Nobody sits there. */
    static final String EMPTY = "night hours 3 law 2 odds 10;";

    private static int wrong = 0;
    private static int asked = 0;
    private static List<String> busyPortrait = null;

    private Edge() { }

    static void due(int promise, String sentence, long got, long want) {
        asked++;
        if (got != want) tell(promise, sentence + ": answered " + got + ", due is " + want);
    }

    private static void tell(int promise, String text) {
        wrong++;
        System.out.println("promise " + promise + ", " + text);
    }

    /** Of an object that has something of all (busy()): what a refused call answers, and that it leaves all as it was. */
    static void refused(int promise, String sentence, long want, ToLongFunction<TaperTalk> call) {
        if (busyPortrait == null) busyPortrait = portrait(busy());
        TaperTalk x = busy();
        due(promise, sentence, call.applyAsLong(x), want);
        same(promise, sentence, busyPortrait, portrait(x));
    }

    /** The same of an object that the test makes. */
    static void refusedOf(Supplier<TaperTalk> made, int promise, String sentence, long want, ToLongFunction<TaperTalk> call) {
        TaperTalk x = made.get();
        due(promise, sentence, call.applyAsLong(x), want);
        same(promise, sentence, portrait(made.get()), portrait(x));
    }

    static void same(int promise, String sentence, List<String> was, List<String> is) {
        asked++;
        for (int i = 0; i < was.size(); i++) {
            if (!was.get(i).equals(is.get(i))) {
                tell(promise, sentence + ": not as it was, " + was.get(i) + " is now " + is.get(i));
                return;
            }
        }
    }

    /** Numbers that none of n things (0 .. n - 1) has, those among them that shifts or sums would wrap around. */
    static int[] outside(int n) {
        return new int[] {-1, n, n + 1, 32, 64, 256, 1 << 16, -32, MAX, MIN, MIN + 1};
    }

    /** PEWS 0 .. 4 and HOURS 0 .. 5 of FIVE with two acts, a FAULT, SLOT 2 and IMAGE 2 without anything. */
    static TaperTalk busy() {
        TaperTalk x = new TaperTalk();
        x.image(1);
        Telling.night(x, "night hours 2 law 3 odds 7;pew rest;pew turn;aisle 0 1;light 1 2 3;draught 0 at 2;");
        x.light(0, 2, 1);
        x.image(0);
        Telling.night(x, FIVE);
        x.light(2, 4, 0);
        x.draught(0, 2);
        Telling.night(x, "night hours 13");
        Telling.row(x, 0, 1, 2, 3);
        Telling.row(x, 1, 1, 5, 3);
        x.row(3, 3, 60);
        Telling.feed(x::feed, BASE + "pew turn;", ' ');
        return x;
    }

    /** All that can be seen of an object; it is of no use behind that. */
    static List<String> portrait(TaperTalk x) {
        List<String> seen = new ArrayList<>();
        for (int w = 0; w <= 10; w++) seen.add("count(" + w + ") " + x.count(w));
        seen.add("fault " + x.fault(0) + " at " + x.fault(1));
        seeNight(x, seen);
        for (int s = 0; s < 4; s++) seeRow(x, s, seen);
        seen.add("night() " + x.night() + " FAULT " + x.fault(0) + " at " + x.fault(1));
        seen.add("its hours " + x.count(0) + ", PEWS " + x.count(3) + ", RULE " + x.pew(0, 0));
        for (int k = 0; k < 3; k++) {
            seen.add("back(" + k + ") " + x.back(k) + " LINES " + x.count(8) + " acts " + x.count(7) + " lit " + x.lit(x.count(0))
                + " RULES " + x.pew(0, 0) + x.pew(1, 0) + " says " + x.says(1, 1, 0) + x.says(0, 1, 0) + " LAW " + x.count(1));
        }
        return seen;
    }

    private static void seeNight(TaperTalk x, List<String> seen) {
        int hours = x.count(0);
        for (int h = 0; h <= hours; h++) seen.add("HOUR " + h + " lit " + x.lit(h) + " LETTERS " + x.words(h));
        for (int p = 0; p < x.count(3); p++) {
            seen.add("PEW " + p + " RULE " + x.pew(p, 0) + " " + x.pew(p, 1) + " " + x.pew(p, 2) + " near " + x.near(p) + " says "
                + x.says(p, hours, 0) + x.says(p, hours, 1) + x.says(p, hours, 2) + " since " + x.since(p, hours) + " from " + x.from(p, hours));
        }
        for (int l = 0; l < x.count(5); l++) seen.add("LIGHT " + l + " " + x.told(l, 0) + x.told(l, 1) + x.told(l, 2));
        seen.add("drawn " + x.drawn(1, 0) + " " + x.drawn(1, 1));
    }

    private static void seeRow(TaperTalk x, int s, List<String> seen) {
        seen.add("SLOT " + s + " as LETTERS " + x.hears(s, 0, 0) + ": " + x.heard(s, 0, 0, 0) + x.heard(s, 0, 0, 1) + x.heard(s, 0, 0, 2));
        seen.add("SLOT " + s + " as HEARD " + x.laws(s) + " " + x.whom(s));
        seen.add("SLOT " + s + " is of SLOT 0's, 3's WIDTH " + x.paste(s, 0, 0, 0, 0) + " " + x.paste(s, 0, 3, 0, 0));
        seen.add("SLOT " + s + " has a first number " + x.write(s, 0, 0) + ", a third " + x.write(s, 2, 0)
            + ", a fourth " + x.write(s, 3, 0) + ", a sixtieth " + x.write(s, 59, 0));
    }

    static void end(String name) {
        System.out.println(name + ": " + (wrong == 0 ? asked + " answers as due" : wrong + " wrong"));
        if (wrong != 0) System.exit(1);
    }
}
