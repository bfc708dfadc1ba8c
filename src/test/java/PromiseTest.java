/** Each promise of the document by answers that were worked out by hand. */
public final class PromiseTest {
    private static final String BASE = "night hours 3 law 0 odds 0;";

    /**
     * HOUR 0: 0 says 123. 1: 1 says 321. 2: 2 says 32, 4 says 322. 3: 3 says 324, and 1 is put out.
     * 4: 1 hears 0 once more and says 321.
     */
    private static final String A = "night hours 5 law 0 odds 5; pew rest; pew turn; pew drop; pew add 4; pew change 1 2;"
        + " aisle 0 1; aisle 1 2; aisle 2 3; aisle 1 4; light 0 1 2 3; draught 1 at 3;";
    private static final String NO_PEWS = "night hours 3 law 2 odds 10;";
    private static final String PAIR = "night hours 2 law 0 odds 5; pew rest; pew drop; aisle 0 1; light 0 1;";
    private static final int MIN = Integer.MIN_VALUE;
    private static final int MAX = Integer.MAX_VALUE;

    private static int wrong = 0;
    private static int asked = 0;

    private static void due(int promise, String what, long got, long want) {
        asked++;
        if (got != want) {
            wrong++;
            System.out.println("promise " + promise + ", " + what + ": answered " + got + ", due is " + want);
        }
    }

    public static void main(String[] args) {
        newObject();
        tape();
        faults();
        limits();
        nightReplaced();
        rulesAndAisles();
        hourByHour();
        noPews();
        acts();
        laws();
        heardRows();
        firstSaid();
        setsOfPews();
        gustsAndGuards();
        clues();
        rectorAndDraught();
        game();
        chances();
        draws();
        hushesAndCounts();
        images();
        slots();
        wildArguments();
        System.out.println(wrong == 0 ? "PromiseTest: " + asked + " answers as due" : "PromiseTest: " + wrong + " wrong");
        if (wrong != 0) System.exit(1);
    }

    private static void newObject() {
        TaperTalk x = new TaperTalk();
        due(1, "NONE", TaperTalk.NONE, -1);
        due(1, "lit", x.lit(0), -2);
        due(1, "pews", x.count(3), 0);
        due(1, "lines", x.count(8), 0);
        due(1, "bytes", x.count(9), 0);
        due(1, "slots", x.count(10), 0);
        due(1, "image", x.back(0), -6);
        due(5, "ahead of any, 0", x.fault(0), 0);
        due(5, "ahead of any, 1", x.fault(1), -1);
        due(5, "ahead of any, 2", x.fault(2), -1);
        due(60, "no NIGHT", x.undo(), -2);
        due(61, "no NIGHT", x.anew(), -2);
        due(51, "no NIGHT", x.rector(), -1000);
        due(52, "no NIGHT", x.opens(), -2);
        due(39, "no NIGHT", x.worth(0), -2);
    }

    private static void tape() {
        TaperTalk x = new TaperTalk();
        due(2, "twenty", x.feed(0x6e696768, 0x7420686f, 0x75727320, 0x33206c61, 0x77203020), 20);
        due(2, "forty", x.feed(0x6f646473, 0x20303b20, 0x20202020, -1, 0), 40);
        due(3, "too many", x.end(41), -1);
        due(3, "below 0", x.end(-1), -1);
        due(3, "stays", x.count(9), 40);
        due(3, "all", x.end(40), 40);
        due(3, "cut", x.end(28), 28);
        due(2, "the highest first", x.night(), 1);
        due(4, "empty then", x.count(9), 0);
        due(3, "nothing left", x.end(1), -1);
        due(3, "of nothing nothing", x.end(0), 0);
        for (int i = 1; i <= 30; i++) due(2, "feed " + i, x.feed(i, i, i, i, i), 20 * i);
        due(2, "601 and more", x.feed(1, 1, 1, 1, 1), -1);
        due(2, "none came", x.count(9), 600);
        x.end(581);
        due(2, "601", x.feed(1, 1, 1, 1, 1), -1);
        x.end(580);
        due(2, "600", x.feed(1, 1, 1, 1, 1), 600);
        TaperTalk y = new TaperTalk();
        Telling.feed(y::feed, BASE + "pew rest;   ", ' ');
        due(2, "a text of two feeds", y.night(), 2);
        y.feed(0x6e69ff68, 0, 0, 0, 0);
        due(4, "a byte of 255", y.night(), -4);
        due(5, "the word it cuts", y.fault(1), 0);
    }

    private static void fault(String text, int kind, int place) {
        TaperTalk x = new TaperTalk();
        due(4, text, Telling.night(x, text), -4);
        due(5, text, x.fault(0), kind);
        due(5, text + " at", x.fault(1), place);
        due(5, text, x.fault(2), -1);
        due(5, text, x.fault(-1), -1);
        due(4, "stays: " + text, x.count(8), 0);
    }

    private static void fine(String text, int lines) {
        TaperTalk x = new TaperTalk();
        due(4, text, Telling.night(x, text), lines);
        due(5, text, x.fault(0), 0);
        due(5, text, x.fault(1), -1);
        due(65, text, x.count(8), lines);
    }

    private static void faults() {
        fine("", 0);
        fine(" \n ", 0);
        fine(BASE, 1);
        fine("night hours3law0odds0;pew add4;", 2);
        fine("night\nhours 012 law 003 odds 10 ;", 1);
        fine(BASE + "pew rest;light 0 1 2 3 4 1 2;", 3);
        fine(BASE + "pew rest;draught 0 at 11;", 3);
        fine("night hours 1 law 3 odds 10;pew change 4 1;", 2);
        fault("night hours 13", 2, 12);
        fault("night hours 0 law 0 odds 0;", 2, 12);
        fault("night hours 4294967299 law 0 odds 0;", 2, 12);
        fault("night hours 99999999999999999999999 law 0 odds 0;", 2, 12);
        fault("night hours 3 law 4", 2, 18);
        fault("night hours 3 law 0 odds 11", 2, 25);
        fault("night hours 3 law 0 odds 0", 1, 26);
        fault("night hours 3 law 0 odds 0  \n", 1, 29);
        fault("night hours 3 law 0 0 odds;", 1, 20);
        fault("night law 0", 1, 6);
        fault("night hours law", 1, 12);
        fault("nighthours 3", 1, 0);
        fault("nightz", 1, 0);
        fault("nighta", 1, 0);
        fault("pew rest;", 1, 0);
        fault(";", 1, 0);
        fault("  7", 1, 2);
        fault(BASE + ";", 1, 27);
        fault(BASE + BASE, 1, 27);
        fault(BASE + " Pew rest;", 1, 28);
        fault(BASE + "\tpew rest;", 1, 27);
        fault(BASE + "\u0000", 1, 27);
        fault(BASE + "\u00e9", 1, 27);
        fault(BASE + "-", 1, 27);
        fault(BASE + " pewrest;", 1, 28);
        fault(BASE + " pew jump;", 1, 32);
        fault(BASE + " pew;", 1, 31);
        fault(BASE + " pew rest", 1, 36);
        fault(BASE + " pew rest 1;", 1, 37);
        fault(BASE + " pew add;", 1, 35);
        fault(BASE + " pew add 5", 2, 36);
        fault(BASE + " pew add 0;", 2, 36);
        fault(BASE + " pew change 1", 1, 40);
        fault(BASE + " pew change 1 1", 2, 41);
        fault(BASE + " pew change 5 1", 2, 39);
        fault(BASE + " pew change 1 5", 2, 41);
        fault(BASE + " light 0 1;", 2, 34);
        fault(BASE + " pew rest; light 0;", 1, 45);
        fault(BASE + " pew rest; light 1 1;", 2, 44);
        fault(BASE + " pew rest; light 0 0;", 2, 46);
        fault(BASE + " pew rest; light 0 1 2 3 4 1 2 3;", 3, 58);
        fault(BASE + " pew rest; light 0 1 2 3 4 1 2 1;", 3, 58);
        fault(BASE + " pew rest; light 0 1 2 3 4 1 2 4;", 3, 58);
        fault(BASE + " pew rest; light 0 1 2 3 4 1 2 5;", 2, 58);
        fault(BASE + " pew rest; light 0 1 2 3 4 1 2 0;", 2, 58);
        fault(BASE + " pew rest; light 0 1 2 3 4 1 2 at;", 1, 58);
        String two = BASE + " pew rest; pew rest;";
        fault(two + " aisle 0 0;", 2, 56);
        fault(two + " aisle 0 2;", 2, 56);
        fault(two + " aisle 2 0;", 2, 54);
        fault(two + " aisle 2 2;", 2, 54);
        fault(two + " aisle 0;", 1, 55);
        fault(two + " aisle 0 1; aisle 0 1;", 2, 67);
        fault(two + " aisle 0 1; aisle 1 0;", 2, 67);
        fault(two + " aisle 0 99999999999;", 2, 56);
        fault(two + " draught 0 at 12;", 2, 61);
        fault(two + " draught 2 at 1;", 2, 56);
        fault(two + " draught 0 on 1;", 1, 58);
        fault(two + " draught 0 1;", 1, 58);
        fault(BASE + " aisle 0 1; pew rest; pew rest;", 2, 34);
    }

    private static void limits() {
        String seven = BASE + "pew rest;".repeat(7);
        fine(seven, 8);
        fault(seven + "pew", 3, 90);
        fault(seven + "pew jump", 3, 90);
        StringBuilder twelve = new StringBuilder(seven);
        int n = 0;
        for (int p = 0; p < 7; p++) for (int q = p + 1; q < 7; q++) if (n++ < 12) twelve.append("aisle " + p + " " + q + ";");
        fine(twelve.toString(), 20);
        fault(twelve + "aisle 5 6;", 3, 210);
        fault(twelve + "aisle 0 0;", 3, 210);
        String lights = BASE + "pew rest;" + "light 0 1;".repeat(4);
        fine(lights, 6);
        fault(lights + "light 0 1;", 3, 76);
        String draughts = BASE + "pew rest;" + "draught 0 at 1;".repeat(6);
        fine(draughts, 8);
        fault(draughts + "draught 0 at 1;", 3, 126);
    }

    private static void nightReplaced() {
        TaperTalk x = Telling.told(A);
        x.light(2, 4, 0);
        due(4, "a FAULT", Telling.night(x, "night hours 13"), -4);
        due(4, "the NIGHT stays", x.count(8), 12);
        due(4, "acts stay", x.count(7), 1);
        due(4, "the refused TAPE is used up", x.count(9), 0);
        due(4, "another", Telling.night(x, PAIR), 5);
        due(4, "nothing done", x.count(7), 0);
        due(5, "without", x.fault(0), 0);
        due(5, "without", x.fault(1), -1);
        due(4, "its PEWS", x.count(3), 2);
        due(4, "NEIGHBOURS are its own", x.near(0), 2);
        x.row(2, 0, 1);
        due(4, "none", Telling.night(x, ""), 0);
        due(4, "there is none", x.lit(0), -2);
        due(4, "none in counts", x.count(0) + x.count(1) + x.count(2) + x.count(3) + x.count(4) + x.count(5), 0);
        due(4, "SLOTS stay", x.count(10), 1);
    }

    private static void rulesAndAisles() {
        TaperTalk x = Telling.told(A);
        int[][] rules = {{0, 0, 0}, {1, 0, 0}, {2, 0, 0}, {3, 4, 0}, {4, 1, 2}};
        for (int p = 0; p < 5; p++) for (int w = 0; w < 3; w++) due(6, p + " " + w, x.pew(p, w), rules[p][w]);
        due(6, "no PEW", x.pew(5, 0), -2);
        due(6, "no PEW", x.pew(-1, 0), -2);
        due(6, "no what", x.pew(0, 3), -2);
        due(6, "no what", x.pew(0, -1), -2);
        int[] near = {2, 21, 10, 4, 2};
        for (int p = 0; p < 5; p++) due(7, "near " + p, x.near(p), near[p]);
        due(7, "none", x.near(5), -2);
        due(7, "none", x.near(-1), -2);
        due(8, "itself", x.far(2, 2), 0);
        due(8, "0 3", x.far(0, 3), 3);
        due(8, "3 4", x.far(3, 4), 3);
        due(8, "0 1", x.far(0, 1), 1);
        due(8, "none", x.far(0, 5), -2);
        due(8, "none", x.far(-1, 0), -2);
        TaperTalk chain = Telling.told(BASE + "pew rest;".repeat(7) + "aisle 6 5;aisle 4 5;aisle 3 4;aisle 2 3;aisle 1 2;aisle 0 1;");
        due(8, "the whole chain", chain.far(0, 6), 6);
        due(8, "and back", chain.far(6, 0), 6);
        TaperTalk apart = Telling.told(BASE + "pew rest;pew rest;pew rest;aisle 0 1;");
        due(8, "no way", apart.far(0, 2), -1);
        due(9, "first", x.told(0, 0), 1);
        due(9, "third", x.told(0, 2), 3);
        due(9, "beyond", x.told(0, 3), -1);
        due(9, "below", x.told(0, -1), -1);
        due(9, "no LIGHT", x.told(1, 0), -2);
        due(9, "no LIGHT", x.told(-1, 0), -2);
        due(9, "no LIGHT, no place", x.told(4, -1), -2);
    }

    private static void hourByHour() {
        TaperTalk x = Telling.told(A);
        int[] lit = {1, 3, 23, 29, 31, 31};
        int[] words = {3, 6, 11, 11, 14, 14};
        int[] turned = {1, 2, 20, 10, 2, 0};
        int[] fresh = {1, 2, 20, 8, 2, 0};
        int[] gone = {0, 0, 0, 2, 0, 0};
        int[] sorts = {1, 2, 4, 4, 5, 5};
        for (int h = 0; h <= 5; h++) {
            due(10, "HOUR " + h, x.lit(h), lit[h]);
            due(25, "HOUR " + h, x.words(h), words[h]);
            due(26, "HOUR " + h, x.turned(h), turned[h]);
            due(30, "HOUR " + h, x.fresh(h), fresh[h]);
            due(31, "HOUR " + h, x.gone(h), gone[h]);
            due(20, "HOUR " + h, x.sorts(h), sorts[h]);
            due(23, "HOUR " + h, x.longest(h), 0);
            due(24, "HOUR " + h, x.shortest(h), h < 2 ? 0 : 2);
        }
        String[] last = {"123", "321", "32", "324", "322"};
        for (int p = 0; p < 5; p++) {
            due(11, "PEW " + p, x.letters(p, 5), last[p].length());
            for (int i = 0; i < last[p].length(); i++) due(12, p + " " + i, x.says(p, 5, i), last[p].charAt(i) - '0');
            due(12, "beyond", x.says(p, 5, last[p].length()), -1);
        }
        due(11, "out", x.letters(3, 2), 0);
        due(12, "out", x.says(3, 2, 0), -1);
        due(12, "below", x.says(0, 5, -1), -2);
        int[][] from = {{0, 5, -1}, {1, 1, 0}, {1, 3, -1}, {1, 4, 0}, {2, 2, 1}, {3, 5, 2}, {4, 5, 1}, {4, 1, -1}};
        for (int[] f : from) due(13, f[0] + " in " + f[1], x.from(f[0], f[1]), f[2]);
        int[][] since = {{0, 5, 0}, {1, 2, 1}, {1, 3, -1}, {1, 5, 4}, {3, 5, 3}, {4, 1, -1}};
        for (int[] s : since) due(14, s[0] + " in " + s[1], x.since(s[0], s[1]), s[2]);
        int[] when = {0, 1, 2, 3, 2};
        int[] often = {6, 4, 4, 3, 4};
        int[] taught = {2, 20, 8, 0, 0};
        int[] depth = {0, 1, 2, 3, 2};
        for (int p = 0; p < 5; p++) {
            due(15, "PEW " + p, x.when(p), when[p]);
            due(16, "PEW " + p, x.often(p), often[p]);
            due(28, "PEW " + p, x.taught(p), taught[p]);
            due(22, "PEW " + p, x.depth(p, 5), depth[p]);
        }
        due(22, "out", x.depth(1, 3), -1);
        due(17, "full", x.full(), 4);
        due(18, "dark", x.dark(), 0);
        due(19, "still", x.still(), 4);
        due(29, "deepest", x.deepest(), 3);
        due(21, "itself alone", x.alike(1, 5), 2);
        due(21, "out", x.alike(1, 3), 0);
        int[] spoken = {0, 2, 6, 5, 1};
        for (int k = 1; k <= 4; k++) due(27, "LETTER " + k, x.spoken(k, 5), spoken[k]);
        due(27, "no LETTER", x.spoken(0, 5), -2);
        due(27, "no LETTER", x.spoken(5, 5), -2);
        noSuchHours(x, 6);
        noSuchHours(x, -1);
        for (int p : new int[] {5, -1}) {
            due(11, "no PEW", x.letters(p, 0), -2);
            due(12, "no PEW", x.says(p, 0, 0), -2);
            due(13, "no PEW", x.from(p, 0), -2);
            due(14, "no PEW", x.since(p, 0), -2);
            due(15, "no PEW", x.when(p), -2);
            due(16, "no PEW", x.often(p), -2);
            due(21, "no PEW", x.alike(p, 0), -2);
            due(22, "no PEW", x.depth(p, 0), -2);
            due(28, "no PEW", x.taught(p), -2);
        }
        darkAndStill();
    }

    private static void darkAndStill() {
        TaperTalk x = Telling.told("night hours 2 law 0 odds 0; pew rest; pew drop; pew rest; aisle 0 1; light 0 1; light 2 4; light 2 1;");
        due(18, "a drop of one LETTER, nothing is left", x.dark(), 2);
        due(15, "in none", x.when(1), -1);
        due(16, "in none", x.often(1), 0);
        due(17, "not all", x.full(), -1);
        due(17, "in the last one", Telling.told("night hours 1 law 0 odds 0; pew rest; pew rest; aisle 0 1; light 0 1;").full(), 1);
        due(17, "in the first one", Telling.told("night hours 1 law 0 odds 0; pew rest; light 0 1; draught 0 at 1;").full(), 0);
        due(19, "from the first on", x.still(), 0);
        due(21, "two alike", x.alike(0, 2), 5);
        due(20, "two alike", x.sorts(2), 1);
        due(12, "of a PEW told again the last", x.says(2, 0, 0), 1);
        TaperTalk out = Telling.told("night hours 2 law 0 odds 0; pew rest; light 0 1; draught 0 at 0; draught 0 at 7;");
        due(29, "none is lit", out.deepest(), -1);
        due(23, "none is lit", out.longest(0), -1);
        due(24, "none is lit", out.shortest(0), -1);
        due(18, "put out in HOUR 0", out.dark(), 1);
        due(25, "none is lit", out.words(2), 0);
        TaperTalk change = Telling.told("night hours 2 law 0 odds 0; pew rest; light 0 1; draught 0 at 2;");
        due(19, "out in the last alone", change.still(), 2);
        due(31, "gone", change.gone(2), 1);
        due(26, "out then alone", change.turned(2), 1);
        due(30, "not since it", change.fresh(1), 0);
    }

    private static void noSuchHours(TaperTalk x, int hour) {
        due(10, "no HOUR", x.lit(hour), -2);
        due(11, "no HOUR", x.letters(0, hour), -2);
        due(12, "no HOUR", x.says(0, hour, 0), -2);
        due(13, "no HOUR", x.from(0, hour), -2);
        due(14, "no HOUR", x.since(0, hour), -2);
        due(20, "no HOUR", x.sorts(hour), -2);
        due(21, "no HOUR", x.alike(0, hour), -2);
        due(22, "no HOUR", x.depth(0, hour), -2);
        due(23, "no HOUR", x.longest(hour), -2);
        due(24, "no HOUR", x.shortest(hour), -2);
        due(25, "no HOUR", x.words(hour), -2);
        due(26, "no HOUR", x.turned(hour), -2);
        due(27, "no HOUR", x.spoken(1, hour), -2);
        due(30, "no HOUR", x.fresh(hour), -2);
        due(31, "no HOUR", x.gone(hour), -2);
        due(43, "no HOUR", x.gust(hour), -2);
    }

    private static void noPews() {
        TaperTalk x = Telling.told(NO_PEWS);
        due(17, "there is none", x.full(), -1);
        due(18, "there is none", x.dark(), 0);
        due(19, "at once", x.still(), 0);
        due(29, "none is lit", x.deepest(), -1);
        due(38, "there are none", x.best(), -1);
        due(41, "none light all", x.fewest(), 0);
        due(42, "none light all", x.sets(), 0);
        due(44, "there is none", x.guard(), -1);
        due(50, "the least", x.law(), 0);
        due(51, "there are none", x.rector(), -1000);
        due(52, "there are none", x.opens(), -1);
        due(10, "none", x.lit(2), 0);
        due(20, "none", x.sorts(0), 0);
        due(23, "none", x.longest(0), -1);
        due(25, "none", x.words(1), 0);
        due(39, "the empty set", x.worth(0), 0);
        due(39, "no set", x.worth(1), -2);
        x.row(0, 0, 0);
        due(48, "by all", x.laws(0), 15);
        due(45, "no LIGHT", x.whom(0), -2);
        due(32, "no PEW", x.hears(0, 0, 0), -2);
        due(62, "odds 10", x.drawn(5, 0), 7);
        due(62, "none", x.drawn(5, 1), 0);
        due(57, "0", x.mean(0, 0), 0);
        due(57, "of 1", x.mean(0, 1), 1);
        due(43, "none", x.gust(0), -1);
    }

    private static void acts() {
        TaperTalk x = Telling.told(A);
        due(60, "none", x.undo(), -5);
        due(58, "all at last", x.light(2, 4, 0), 5);
        due(58, "it says", x.says(2, 5, 0), 4);
        due(58, "one LETTER", x.letters(2, 5), 1);
        due(13, "by an act", x.from(2, 0), -1);
        due(13, "the first one", x.from(1, 1), 0);
        due(22, "heard of the act", x.depth(3, 1), 1);
        due(59, "heard again", x.draught(0, 2), 5);
        due(14, "the break", x.since(0, 5), 3);
        due(13, "of 1", x.from(0, 5), 1);
        due(22, "of 1", x.depth(0, 5), 2);
        due(12, "turned", x.says(0, 5, 0), 3);
        due(12, "turned back", x.says(1, 5, 0), 1);
        due(22, "of 0 then", x.depth(1, 5), 3);
        due(60, "one left", x.undo(), 1);
        due(60, "as it was", x.says(0, 5, 0), 1);
        due(61, "one was", x.anew(), 1);
        due(61, "none were", x.anew(), 0);
        due(61, "as told", x.says(2, 5, 0), 3);
        due(58, "a lit one", x.light(1, 4, 2), 5);
        due(14, "without a break", x.since(1, 2), 1);
        due(13, "as by an act", x.from(1, 2), -1);
        due(22, "as by an act", x.depth(1, 2), 0);
        due(12, "in place of", x.says(1, 2, 0), 4);
        due(11, "in place of", x.letters(1, 2), 1);
        due(12, "heard ahead of it", x.says(2, 2, 0), 3);
        due(28, "still in HOUR 1, and 4", x.taught(0), 2);
        x.anew();
        x.light(1, 1, 3);
        due(58, "DRAUGHTS come behind acts", x.letters(1, 3), 0);
        x.anew();
        due(58, "the last HOUR", x.light(3, 2, 5), 5);
        due(12, "then", x.says(3, 5, 0), 2);
        due(59, "the last HOUR", x.draught(3, 5), 4);
        due(59, "ahead of it a light, whatever came first", x.light(3, 2, 5), 4);
        due(58, "one LETTER is dropped by 2", x.light(0, 2, 0), 3);
        x.light(0, 3, 0);
        due(58, "told twice, the last", x.says(0, 0, 0), 3);
        x.anew();
        actRefusals(x);
    }

    private static void actRefusals(TaperTalk x) {
        due(58, "no PEW", x.light(5, 1, 0), -2);
        due(58, "no LETTER", x.light(0, 5, 0), -2);
        due(58, "no LETTER", x.light(0, 0, 0), -2);
        due(58, "no HOUR", x.light(0, 1, 6), -2);
        due(58, "no HOUR", x.light(0, 1, -1), -2);
        due(59, "no PEW", x.draught(5, 0), -2);
        due(59, "no HOUR", x.draught(0, 6), -2);
        due(65, "none done", x.count(7), 0);
        for (int i = 0; i < 30; i++) due(58, "act " + i, i % 2 == 0 ? x.light(1, 1, 5) : x.draught(3, 5), i == 0 ? 5 : 4);
        due(58, "30 acts", x.light(0, 1, 0), -5);
        due(59, "30 acts", x.draught(0, 0), -5);
        due(58, "-2 is asked ahead", x.light(0, 9, 0), -2);
        due(59, "-2 is asked ahead", x.draught(9, 0), -2);
        due(60, "29 left", x.undo(), 29);
        due(59, "room again", x.draught(3, 5), 4);
        due(61, "30 were", x.anew(), 30);
    }

    private static void laws() {
        TaperTalk x = Telling.told(A);
        for (int l = 0; l < 4; l++) due(49, "LAW " + l, x.by(l), 31);
        due(49, "no LAW", x.by(4), -2);
        due(49, "no LAW", x.by(-1), -2);
        due(50, "14 LETTERS", x.law(), 0);
        String[] turned = {"321", "223", "321", "23"};
        for (int l = 0; l < 4; l++) {
            TaperTalk y = Telling.told(A.replace("law 0", "law " + l));
            due(12, "LAW " + l, y.says(1, 5, 0), turned[l].charAt(0) - '0');
            due(11, "LAW " + l, y.letters(1, 5), turned[l].length());
        }
        due(22, "depth by LAW 1", Telling.told(A.replace("law 0", "law 1")).depth(1, 5), 3);
        TaperTalk drop = Telling.told("night hours 2 law 3 odds 0; pew drop; pew rest; pew rest; aisle 0 1; aisle 2 0; light 1 1; light 2 1 2;");
        int[] by = {6, 7, 7, 6};
        for (int l = 0; l < 4; l++) due(49, "LAW " + l, drop.by(l), by[l]);
        due(50, "one LETTER more", drop.law(), 1);
        due(10, "as told", drop.lit(2), 6);
        String lastLit = "night hours 3 law 3 odds 0; pew rest; pew rest; pew rest; aisle 0 2; aisle 1 2; light 0 1; draught 2 at 1;";
        TaperTalk later = Telling.told(lastLit);
        later.light(1, 3, 1);
        due(13, "lit last", later.from(2, 2), 1);
        TaperTalk relit = Telling.told(lastLit + "light 1 2;");
        relit.light(1, 3, 1);
        due(14, "without a break", relit.since(1, 1), 0);
        due(13, "the first of several", relit.from(2, 2), 0);
        relit.draught(1, 0);
        due(14, "out, and lit again", relit.since(1, 1), 1);
        due(13, "lit last", relit.from(2, 2), 1);
    }

    private static void heardRows() {
        TaperTalk x = Telling.told(A);
        Telling.row(x, 0, 1, 2, 3);
        due(32, "turn, add", x.hears(0, 1, 3), 4);
        int[] heard = {3, 2, 1, 4, -1};
        for (int i = 0; i < 5; i++) due(33, "turn, add " + i, x.heard(0, 1, 3, i), heard[i]);
        due(33, "add, turn", x.heard(0, 3, 1, 0), 4);
        due(32, "drop twice", x.hears(0, 2, 2), 1);
        due(33, "change", x.heard(0, 4, 0, 0), 2);
        due(33, "i below 0", x.heard(0, 1, 3, -1), -2);
        due(34, "turn twice", x.round(0, 1, 1), 1);
        due(34, "turn", x.round(0, 1, 0), 2);
        due(34, "drop", x.round(0, 2, 0), -1);
        due(34, "add", x.round(0, 3, 0), -1);
        due(34, "change", x.round(0, 4, 0), -1);
        due(34, "drop, add of another LETTER", x.round(0, 2, 3), -1);
        Telling.row(x, 1, 1, 2, 3, 4, 1, 2);
        due(32, "six stay", x.hears(1, 3, 3), 6);
        due(34, "six stay", x.round(1, 3, 3), 1);
        Telling.row(x, 1, 4, 4);
        due(34, "drop, add", x.round(1, 2, 3), 1);
        due(34, "add, drop", x.round(1, 3, 2), 1);
        Telling.row(x, 1, 4);
        due(34, "nothing is left ahead of it", x.round(1, 2, 3), -1);
        due(32, "nothing is left", x.hears(1, 2, 3), 0);
        due(33, "nothing is left", x.heard(1, 2, 3, 0), -1);
        TaperTalk cycle = Telling.told(BASE + "pew change 1 2;pew change 2 1;pew turn;");
        Telling.row(cycle, 0, 1, 1);
        due(34, "there and back", cycle.round(0, 0, 1), 1);
        hearingRefusals(x);
    }

    private static void hearingRefusals(TaperTalk x) {
        due(32, "no SLOT", x.hears(4, 0, 0), -2);
        due(32, "no SLOT", x.hears(-1, 0, 0), -2);
        due(32, "no PEW", x.hears(0, 5, 0), -2);
        due(32, "no PEW", x.hears(0, 0, 5), -2);
        due(32, "nothing", x.hears(3, 0, 0), -6);
        due(33, "nothing", x.heard(3, 0, 0, 0), -6);
        due(34, "nothing", x.round(3, 0, 0), -6);
        due(35, "nothing", x.first(3, 0, 0), -6);
        due(36, "nothing", x.letter(3, 0, 0, 0), -6);
        due(37, "nothing", x.ways(3, 0, 0), -6);
        due(32, "-2 is asked ahead of -6", x.hears(3, 5, 0), -2);
        due(33, "-2 is asked ahead of -6", x.heard(3, 0, 0, -1), -2);
        due(36, "-2 is asked ahead of -6", x.letter(3, 0, 0, -1), -2);
        int[][] bad = {{}, {1, 1, 1, 1, 1, 1, 1}, {0}, {5}, {1, -1}, {1, 2, 3, 4, 5}};
        for (int[] row : bad) {
            Telling.row(x, 2, row);
            due(32, "no SAYING", x.hears(2, 0, 0), -2);
            due(33, "no SAYING", x.heard(2, 0, 0, 0), -2);
            due(34, "no SAYING", x.round(2, 0, 0), -2);
            due(35, "no SAYING", x.first(2, 0, 0), -2);
            due(36, "no SAYING", x.letter(2, 0, 0, 0), -2);
            due(37, "no SAYING", x.ways(2, 0, 0), -2);
        }
        Telling.row(x, 2, 1);
        x.write(2, 0, 258);
        due(69, "cut to a LETTER", x.heard(2, 0, 0, 0), 2);
    }

    private static void firstSaid() {
        TaperTalk x = Telling.told(A);
        Telling.row(x, 0, 3, 2);
        due(35, "turned, one dropped", x.first(0, 0, 2), 3);
        int[] letters = {1, 2, 3, -1};
        for (int i = 0; i < 4; i++) due(36, "LETTER " + i, x.letter(0, 0, 2, i), letters[i]);
        due(37, "any first LETTER", x.ways(0, 0, 2), 4);
        due(35, "itself", x.first(0, 0, 0), 2);
        due(37, "itself", x.ways(0, 0, 0), 1);
        due(35, "turned", x.first(0, 4, 0), 2);
        due(36, "turned", x.letter(0, 4, 0, 0), 2);
        due(35, "nothing ends so", x.first(0, 0, 3), -1);
        due(36, "nothing ends so", x.letter(0, 0, 3, 0), -1);
        due(37, "nothing ends so", x.ways(0, 0, 3), 0);
        due(36, "i below 0", x.letter(0, 0, 2, -1), -2);
        due(35, "no PEW", x.first(0, 5, 0), -2);
        due(37, "no PEW", x.ways(0, 0, 5), -2);
        due(35, "no SLOT", x.first(4, 0, 0), -2);
        Telling.row(x, 0, 1, 1, 1, 1, 1);
        due(35, "five are too many", x.first(0, 0, 0), -1);
        Telling.row(x, 0, 2, 2);
        due(35, "1 or 2 first", x.first(0, 1, 4), 2);
        due(36, "the least row", x.letter(0, 1, 4, 0), 1);
        due(37, "1 or 2 each", x.ways(0, 1, 4), 4);
        x.light(4, 3, 5);
        due(35, "no lights of acts", x.first(0, 1, 4), 2);
        x.draught(4, 5);
        due(35, "but draughts of acts", x.first(0, 1, 4), -1);
    }

    private static void setsOfPews() {
        TaperTalk x = Telling.told(A);
        int[] alone = {3, 3, 5, 1, 3};
        for (int p = 0; p < 5; p++) due(39, "PEW " + p, x.worth(1 << p), alone[p]);
        due(38, "best", x.best(), 2);
        due(39, "the empty set", x.worth(0), 0);
        due(39, "all", x.worth(31), 5);
        due(39, "no set", x.worth(32), -2);
        due(39, "no set", x.worth(-1), -2);
        due(41, "one", x.fewest(), 1);
        due(42, "2 alone", x.sets(), 4);
        x.light(3, 1, 5);
        due(39, "no lights of acts", x.worth(1), 3);
        x.draught(0, 5);
        due(39, "but draughts of acts", x.worth(1), 2);
        due(41, "not all any more", x.fewest(), -1);
        due(42, "not all any more", x.sets(), -1);
        TaperTalk pair = Telling.told(PAIR);
        due(40, "1 / 2", pair.share(0, 0), 1);
        due(40, "1 / 2", pair.share(0, 1), 2);
        due(40, "3 / 2", pair.share(1, 0), 3);
        due(40, "3 / 2", pair.share(1, 1), 2);
        due(40, "no PEW", pair.share(2, 0), -2);
        due(40, "no what", pair.share(0, 2), -2);
        due(40, "no what", pair.share(0, -1), -2);
        due(41, "the other one", pair.fewest(), 1);
        due(42, "the other one", pair.sets(), 2);
        TaperTalk chain = Telling.told("night hours 4 law 0 odds 0;pew rest;pew add 1;pew drop;pew rest;aisle 0 2;aisle 1 2;aisle 1 3;");
        int[] worths = {0, 1, 2, 3, 4, 4, 4, 4, 4, 3, 2, 3, 4, 4, 4, 4};
        for (int s = 0; s < 16; s++) due(39, "set " + s, chain.worth(s), worths[s]);
        int[][] shares = {{1, 3}, {1, 2}, {2, 1}, {7, 6}};
        for (int p = 0; p < 4; p++) for (int w = 0; w < 2; w++) due(40, p + " " + w, chain.share(p, w), shares[p][w]);
        due(38, "the first of several", chain.best(), 2);
        TaperTalk out = Telling.told("night hours 1 law 0 odds 0; pew rest; pew rest; draught 0 at 1;");
        due(40, "0 / 1", out.share(0, 0), 0);
        due(40, "0 / 1", out.share(0, 1), 1);
        due(38, "best", out.best(), 1);
        TaperTalk apart = Telling.told(BASE + "pew rest;pew rest;pew rest;");
        due(41, "each", apart.fewest(), 3);
        due(42, "each", apart.sets(), 7);
        due(38, "the first of several", apart.best(), 0);
        TaperTalk star = Telling.told("night hours 1 law 0 odds 0; pew rest; pew rest; pew rest; aisle 0 2; aisle 1 2;");
        due(39, "0 and 1 light all, too", star.worth(3), 3);
        due(41, "fewer than 0 and 1", star.fewest(), 1);
        due(42, "fewer than 0 and 1", star.sets(), 4);
        TaperTalk loss = Telling.told("night hours 2 law 0 odds 0;pew rest;pew drop;pew rest;pew add 1;"
            + "aisle 0 1;aisle 1 3;aisle 2 3;draught 0 at 2;");
        due(40, "below 0 for what 0", Integer.signum(loss.share(0, 0)), -1);
        due(40, "above 0 for what 1", Integer.signum(loss.share(0, 1)), 1);
    }

    private static void gustsAndGuards() {
        TaperTalk x = Telling.told(A);
        due(43, "the last one, any", x.gust(5), 0);
        due(43, "all that is told", x.gust(0), 0);
        due(43, "it comes back", x.gust(1), -1);
        due(44, "as many now", x.guard(), -1);
        TaperTalk many = Telling.told("night hours 2 law 0 odds 0; pew rest; pew rest; pew rest; aisle 1 2; light 0 1; light 1 1;");
        due(43, "1 carries it to 2", many.gust(0), 1);
        due(43, "none is fewer than by 0", many.gust(2), 0);
        TaperTalk out = Telling.told("night hours 2 law 0 odds 0; pew rest; pew rest; light 0 1; light 1 1;"
            + "draught 1 at 2; draught 1 at 1; draught 0 at 2;");
        due(44, "the one of 0", out.guard(), 2);
        due(43, "none to put out", out.gust(2), -1);
        TaperTalk most = Telling.told("night hours 2 law 0 odds 0; pew rest; pew rest; pew rest; aisle 1 2; light 0 1; light 1 1;"
            + "draught 0 at 0; draught 1 at 0; draught 1 at 7;");
        due(44, "two more by the second", most.guard(), 1);
        most.draught(1, 0);
        due(44, "an act puts it out, too", most.guard(), 0);
    }

    private static void clues() {
        TaperTalk x = Telling.told(A);
        Telling.row(x, 1, 2, 5, 2);
        due(45, "not 2", x.whom(1), 27);
        due(46, "PEW 0, HOUR 1", x.ask(1), 1);
        due(47, "two each", x.leaves(1), 2);
        Telling.row(x, 1, 1, 5, 2);
        due(48, "LAW 3 alone", x.laws(1), 8);
        Telling.row(x, 1, 1, 5, 3);
        due(48, "others", x.laws(1), 7);
        Telling.row(x, 1, 1, 5, 3, 1, 3, 0, 0, 0, 3);
        due(48, "out in HOUR 3", x.laws(1), 7);
        Telling.row(x, 1, 1, 5, 3, 1, 3, 1);
        due(48, "no LAW", x.laws(1), 0);
        x.row(1, 2, 0);
        due(45, "nothing heard", x.whom(1), 31);
        due(48, "nothing heard", x.laws(1), 15);
        int[][] bad = {{1}, {1, 1}, {1, 5, 3, 1}, {5, 0, 0}, {-1, 0, 0}, {0, 6, 0}, {0, -1, 0}, {0, 0, 7}, {0, 0, -1}, {0, 0, 3, 0, 0, 7}};
        for (int[] row : bad) {
            Telling.row(x, 1, row);
            due(45, "none such", x.whom(1), -2);
            due(46, "none such", x.ask(1), -2);
            due(47, "none such", x.leaves(1), -2);
            due(48, "none such", x.laws(1), -2);
        }
        for (int slot : new int[] {4, -1}) {
            due(45, "no SLOT", x.whom(slot), -2);
            due(46, "no SLOT", x.ask(slot), -2);
            due(47, "no SLOT", x.leaves(slot), -2);
            due(48, "no SLOT", x.laws(slot), -2);
        }
        due(45, "nothing", x.whom(3), -6);
        due(46, "nothing", x.ask(3), -6);
        due(47, "nothing", x.leaves(3), -6);
        due(48, "nothing", x.laws(3), -6);
        TaperTalk unlit = Telling.told(BASE + "pew rest;");
        due(45, "no LIGHT ahead of nothing", unlit.whom(0), -2);
        due(48, "no LIGHT aside", unlit.laws(0), -6);
        questions();
    }

    private static void questions() {
        TaperTalk x = Telling.told("night hours 1 law 0 odds 0; pew rest; pew rest; pew rest; aisle 1 2; light 0 1; light 1 2 2;"
            + " draught 0 at 0; draught 0 at 1;");
        x.row(0, 3, 0);
        due(45, "any", x.whom(0), 7);
        due(46, "PEW 1, HOUR 0", x.ask(0), 100);
        due(47, "0 and 2 at worst", x.leaves(0), 2);
        Telling.row(x, 0, 1, 1, 1);
        due(45, "1 or 2, what LIGHT 0 says", x.whom(0), 6);
        due(46, "which of them", x.ask(0), 100);
        due(47, "one", x.leaves(0), 1);
        Telling.row(x, 0, 1, 0, 1);
        due(45, "one alone", x.whom(0), 2);
        due(46, "no need", x.ask(0), -1);
        due(47, "as now", x.leaves(0), 1);
        Telling.row(x, 0, 1, 0, 5);
        due(45, "nobody", x.whom(0), 0);
        due(46, "nobody", x.ask(0), -1);
        due(47, "nobody", x.leaves(0), 0);
        TaperTalk late = Telling.told("night hours 2 law 0 odds 0; pew rest; pew rest; aisle 0 1; light 0 1; draught 0 at 0; draught 1 at 0; draught 0 at 2;");
        late.row(0, 0, 0);
        due(46, "none tells them apart", late.ask(0), -1);
        due(47, "both", late.leaves(0), 2);
    }

    private static void rectorAndDraught() {
        TaperTalk x = Telling.told(PAIR);
        due(51, "one stays", x.rector(), 1);
        due(52, "1 is lit", x.opens(), 1);
        due(53, "0 goes out", x.replies(0), 0);
        due(53, "1 goes out", x.replies(1), 1);
        due(53, "no PEW", x.replies(2), -2);
        due(53, "no PEW", x.replies(-1), -2);
        TaperTalk last = Telling.told("night hours 1 law 0 odds 0; pew rest; pew rest; aisle 0 1;");
        due(51, "HOUR 1 is the last", last.rector(), 1);
        due(52, "the first of several", last.opens(), 0);
        due(53, "the first of several", last.replies(1), 0);
        TaperTalk windy = Telling.told("night hours 1 law 0 odds 0; pew rest; pew rest; pew rest; aisle 1 2; draught 0 at 0;");
        due(52, "DRAUGHTS of HOUR 0 come behind", windy.opens(), 1);
        due(51, "one of two", windy.rector(), 1);
        due(53, "nothing to gain", windy.replies(0), 0);
        due(53, "one of two", windy.replies(1), 1);
        TaperTalk said = Telling.told("night hours 2 law 0 odds 0; pew rest; pew drop; aisle 0 1; light 0 1 2;");
        due(53, "in place of 1 2: 1 can't be lit", said.replies(0), 0);
        due(52, "1", said.opens(), 1);
        due(51, "both again", said.rector(), 2);
    }

    private static void game() {
        TaperTalk x = Telling.told("night hours 2 law 0 odds 0; pew rest; pew rest; aisle 0 1; light 0 1 2 3;");
        due(55, "0: neither", x.gets(0, 1, 0, 0), 3);
        due(55, "0: it shuts", x.gets(0, 1, 1, 0), 5);
        due(55, "0: the other", x.gets(0, 1, 0, 1), 3);
        due(55, "1: neither", x.gets(1, 0, 0, 0), 3);
        due(55, "1: it shuts", x.gets(1, 0, 1, 0), 2);
        due(55, "1: the other", x.gets(1, 0, 0, 1), 0);
        due(55, "1: both", x.gets(1, 0, 1, 1), 2);
        due(54, "both shut", x.rests(0, 1), 8);
        due(54, "both shut", x.rests(1, 0), 8);
        due(55, "one twice", x.gets(1, 1, 0, 0), -1000);
        due(55, "no PEW", x.gets(0, 2, 0, 0), -1000);
        due(55, "no choice", x.gets(0, 1, 2, 0), -1000);
        due(55, "no choice", x.gets(0, 1, 0, -1), -1000);
        due(54, "one twice", x.rests(0, 0), -2);
        due(54, "no PEW", x.rests(0, 2), -2);
        due(54, "no PEW", x.rests(-1, 0), -2);
        String three = "night hours 2 law 0 odds 0; pew rest; pew rest; pew rest; aisle 1 2; light 0 1; light 2 1 2";
        due(54, "the first one shuts", Telling.told(three + " 3;").rests(0, 1), 2);
        due(54, "the other one shuts", Telling.told(three + " 3;").rests(1, 0), 4);
        due(54, "2 either way", Telling.told(three + ";").rests(0, 1), 10);
        TaperTalk way = Telling.told("night hours 2 law 0 odds 0; pew rest; pew rest; pew rest; aisle 0 1; aisle 1 2; light 0 1 2 3 4;");
        due(55, "no AISLE leads on from it", way.gets(2, 1, 0, 1), 0);
        due(55, "it leads on", way.gets(2, 1, 0, 0), 4);
        TaperTalk neither = Telling.told("night hours 2 law 0 odds 0; pew rest; pew rest; pew rest; aisle 0 2; aisle 1 2; light 2 1 2 3;");
        due(54, "neither shuts", neither.rests(0, 1), 1);
        neither.draught(0, 2);
        due(54, "acts count", neither.rests(0, 1), 2);
    }

    private static void chances() {
        TaperTalk x = Telling.told("night hours 3 law 0 odds 3; pew rest; pew rest; pew add 2; aisle 0 1; aisle 1 2; light 0 1;");
        long[][] chance = {{0, 0, 1, 1}, {1, 0, 7, 10}, {2, 0, 0, 1}, {1, 1, 91, 100}, {2, 1, 49, 100}, {1, 2, 973, 1000}, {2, 2, 98, 125}};
        for (long[] c : chance) {
            due(56, c[0] + " " + c[1], x.chance((int) c[0], (int) c[1], 0), c[2]);
            due(56, c[0] + " " + c[1], x.chance((int) c[0], (int) c[1], 1), c[3]);
        }
        long[][] mean = {{17, 10}, {289, 100}, {3541, 1000}};
        for (int h = 0; h < 3; h++) for (int w = 0; w < 2; w++) due(57, "HOUR " + h, x.mean(h, w), mean[h][w]);
        due(56, "the last", x.chance(0, 3, 0), -2);
        due(57, "the last", x.mean(3, 0), -2);
        due(56, "below", x.chance(0, -1, 0), -2);
        due(57, "below", x.mean(-1, 0), -2);
        due(56, "no PEW", x.chance(3, 0, 0), -2);
        due(56, "no what", x.chance(0, 0, 2), -2);
        due(57, "no what", x.mean(0, -1), -2);
        TaperTalk odd = Telling.told("night hours 12 law 0 odds 1; pew rest; pew rest; aisle 0 1; light 0 1;");
        due(56, "HOUR 7", odd.chance(1, 7, 0), 99999999);
        due(56, "HOUR 7", odd.chance(1, 7, 1), 100000000);
        due(57, "HOUR 7", odd.mean(7, 0), 199999999);
        due(57, "HOUR 7", odd.mean(7, 1), 100000000);
        due(56, "HOUR 8", odd.chance(1, 8, 0), -2);
        due(57, "HOUR 8", odd.mean(8, 0), -2);
        odd.light(1, 2, 4);
        due(56, "acts in SILENCE, too", odd.chance(1, 3, 0), 1);
        due(56, "10 nines of 10", Telling.told(PAIR.replace("drop", "rest").replace("odds 5", "odds 10")).chance(1, 1, 0), 0);
    }

    private static void draws() {
        StringBuilder text = new StringBuilder("night hours 10 law 0 odds 5;" + "pew rest;".repeat(7));
        for (int p = 0; p < 6; p++) text.append("aisle " + p + " " + (p + 1) + ";");
        text.append("light 0 1;");
        TaperTalk x = Telling.told(text.toString());
        // Of seed 1 the draws are 8 8 3 5 1 7 0 9 2 6 (those of the C standard's rand(), modulo 10).
        due(62, "below 5", x.drawn(1, 0), 340);
        due(62, "six times heard", x.drawn(1, 1), 127);
        due(63, "one night", x.luck(1, 1, 6), 1);
        TaperTalk six = Telling.told(text.toString().replace("odds 5", "odds 6"));
        due(62, "below 6", six.drawn(1, 0), 348);
        due(62, "five times heard", six.drawn(1, 1), 63);
        due(63, "one night", six.luck(1, 1, 6), 0);
        due(62, "the greatest seed", x.drawn(2000000000, 0) >= 0 ? 1 : 0, 1);
        due(62, "beyond", x.drawn(2000000001, 0), -2);
        due(62, "below 0", x.drawn(-1, 0), -2);
        due(62, "no what", x.drawn(1, 2), -2);
        due(62, "no what", x.drawn(1, -1), -2);
        TaperTalk one = Telling.told("night hours 1 law 0 odds 1; pew rest; pew rest; aisle 0 1; light 0 1;");
        due(62, "of seed 0 the draw is 0", one.drawn(0, 0), 1);
        due(63, "seed 0", one.luck(0, 1, 1), 0);
        due(63, "seeds 0 and 1", one.luck(0, 2, 1), 1);
        due(63, "the lit one", one.luck(0, 20, 0), 20);
        due(63, "n 0", one.luck(0, 0, 0), -2);
        due(63, "n 21", one.luck(0, 21, 0), -2);
        due(63, "seed below 0", one.luck(-1, 1, 0), -2);
        due(63, "seed beyond", one.luck(2000000001, 1, 0), -2);
        due(63, "the greatest seed", one.luck(2000000000, 20, 0), 20);
        due(63, "no PEW", one.luck(0, 1, 2), -2);
    }

    private static void hushesAndCounts() {
        TaperTalk x = Telling.told(A);
        int[] counts = {5, 0, 5, 5, 4, 1, 1, 0, 12, 0, 0};
        for (int w = 0; w < counts.length; w++) due(65, "what " + w, x.count(w), counts[w]);
        due(65, "others", x.count(11), -1);
        due(65, "others", x.count(-1), -1);
        due(65, "the LAW", Telling.told(NO_PEWS).count(1), 2);
        x.light(0, 1, 0);
        due(65, "acts", x.count(7), 1);
        due(64, "acts that are not taken back", x.hushes(2), -5);
        due(64, "no PEW is asked ahead", x.hushes(5), -2);
        x.undo();
        due(64, "drop", x.hushes(2), 2);
        due(64, "rest now", x.pew(2, 0), 0);
        due(64, "nothing dropped", x.letters(2, 5), 3);
        due(64, "rest stays", x.hushes(2), 0);
        due(64, "add", x.hushes(3), 3);
        due(64, "no LETTER", x.pew(3, 1), 0);
        due(64, "change", x.hushes(4), 4);
        due(64, "no LETTERS", x.pew(4, 1) + x.pew(4, 2), 0);
        due(64, "as heard", x.says(4, 5, 2), 1);
        due(64, "turn", x.hushes(1), 1);
        due(64, "sets are worth more", x.worth(8), 5);
        x.feed(0, 0, 0, 0, 0);
        x.row(3, 0, 0);
        x.row(0, 3, 60);
        due(65, "bytes", x.count(9), 20);
        due(65, "SLOTS that have a row, of none, too", x.count(10), 2);
    }

    private static void images() {
        TaperTalk x = new TaperTalk();
        due(66, "of no NIGHT", x.image(2), 0);
        due(66, "no such", x.image(3), -2);
        due(66, "no such", x.image(-1), -2);
        Telling.night(x, A);
        x.light(2, 4, 0);
        due(67, "nothing yet", x.back(0), -6);
        due(66, "with an act", x.image(0), 0);
        x.draught(0, 0);
        x.anew();
        x.hushes(3);
        due(66, "hushed", x.image(1), 0);
        Telling.night(x, PAIR);
        due(67, "with an act", x.back(0), 0);
        due(67, "its act", x.count(7), 1);
        due(67, "its LINES", x.count(8), 12);
        due(67, "its RULE", x.pew(3, 0), 3);
        due(67, "its course", x.says(2, 5, 0), 4);
        due(67, "its sets", x.worth(4), 5);
        x.undo();
        x.draught(0, 0);
        due(67, "kept for later", x.back(0), 0);
        due(67, "kept for later", x.says(2, 5, 0), 4);
        due(67, "hushed", x.back(1), 0);
        due(67, "hushed", x.pew(3, 0), 0);
        due(67, "no acts", x.count(7), 0);
        due(67, "none", x.back(2), 0);
        due(67, "there is none", x.lit(0), -2);
        due(67, "no such", x.back(3), -2);
        due(67, "no such", x.back(-1), -2);
    }

    private static void slots() {
        TaperTalk x = Telling.told(BASE + "pew rest;");
        due(68, "no SLOT", x.row(4, 0, 1), -2);
        due(68, "no SLOT", x.row(-1, 0, 1), -2);
        due(68, "no WIDTH", x.row(0, 4, 1), -2);
        due(68, "no WIDTH", x.row(0, -1, 1), -2);
        due(68, "61", x.row(0, 0, 61), -2);
        due(68, "no SLOT is asked ahead", x.row(4, 0, -1), -2);
        due(68, "below 0", x.row(0, 0, -1), -3);
        due(69, "nothing", x.write(0, 0, 1), -6);
        due(69, "no SLOT", x.write(4, 0, 1), -2);
        due(68, "60", x.row(0, 0, 60), 0);
        due(69, "the last", x.write(0, 59, 1), 0);
        due(69, "beyond", x.write(0, 60, 1), -7);
        due(69, "below", x.write(0, -1, 1), -7);
        Telling.row(x, 0, 1, 2, 3);
        due(68, "below 0, and it stays", x.row(0, 0, -1), -3);
        due(68, "it stays", x.heard(0, 0, 0, 2), 3);
        due(68, "in place of it, all 0", x.row(0, 0, 3), 0);
        due(68, "0 is no LETTER", x.hears(0, 0, 0), -2);
        long[] cut = {256 + 3, 65536 + 3, 4294967296L + 3, 3};
        for (int w = 0; w < 4; w++) {
            x.row(1, w, 1);
            due(69, "WIDTH " + w, x.write(1, 0, cut[w]), 0);
            due(69, "cut to WIDTH " + w, x.heard(1, 0, 0, 0), 3);
            if (w > 0) {
                x.write(1, 0, cut[w - 1]);
                due(69, "not cut by WIDTH " + w, x.heard(1, 0, 0, 0), -2);
            }
        }
        pastes(x);
    }

    private static void row(int promise, TaperTalk x, int slot, int... letters) {
        due(promise, "so many", x.hears(slot, 0, 0), letters.length);
        for (int i = 0; i < letters.length; i++) due(promise, "number " + i, x.heard(slot, 0, 0, i), letters[i]);
    }

    private static void pastes(TaperTalk x) {
        Telling.row(x, 0, 1, 2, 3, 4, 1);
        Telling.row(x, 1, 4, 4, 4);
        due(70, "two", x.paste(0, 1, 1, 0, 2), 0);
        row(70, x, 1, 2, 3, 4);
        row(70, x, 0, 1, 2, 3, 4, 1);
        due(70, "its own, on", x.paste(0, 0, 0, 1, 4), 0);
        row(70, x, 0, 1, 1, 2, 3, 4);
        due(70, "its own, back", x.paste(0, 1, 0, 0, 4), 0);
        row(70, x, 0, 1, 2, 3, 4, 4);
        due(70, "none", x.paste(0, 5, 1, 3, 0), 0);
        due(70, "beyond the first", x.paste(0, 4, 1, 0, 2), -7);
        due(70, "beyond the other", x.paste(0, 0, 1, 2, 2), -7);
        due(70, "n below 0", x.paste(0, 0, 1, 0, -1), -7);
        due(70, "a place below 0", x.paste(0, -1, 1, 0, 1), -7);
        due(70, "a place below 0", x.paste(0, 0, 1, -1, 1), -7);
        due(70, "sums that wrap", x.paste(0, MAX, 1, 0, MAX), -7);
        due(70, "sums that wrap", x.paste(0, 1, 1, MAX, MAX), -7);
        row(70, x, 1, 2, 3, 4);
        due(70, "no SLOT", x.paste(4, 0, 0, 0, 0), -2);
        due(70, "no SLOT", x.paste(0, 0, -1, 0, 0), -2);
        TaperTalk y = new TaperTalk();
        y.row(0, 0, 2);
        due(70, "one has nothing", y.paste(0, 0, 1, 0, 1), -6);
        due(70, "one has nothing", y.paste(1, 0, 0, 0, 1), -6);
        due(70, "no SLOT is asked ahead", y.paste(1, 0, 4, 0, 1), -2);
        y.row(1, 1, 2);
        due(70, "not of one WIDTH", y.paste(0, 0, 1, 0, 1), -8);
        due(70, "WIDTHS are asked ahead", y.paste(0, -1, 1, 0, 9), -8);
    }

    private static void wildArguments() {
        TaperTalk x = Telling.told(A);
        for (int v : new int[] {MIN, MAX, MIN + 1, 1 << 16}) {
            due(10, "wild", x.lit(v), -2);
            due(11, "wild", x.letters(v, v), -2);
            due(12, "wild", x.says(0, 0, v), v < 0 ? -2 : -1);
            due(33, "wild", x.told(0, v), -1);
            due(39, "wild", x.worth(v), -2);
            due(68, "wild", x.row(0, 0, v), v < 0 ? -3 : -2);
            due(62, "wild", x.drawn(v, 0), v == 1 << 16 ? x.drawn(1 << 16, 0) : -2);
            due(3, "wild", x.end(v), -1);
            due(65, "wild", x.count(v), -1);
            due(56, "wild", x.chance(0, v, 0), -2);
            due(66, "wild", x.image(v), -2);
            due(67, "wild", x.back(v), -2);
        }
    }
}
