/** Boundary cases of what is told, lit and said HOUR by HOUR: promises 6 to 31, terms II and III. */
public final class EdgeCourseTest {
    private static final String BASE = Edge.BASE;
    private static final String FIVE = Edge.FIVE;
    private static final String CHAIN = Edge.CHAIN;

    /** PEW p says 1 and p times 2, up to six LETTERS; 6 says 322222. */
    private static final String GROWING = "night hours 6 law 0 odds 0;pew rest;" + "pew add 2;".repeat(5) + "pew change 1 3;"
        + "aisle 0 1;aisle 1 2;aisle 2 3;aisle 3 4;aisle 4 5;aisle 5 6;light 0 1;";

    public static void main(String[] args) {
        pewAndNear();
        farAndTold();
        litAndSaid();
        fromAndSince();
        whenAndOften();
        fullDarkStill();
        sortsAndAlike();
        depths();
        longestShortestWords();
        turnedAndSpoken();
        taughtFreshGone();
        rules();
        lights();
        draughts();
        actsOfAnHour();
        lawTies();
        allAtOnce();
        refusals();
        Edge.end("EdgeCourseTest");
    }

    private static void due(int promise, String sentence, long got, long want) {
        Edge.due(promise, sentence, got, want);
    }

    // ---- promises 6 to 9

    private static void pewAndNear() {
        TaperTalk seven = Telling.told(BASE + "pew rest;pew turn;pew drop;pew add 1;pew add 4;pew change 1 4;pew change 4 1;aisle 6 0;");
        int[][] rules = {{0, 0, 0}, {1, 0, 0}, {2, 0, 0}, {3, 1, 0}, {3, 4, 0}, {4, 1, 4}, {4, 4, 1}};
        for (int p = 0; p < 7; p++) for (int w = 0; w < 3; w++) due(6, "PEW " + p + " what " + w, seven.pew(p, w), rules[p][w]);
        for (int p : Edge.outside(7)) due(6, "there is no such PEW " + p, seven.pew(p, 0), -2);
        for (int w : Edge.outside(3)) due(6, "there is no such what " + w, seven.pew(0, w), -2);
        TaperTalk none = Telling.told(Edge.EMPTY);
        due(6, "there are no PEWS", none.pew(0, 0), -2);
        due(7, "there are no PEWS", none.near(0), -2);
        due(8, "there are no PEWS", none.far(0, 0), -2);
        due(7, "the first and the last PEW", seven.near(0), 64);
        due(7, "the first and the last PEW", seven.near(6), 1);
        due(7, "no NEIGHBOURS", seven.near(3), 0);
        for (int p : Edge.outside(7)) due(7, "there is none such " + p, seven.near(p), -2);
        TaperTalk star = Telling.told(BASE + "pew rest;".repeat(7) + "aisle 3 0;aisle 1 3;aisle 3 2;aisle 4 3;aisle 3 5;aisle 6 3;");
        due(7, "all others", star.near(3), 119);
    }

    private static void farAndTold() {
        TaperTalk chain = Telling.told(CHAIN);
        for (int p = 0; p < 7; p++) for (int q = 0; q < 7; q++) due(8, p + " to " + q, chain.far(p, q), Math.abs(p - q));
        for (int p : Edge.outside(7)) {
            due(8, "there are none such", chain.far(p, 0), -2);
            due(8, "there are none such", chain.far(0, p), -2);
            due(8, "the same, but none such", chain.far(p, p), -2);
        }
        TaperTalk ring = Telling.told(BASE + "pew rest;".repeat(7) + "aisle 0 1;aisle 1 2;aisle 2 3;aisle 3 4;aisle 4 5;aisle 5 6;aisle 6 0;");
        due(8, "at least: the other way round", ring.far(0, 4), 3);
        due(8, "at least: the other way round", ring.far(0, 6), 1);
        TaperTalk apart = Telling.told(BASE + "pew rest;pew rest;pew rest;aisle 0 2;");
        due(8, "there is no way", apart.far(0, 1), -1);
        due(8, "there is no way", apart.far(1, 2), -1);
        due(8, "the same, without AISLES", apart.far(1, 1), 0);
        TaperTalk lights = Telling.told(BASE + "pew rest;light 0 1 2 3 4 1 2;light 0 4;light 0 3 3;light 0 2;");
        int[] six = {1, 2, 3, 4, 1, 2, -1, -1};
        for (int i = 0; i < 8; i++) due(9, "LETTER " + i, lights.told(0, i), six[i]);
        due(9, "one LETTER", lights.told(1, 0), 4);
        due(9, "there is no such place", lights.told(1, 1), -1);
        due(9, "the last LIGHT", lights.told(3, 0), 2);
        due(9, "a LIGHT of a PEW told again", lights.told(2, 1), 3);
        for (int i : new int[] {-1, -2, 6, 10, 11, 32, Edge.MAX, Edge.MIN}) due(9, "there is no such place " + i, lights.told(0, i), -1);
        for (int l : Edge.outside(4)) {
            due(9, "there is no such LIGHT " + l, lights.told(l, 0), -2);
            due(9, "there is no such LIGHT, no such place", lights.told(l, -1), -2);
        }
        due(9, "there is no LIGHT", Telling.told(BASE + "pew rest;").told(0, 0), -2);
    }

    // ---- promises 10 to 12

    private static void litAndSaid() {
        TaperTalk chain = Telling.told(CHAIN);
        for (int h = 0; h <= 12; h++) due(10, "HOUR " + h, chain.lit(h), (1 << Math.min(h, 6) + 1) - 1);
        for (int h : Edge.outside(13)) due(10, "there is no such HOUR " + h, chain.lit(h), -2);
        TaperTalk shortest = Telling.told("night hours 1 law 0 odds 0;pew rest;");
        due(10, "HOUR 0 of hours 1", shortest.lit(0), 0);
        due(10, "HOUR 1 of hours 1", shortest.lit(1), 0);
        due(10, "HOUR 2 of hours 1", shortest.lit(2), -2);
        due(10, "no PEWS, no bits", Telling.told(Edge.EMPTY).lit(3), 0);
        due(10, "no PEWS, no HOUR 4", Telling.told(Edge.EMPTY).lit(4), -2);
        int[] sizes = {1, 2, 3, 4, 5, 6, 6};
        TaperTalk growing = Telling.told(GROWING);
        for (int p = 0; p < 7; p++) {
            due(11, "PEW " + p, growing.letters(p, 6), sizes[p]);
            for (int h = 0; h < p; h++) due(11, "it is out", growing.letters(p, h), 0);
            due(12, "the last LETTER", growing.says(p, 6, sizes[p] - 1), p == 0 ? 1 : 2);
            due(12, "there is no such place", growing.says(p, 6, sizes[p]), -1);
            if (p > 0) due(12, "out: there is no such place", growing.says(p, p - 1, 0), -1);
            due(12, "out or not, i is below 0", growing.says(p, 0, -1), -2);
        }
        for (int i : new int[] {6, 7, 10, 11, 32, 64, Edge.MAX}) due(12, "there is no such place " + i, growing.says(5, 6, i), -1);
        for (int i : new int[] {-1, -2, -32, Edge.MIN}) due(12, "i is below 0 " + i, growing.says(5, 6, i), -2);
    }

    // ---- promises 13, 14

    private static void fromAndSince() {
        TaperTalk x = Telling.told(FIVE);
        int[][] from = {{-1, -1, -1, -1, -1, -1}, {-1, 0, 0, -1, 0, 0}, {-1, -1, 1, 1, 1, 1}, {-1, -1, -1, 2, 2, 2}, {-1, -1, 1, 1, 1, 1}};
        int[][] since = {{0, 0, 0, 0, 0, 0}, {-1, 1, 1, -1, 4, 4}, {-1, -1, 2, 2, 2, 2}, {-1, -1, -1, 3, 3, 3}, {-1, -1, 2, 2, 2, 2}};
        for (int p = 0; p < 5; p++) {
            for (int h = 0; h <= 5; h++) {
                due(13, "PEW " + p + " in HOUR " + h, x.from(p, h), from[p][h]);
                due(14, "PEW " + p + " in HOUR " + h, x.since(p, h), since[p][h]);
            }
        }
        x.light(1, 1, 2);
        due(13, "lit by an act in place of what was heard", x.from(1, 2), -1);
        due(13, "in the HOUR ahead of the act as it was", x.from(1, 1), 0);
        due(14, "an act is no break", x.since(1, 2), 1);
        x.light(1, 1, 1);
        due(13, "heard and lit by an act in one HOUR: an act", x.from(1, 1), -1);
        due(14, "heard and lit by an act in one HOUR", x.since(1, 1), 1);
        x.anew();
        x.light(0, 4, 0);
        due(13, "a LIGHT, an act", x.from(0, 0), -1);
        due(14, "a LIGHT, then an act in HOUR 0", x.since(0, 5), 0);
        x.anew();
        x.draught(0, 5);
        due(14, "out in the last HOUR", x.since(0, 5), -1);
        due(14, "lit in the one ahead", x.since(0, 4), 0);
        x.anew();
        x.draught(4, 1);
        due(14, "a DRAUGHT of a PEW that is out", x.since(4, 2), 2);
    }

    // ---- promises 15, 16

    private static void whenAndOften() {
        TaperTalk chain = Telling.told(CHAIN);
        for (int p = 0; p < 7; p++) {
            due(15, "PEW " + p, chain.when(p), p);
            due(16, "PEW " + p, chain.often(p), 13 - p);
        }
        chain.draught(6, 12);
        due(16, "not in the last HOUR", chain.often(6), 6);
        TaperTalk last = Telling.told("night hours 1 law 0 odds 0;pew rest;pew rest;pew rest;aisle 0 1;light 0 1;");
        due(15, "in the last HOUR alone", last.when(1), 1);
        due(16, "in the last HOUR alone", last.often(1), 1);
        due(15, "in none", last.when(2), -1);
        due(16, "in none", last.often(2), 0);
        due(16, "in all", last.often(0), 2);
        last.draught(1, 1);
        due(15, "heard, but put out in that HOUR: in none", last.when(1), -1);
        last.draught(0, 1);
        due(15, "in HOUR 0 alone", last.when(0), 0);
        due(16, "in HOUR 0 alone", last.often(0), 1);
        for (int p : Edge.outside(3)) {
            due(15, "there is none such " + p, last.when(p), -2);
            due(16, "there is none such " + p, last.often(p), -2);
        }
    }

    // ---- promises 17 to 19

    private static void fullDarkStill() {
        TaperTalk chain = Telling.told(CHAIN);
        due(17, "the first of several HOURS", chain.full(), 6);
        due(18, "none in no HOUR", chain.dark(), 0);
        due(19, "from 6 on to 12", chain.still(), 6);
        chain.draught(0, 6);
        due(17, "one is out then", chain.full(), 7);
        due(19, "out in HOUR 6 and lit in 7 as ahead", chain.still(), 7);
        chain.draught(3, 12);
        due(19, "the last HOUR alone", chain.still(), 12);
        TaperTalk one = Telling.told("night hours 2 law 0 odds 0;pew rest;light 0 1;");
        due(17, "in HOUR 0", one.full(), 0);
        due(19, "from HOUR 0 on", one.still(), 0);
        one.draught(0, 0);
        due(17, "in none", one.full(), -1);
        due(18, "the one PEW", one.dark(), 1);
        due(19, "nobody says anything from HOUR 0 on", one.still(), 0);
        one.light(0, 2, 2);
        due(17, "in the last HOUR alone", one.full(), 2);
        due(18, "lit in the last HOUR alone", one.dark(), 0);
        TaperTalk back = Telling.told("night hours 2 law 0 odds 0;pew rest;light 0 1;draught 0 at 1;");
        back.light(0, 1, 2);
        due(19, "as in HOUR 0, but not in between", back.still(), 2);
        TaperTalk other = Telling.told("night hours 2 law 0 odds 0;pew rest;light 0 1;");
        other.light(0, 2, 1);
        due(19, "lit all along, but saying otherwise ahead", other.still(), 1);
        due(18, "all PEWS", Telling.told(BASE + "pew rest;".repeat(7)).dark(), 127);
        TaperTalk early = Telling.told("night hours 2 law 0 odds 0;pew rest;light 0 1;draught 0 at 1;");
        due(18, "lit in HOUR 0 alone", early.dark(), 0);
        due(17, "in HOUR 0 alone", early.full(), 0);
        TaperTalk none = Telling.told(Edge.EMPTY);
        due(17, "there is no PEW", none.full(), -1);
        due(18, "there is no PEW", none.dark(), 0);
        due(19, "there is no PEW", none.still(), 0);
        due(29, "there is no PEW", none.deepest(), -1);
        TaperTalk silent = new TaperTalk();
        due(17, "there is no NIGHT", silent.full(), -2);
        due(18, "there is no NIGHT", silent.dark(), -2);
        due(19, "there is no NIGHT", silent.still(), -2);
        due(29, "there is no NIGHT", silent.deepest(), -2);
    }

    // ---- promises 20, 21

    private static void sortsAndAlike() {
        TaperTalk growing = Telling.told(GROWING);
        for (int h = 0; h <= 6; h++) due(20, "one more each HOUR", growing.sorts(h), h + 1);
        for (int p = 0; p < 7; p++) due(21, "itself alone", growing.alike(p, 6), 1 << p);
        due(21, "it is out, as others are", growing.alike(6, 5), 0);
        TaperTalk chain = Telling.told(CHAIN);
        for (int h = 0; h <= 12; h++) due(20, "all the same", chain.sorts(h), 1);
        for (int p = 0; p < 7; p++) due(21, "all the same", chain.alike(p, 12), 127);
        due(21, "those that are lit", chain.alike(0, 2), 7);
        due(21, "it is out", chain.alike(3, 2), 0);
        TaperTalk turned = Telling.told(BASE + "pew rest;pew turn;pew rest;aisle 0 1;light 0 1 2;light 2 1;");
        due(20, "1 2, 2 1 and 1 are unlike", turned.sorts(1), 3);
        TaperTalk longer = Telling.told(BASE + "pew rest;pew rest;pew rest;light 0 1;light 1 1 1;light 2 1;");
        due(20, "1 and 1 1 are unlike", longer.sorts(0), 2);
        due(21, "1 and 1", longer.alike(2, 0), 5);
        TaperTalk none = Telling.told(BASE + "pew rest;");
        due(20, "nobody says anything", none.sorts(0), 0);
        due(20, "there is no PEW", Telling.told(Edge.EMPTY).sorts(3), 0);
    }

    // ---- promises 22, 29

    private static void depths() {
        TaperTalk chain = Telling.told(CHAIN);
        for (int p = 0; p < 7; p++) {
            due(22, "by so many PEWS", chain.depth(p, 12), p);
            if (p > 0) due(22, "it is out", chain.depth(p, p - 1), -1);
        }
        due(29, "the last PEW's", chain.deepest(), 6);
        chain.light(3, 1, 8);
        due(22, "lit by an act", chain.depth(3, 8), 0);
        due(22, "ahead of the act", chain.depth(3, 7), 3);
        due(22, "heard ahead of the act: as it was then", chain.depth(4, 12), 4);
        chain.draught(4, 9);
        due(22, "hears the act", chain.depth(4, 10), 1);
        due(22, "heard one that went out since", chain.depth(5, 12), 5);
        TaperTalk turns = Telling.told("night hours 12 law 0 odds 0;pew rest;pew rest;aisle 0 1;light 0 1;");
        for (int h = 1; h < 12; h++) turns.draught(1 - h % 2, h);
        for (int h = 1; h <= 12; h++) due(22, "by turns in HOUR " + h, turns.depth(h % 2, h), h);
        due(29, "as deep as there are HOURS", turns.deepest(), 12);
        due(22, "out", turns.depth(0, 11), -1);
        due(29, "0 by a LIGHT, in HOUR 0 alone", Telling.told(BASE + "pew rest;light 0 1;draught 0 at 1;").deepest(), 0);
        due(29, "0 by a LIGHT", Telling.told(BASE + "pew rest;light 0 1;").deepest(), 0);
        due(29, "none is lit", Telling.told(BASE + "pew rest;").deepest(), -1);
        TaperTalk gone = Telling.told(BASE + "pew rest;pew rest;aisle 0 1;light 0 1;draught 1 at 2;draught 1 at 3;");
        due(29, "the greatest, in HOUR 1 alone", gone.deepest(), 1);
    }

    // ---- promises 23 to 25

    private static void longestShortestWords() {
        TaperTalk growing = Telling.told(GROWING);
        int[] longest = {0, 1, 2, 3, 4, 5, 5};
        int[] words = {1, 3, 6, 10, 15, 21, 27};
        for (int h = 0; h <= 6; h++) {
            due(23, "the first of several", growing.longest(h), longest[h]);
            due(24, "one LETTER", growing.shortest(h), 0);
            due(25, "all together", growing.words(h), words[h]);
        }
        TaperTalk last = Telling.told(BASE + "pew rest;".repeat(7) + "light 6 1 2;");
        due(23, "the last PEW alone", last.longest(0), 6);
        due(24, "the last PEW alone", last.shortest(0), 6);
        TaperTalk two = Telling.told(BASE + "pew rest;pew rest;pew rest;light 0 1 2;light 1 1;light 2 1;");
        due(24, "the first of several", two.shortest(0), 1);
        due(23, "one is longest", two.longest(0), 0);
        TaperTalk chain = Telling.told(CHAIN);
        due(25, "six LETTERS of seven PEWS", chain.words(12), 42);
        due(23, "the first of seven", chain.longest(12), 0);
        due(24, "the first of seven, six LETTERS", chain.shortest(12), 0);
        TaperTalk none = Telling.told(BASE + "pew rest;");
        for (int h = 0; h <= 3; h++) {
            due(23, "none is lit", none.longest(h), -1);
            due(24, "none is lit", none.shortest(h), -1);
            due(25, "none is lit", none.words(h), 0);
        }
        TaperTalk empty = Telling.told(Edge.EMPTY);
        due(23, "there is no PEW", empty.longest(0), -1);
        due(24, "there is no PEW", empty.shortest(3), -1);
        due(25, "there is no PEW", empty.words(3), 0);
    }

    // ---- promises 26, 27

    private static void turnedAndSpoken() {
        TaperTalk chain = Telling.told(CHAIN);
        for (int h = 0; h <= 12; h++) due(26, "lit then alone, HOUR " + h, chain.turned(h), h <= 6 ? 1 << h : 0);
        TaperTalk x = Telling.told("night hours 3 law 0 odds 0;pew rest;pew rest;pew rest;light 0 1;light 1 2 2;draught 1 at 2;draught 2 at 2;");
        x.light(0, 1, 1);
        due(26, "in HOUR 0: that are lit", x.turned(0), 3);
        due(26, "lit again by the same LETTER says the same", x.turned(1), 0);
        due(26, "out then, and out in both", x.turned(2), 2);
        due(26, "the last HOUR", x.turned(3), 0);
        x.light(0, 3, 3);
        due(26, "the last HOUR, another LETTER", x.turned(3), 1);
        x.light(1, 2, 3);
        due(26, "lit then alone", x.turned(3), 3);
        int[] spoken = {0, 14, 14, 7, 7};
        for (int k = 1; k <= 4; k++) {
            due(27, "LETTER " + k + " in all", chain.spoken(k, 12), spoken[k]);
            due(27, "LETTER " + k + " in HOUR 0", chain.spoken(k, 0), spoken[k] / 7);
        }
        for (int k : new int[] {0, -1, 5, 6, 7, 8, 9, 32, 256, Edge.MIN, Edge.MAX}) due(27, "there is no such LETTER " + k, chain.spoken(k, 0), -2);
        TaperTalk ones = Telling.told(CHAIN.replace("1 2 3 4 1 2", "1 1 1 1 1 1"));
        due(27, "one LETTER 42 times", ones.spoken(1, 12), 42);
        due(27, "a LETTER that nobody says", ones.spoken(4, 12), 0);
        due(27, "there is no PEW", Telling.told(Edge.EMPTY).spoken(1, 0), 0);
    }

    // ---- promises 28, 30, 31

    private static void taughtFreshGone() {
        TaperTalk chain = Telling.told(CHAIN);
        for (int p = 0; p < 7; p++) due(28, "the one behind it", chain.taught(p), p == 6 ? 0 : 1 << p + 1);
        for (int h = 0; h <= 12; h++) {
            due(30, "since HOUR " + h, chain.fresh(h), h <= 6 ? 1 << h : 0);
            due(31, "none is gone", chain.gone(h), 0);
        }
        chain.draught(1, 1);
        due(28, "heard it, but put out in that HOUR; then lit", chain.taught(0), 2);
        due(30, "put out in the HOUR it would be lit", chain.fresh(1), 0);
        due(31, "it was not lit ahead", chain.gone(1), 0);
        due(30, "an HOUR later", chain.fresh(2), 2);
        TaperTalk once = Telling.told("night hours 1 law 0 odds 0;pew rest;pew rest;aisle 0 1;light 0 1;draught 1 at 1;");
        due(28, "put out in that HOUR: in none", once.taught(0), 0);
        TaperTalk act = Telling.told("night hours 1 law 0 odds 0;pew rest;pew rest;aisle 0 1;light 0 1;");
        due(28, "in the last HOUR", act.taught(0), 2);
        act.light(1, 1, 1);
        due(28, "lit by an act in that HOUR", act.taught(0), 0);
        TaperTalk many = Telling.told(BASE + "pew rest;".repeat(7) + "aisle 0 1;aisle 0 2;aisle 0 3;aisle 0 4;aisle 0 5;aisle 0 6;light 0 1;");
        due(28, "all others", many.taught(0), 126);
        many.draught(0, 1);
        due(28, "0 hears 1 then", many.taught(1), 1);
        due(28, "all others still", many.taught(0), 126);
        due(31, "gone in HOUR 1", many.gone(1), 1);
        due(30, "lit again in HOUR 2", many.fresh(2), 1);
        due(31, "not gone any more", many.gone(2), 0);
        many.draught(6, 3);
        due(31, "gone in the last HOUR", many.gone(3), 64);
        due(31, "in HOUR 0 none was lit ahead", many.gone(0), 0);
        many.light(0, 2, 3);
        due(30, "an act of a PEW that is lit: not since it", many.fresh(3), 0);
        many.light(6, 2, 3);
        due(31, "a DRAUGHT comes behind the act", many.gone(3), 64);
        TaperTalk zero = Telling.told(BASE + "pew rest;pew rest;light 0 1;light 1 1;draught 0 at 0;");
        due(30, "in HOUR 0 those that are lit", zero.fresh(0), 2);
        due(31, "put out in HOUR 0: in none ahead", zero.gone(0), 0);
    }

    // ---- terms II: RULES at one LETTER and at six

    private static String said(TaperTalk x, int pew, int hour) {
        StringBuilder s = new StringBuilder();
        for (int i = 0; i < x.letters(pew, hour); i++) s.append(x.says(pew, hour, i));
        return s.toString();
    }

    private static void rule(String rule, String hears, String says) {
        String light = String.join(" ", hears.split(""));
        TaperTalk x = Telling.told("night hours 1 law 0 odds 0;pew rest;pew " + rule + ";aisle 0 1;light 0 " + light + ";");
        due(12, rule + " hears " + hears + " says " + said(x, 1, 1), said(x, 1, 1).equals(says) ? 1 : 0, 1);
        due(12, "the one that is heard says what it did", said(x, 0, 1).equals(hears) ? 1 : 0, 1);
        due(10, rule + " hears " + hears, x.lit(1), says.isEmpty() ? 1 : 3);
        Telling.row(x, 0, hears.chars().map(c -> c - '0').toArray());
        due(32, rule + " hears " + hears, x.hears(0, 1, 0), says.length());
    }

    private static void rules() {
        rule("rest", "1", "1");
        rule("rest", "123412", "123412");
        rule("turn", "1", "1");
        rule("turn", "12", "21");
        rule("turn", "112", "211");
        rule("turn", "1234", "4321");
        rule("turn", "12344", "44321");
        rule("turn", "123411", "114321");
        rule("drop", "1", "");
        rule("drop", "12", "1");
        rule("drop", "123412", "12341");
        rule("add 1", "4", "41");
        rule("add 4", "1", "14");
        rule("add 3", "1234", "12343");
        rule("add 3", "12341", "123413");
        rule("add 3", "123412", "123412");
        rule("change 1 2", "1", "2");
        rule("change 1 2", "2", "2");
        rule("change 1 4", "111111", "444444");
        rule("change 4 1", "434214", "131211");
        rule("change 3 2", "123412", "122412");
        rule("change 2 1", "343434", "343434");
    }

    // ---- terms III: LIGHTS, DRAUGHTS, acts, LAWS

    private static void lights() {
        TaperTalk x = Telling.told(BASE + "pew rest;pew rest;light 0 1 2 3 4 1 2;light 1 4;light 0 3;light 1 2 2;");
        due(12, "of a PEW told again the last: shorter", said(x, 0, 0).equals("3") ? 1 : 0, 1);
        due(12, "of a PEW told again the last: longer", said(x, 1, 0).equals("22") ? 1 : 0, 1);
        due(9, "told as it was", x.told(0, 5), 2);
        x.light(0, 4, 0);
        due(12, "an act of HOUR 0 in place of that", said(x, 0, 0).equals("4") ? 1 : 0, 1);
        x.light(0, 1, 0);
        due(12, "of two acts the last", said(x, 0, 0).equals("1") ? 1 : 0, 1);
        x.undo();
        due(12, "taken back", said(x, 0, 0).equals("4") ? 1 : 0, 1);
        TaperTalk drop = Telling.told(BASE + "pew drop;pew turn;light 0 1;light 1 1 2;");
        due(12, "what is told first is not changed by a RULE", said(drop, 0, 0).equals("1") ? 1 : 0, 1);
        due(12, "what is told first is not changed by a RULE", said(drop, 1, 0).equals("12") ? 1 : 0, 1);
        drop.light(0, 2, 3);
        due(12, "nor is an act", said(drop, 0, 3).equals("2") ? 1 : 0, 1);
    }

    private static void draughts() {
        String two = "night hours 2 law 0 odds 0;pew rest;pew rest;aisle 0 1;light 0 1;";
        due(10, "at 0: LIGHTS are put out", Telling.told(two + "draught 0 at 0;").lit(0), 0);
        due(10, "at 0: and nobody hears them", Telling.told(two + "draught 0 at 0;").lit(2), 0);
        due(10, "at 1: heard ahead of it", Telling.told(two + "draught 0 at 1;").lit(1), 2);
        due(10, "at 1: lit again", Telling.told(two + "draught 0 at 1;").lit(2), 3);
        due(10, "at the last HOUR", Telling.told(two + "draught 0 at 2;").lit(2), 2);
        due(10, "behind the last HOUR", Telling.told(two + "draught 0 at 3;").lit(2), 3);
        due(10, "behind the last HOUR", Telling.told(two + "draught 0 at 11;").lit(2), 3);
        due(10, "twice is once", Telling.told(two + "draught 0 at 2;draught 0 at 2;").lit(2), 2);
        due(10, "both", Telling.told(two + "draught 0 at 1;draught 1 at 1;").lit(2), 0);
        TaperTalk x = Telling.told("night hours 12 law 0 odds 0;pew rest;light 0 1;draught 0 at 11;");
        due(10, "at 11", x.lit(10) * 4 + x.lit(11) * 2 + x.lit(12), 4);
        x.light(0, 3, 12);
        due(10, "lit again by an act in HOUR 12", x.lit(12), 1);
        due(14, "lit again by an act in HOUR 12", x.since(0, 12), 12);
    }

    private static void actsOfAnHour() {
        TaperTalk x = Telling.told("night hours 3 law 0 odds 0;pew rest;pew rest;pew rest;aisle 0 1;aisle 1 2;light 0 1 2;");
        x.light(1, 3, 1);
        due(12, "it would hear 1 2, but an act lights it", x.says(1, 1, 0), 3);
        due(11, "with one LETTER", x.letters(1, 1), 1);
        due(12, "the act is heard", x.says(2, 2, 0), 3);
        x.draught(1, 1);
        due(11, "DRAUGHTS come behind lights", x.letters(1, 1), 0);
        due(12, "it hears 0 an HOUR later", x.says(1, 2, 1), 2);
        x.anew();
        x.draught(0, 0);
        x.light(0, 4, 0);
        due(11, "DRAUGHTS come behind lights, whichever act was first", x.letters(0, 0), 0);
        x.anew();
        x.light(2, 4, 3);
        due(12, "in the last HOUR", x.says(2, 3, 0), 4);
        due(12, "nothing of it ahead", x.says(2, 2, 0), 1);
        x.anew();
        x.light(1, 4, 2);
        due(12, "to the next HOUR, not to the same: 2 heard 1 2", x.says(2, 2, 0), 1);
        due(12, "a lit PEW hears nothing", x.says(2, 3, 0), 1);
    }

    private static void lawTies() {
        String three = "night hours 1 law 0 odds 0;pew rest;pew rest;pew rest;pew rest;aisle 3 0;aisle 2 3;aisle 3 1;";
        for (int first = 0; first < 2; first++) {
            String lights = (first == 0 ? "light 0 1;" : "") + "light 1 2;light 2 3;";
            for (int law = 0; law < 4; law++) {
                TaperTalk x = Telling.told(three.replace("law 0", "law " + law) + lights);
                int due = law == 1 ? 2 : first;
                due(13, "LAW " + law + ": of several alike the first, by 1 the last", x.from(3, 1), due);
                due(49, "LAW " + law, x.by(law), first == 0 ? 15 : 14);
            }
        }
        TaperTalk longer = Telling.told(three.replace("law 0", "law 2") + "light 0 1;light 1 1 2;light 2 3 4;");
        due(13, "LAW 2: the longest, the first of several", longer.from(3, 1), 1);
        longer.light(1, 1, 0);
        due(13, "LAW 2: an act has one LETTER", longer.from(3, 1), 2);
        longer.draught(2, 0);
        due(13, "LAW 2: all alike", longer.from(3, 1), 0);
        TaperTalk since = Telling.told(three.replace("law 0", "law 3").replace("hours 1", "hours 3")
            + "light 0 1;light 1 1;light 2 1;draught 3 at 1;draught 3 at 2;");
        due(13, "LAW 3: all since HOUR 0", since.from(3, 3), 0);
        since.light(2, 1, 1);
        due(13, "LAW 3: an act of a lit one is no break", since.from(3, 3), 0);
        since.draught(1, 1);
        since.light(1, 1, 2);
        due(13, "LAW 3: out, and lit again", since.from(3, 3), 1);
        since.draught(2, 1);
        since.light(2, 1, 2);
        due(13, "LAW 3: the first of several", since.from(3, 3), 1);
        due(13, "a NEIGHBOUR that is out is not heard", Telling.told(three + "light 1 2;light 2 3;draught 1 at 0;").from(3, 1), 2);
        TaperTalk no = Telling.told(three.replace("pew rest;aisle", "pew drop;aisle") + "light 0 1;light 1 1 2;");
        due(10, "one is heard, not another if nothing is left of it", no.lit(1), 3);
    }

    private static void allAtOnce() {
        TaperTalk x = Telling.told("night hours 2 law 0 odds 0;pew rest;pew rest;pew rest;aisle 0 1;aisle 1 2;light 0 1;");
        due(10, "all at once: 2 does not hear 1 in HOUR 1", x.lit(1), 3);
        due(10, "but in HOUR 2", x.lit(2), 7);
        TaperTalk down = Telling.told("night hours 2 law 0 odds 0;pew rest;pew rest;pew rest;aisle 0 1;aisle 1 2;light 2 1;");
        due(10, "all at once, downwards", down.lit(1), 6);
        TaperTalk none = Telling.told("night hours 2 law 0 odds 0;pew rest;pew drop;pew rest;aisle 0 1;aisle 1 2;light 0 1;");
        due(10, "nothing is left: it is not lit, nor those behind it", none.lit(2), 1);
        none.light(2, 4, 0);
        due(10, "LAW 0 hears the first again and again", none.lit(2), 5);
    }

    // ---- what refused calls answer and leave as it was

    private static void refusals() {
        for (int p : Edge.outside(5)) {
            Edge.refused(6, "there are none such: PEW " + p, -2, x -> x.pew(p, 0));
            Edge.refused(7, "there is none such: PEW " + p, -2, x -> x.near(p));
            Edge.refused(8, "there are none such: PEW " + p, -2, x -> x.far(p, 0));
            Edge.refused(8, "there are none such: PEW " + p, -2, x -> x.far(4, p));
            Edge.refused(11, "there are none such: PEW " + p, -2, x -> x.letters(p, 5));
            Edge.refused(12, "there are none such: PEW " + p, -2, x -> x.says(p, 5, 0));
            Edge.refused(13, "there are none such: PEW " + p, -2, x -> x.from(p, 5));
            Edge.refused(14, "there are none such: PEW " + p, -2, x -> x.since(p, 5));
            Edge.refused(15, "there is none such: PEW " + p, -2, x -> x.when(p));
            Edge.refused(16, "there is none such: PEW " + p, -2, x -> x.often(p));
            Edge.refused(21, "there are none such: PEW " + p, -2, x -> x.alike(p, 5));
            Edge.refused(22, "there are none such: PEW " + p, -2, x -> x.depth(p, 5));
            Edge.refused(28, "there is none such: PEW " + p, -2, x -> x.taught(p));
        }
        for (int h : Edge.outside(6)) {
            Edge.refused(10, "there is no such HOUR " + h, -2, x -> x.lit(h));
            Edge.refused(11, "there is no such HOUR " + h, -2, x -> x.letters(4, h));
            Edge.refused(12, "there is no such HOUR " + h, -2, x -> x.says(4, h, 0));
            Edge.refused(13, "there is no such HOUR " + h, -2, x -> x.from(4, h));
            Edge.refused(14, "there is no such HOUR " + h, -2, x -> x.since(4, h));
            Edge.refused(20, "there is no such HOUR " + h, -2, x -> x.sorts(h));
            Edge.refused(21, "there is no such HOUR " + h, -2, x -> x.alike(4, h));
            Edge.refused(22, "there is no such HOUR " + h, -2, x -> x.depth(4, h));
            Edge.refused(23, "there is no such HOUR " + h, -2, x -> x.longest(h));
            Edge.refused(24, "there is no such HOUR " + h, -2, x -> x.shortest(h));
            Edge.refused(25, "there is no such HOUR " + h, -2, x -> x.words(h));
            Edge.refused(26, "there is no such HOUR " + h, -2, x -> x.turned(h));
            Edge.refused(27, "there is no such HOUR " + h, -2, x -> x.spoken(4, h));
            Edge.refused(30, "there is no such HOUR " + h, -2, x -> x.fresh(h));
            Edge.refused(31, "there is no such HOUR " + h, -2, x -> x.gone(h));
        }
        for (int l : Edge.outside(1)) Edge.refused(9, "there is no such LIGHT " + l, -2, x -> x.told(l, 0));
        for (int k : new int[] {0, 5, -1, Edge.MIN, Edge.MAX}) Edge.refused(27, "there is no such LETTER " + k, -2, x -> x.spoken(k, 5));
        TaperTalk none = new TaperTalk();
        due(20, "no NIGHT", none.sorts(0), -2);
        due(23, "no NIGHT", none.longest(0), -2);
        due(24, "no NIGHT", none.shortest(0), -2);
        due(25, "no NIGHT", none.words(0), -2);
        due(26, "no NIGHT", none.turned(0), -2);
        due(27, "no NIGHT", none.spoken(1, 0), -2);
        due(30, "no NIGHT", none.fresh(0), -2);
        due(31, "no NIGHT", none.gone(0), -2);
    }
}
