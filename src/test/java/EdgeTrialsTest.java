/** Boundary cases of what would be otherwise: promises 38 to 44, 49 to 57, 62 and 63, terms IV and VII to X. */
public final class EdgeTrialsTest {
    private static final int MIN = Edge.MIN;
    private static final int MAX = Edge.MAX;
    private static final String BASE = Edge.BASE;
    private static final String EMPTY = Edge.EMPTY;
    private static final String APART = BASE + "pew rest;".repeat(7);
    private static final String STAR = "night hours 1 law 0 odds 0;" + "pew rest;".repeat(7)
        + "aisle 0 1;aisle 0 2;aisle 0 3;aisle 0 4;aisle 0 5;aisle 0 6;";
    private static final String ONE_HOUR = "night hours 1 law 0 odds 5;pew rest;pew rest;aisle 0 1;light 0 1;";

    public static void main(String[] args) {
        best();
        worth();
        alone();
        share();
        shareBelowZero();
        fewestAndSets();
        gust();
        guard();
        byAndLaw();
        rector();
        replies();
        gets();
        rests();
        chanceHours();
        chanceOdds();
        longFractions();
        drawn();
        luck();
        noNight();
        Edge.end("EdgeTrialsTest");
    }

    private static void due(int promise, String sentence, long got, long want) {
        Edge.due(promise, sentence, got, want);
    }

    // ---- promises 38, 39, terms IV and VII

    private static void best() {
        due(38, "the first of several", Telling.told(APART).best(), 0);
        due(38, "there are none", Telling.told(EMPTY).best(), -1);
        due(38, "the one PEW", Telling.told(BASE + "pew rest;").best(), 0);
        due(38, "the last PEW", Telling.told(BASE + "pew rest;".repeat(7) + "aisle 5 6;draught 5 at 0;").best(), 6);
        due(38, "none lights any: the first", Telling.told(BASE + "pew rest;pew rest;draught 0 at 3;draught 1 at 3;").best(), 0);
        due(38, "0 is out at last", Telling.told(BASE + "pew rest;pew rest;draught 0 at 3;").best(), 1);
        due(38, "in one HOUR the middle lights most", Telling.told(STAR.replace("aisle 0 ", "aisle 4 ").replace("aisle 4 4;", "aisle 4 0;")).best(), 4);
    }

    private static void worth() {
        TaperTalk seven = Telling.told(APART);
        for (int set = 0; set < 128; set++) due(39, "each for itself", seven.worth(set), Integer.bitCount(set));
        for (int set : new int[] {128, 129, 255, 256, -1, -128, 1 << 16, 1 << 31, MIN, MAX}) due(39, "there is no such set " + set, seven.worth(set), -2);
        TaperTalk one = Telling.told(BASE + "pew rest;");
        due(39, "the empty set", one.worth(0), 0);
        due(39, "the whole set", one.worth(1), 1);
        due(39, "there is no such set", one.worth(2), -2);
        due(39, "there is no such set, though one is of it", one.worth(3), -2);
        due(39, "the empty set of no PEWS", Telling.told(EMPTY).worth(0), 0);
        due(39, "no PEWS, no such set", Telling.told(EMPTY).worth(1), -2);
        for (int set : new int[] {32, 63, 64, -1, MIN, MAX}) Edge.refused(39, "there is no such set " + set, -2, x -> x.worth(set));
    }

    private static void alone() {
        TaperTalk x = Telling.told("night hours 2 law 0 odds 0;pew rest;pew drop;pew rest;pew rest;aisle 0 1;aisle 2 3;light 0 1 2;light 2 1;draught 3 at 2;");
        due(39, "LIGHTS don't count", x.worth(0), 0);
        due(39, "LETTER 1 alone: 1 drops it", x.worth(1), 1);
        due(39, "DRAUGHTS told do", x.worth(4), 1);
        x.light(1, 1, 0);
        x.light(1, 1, 1);
        x.light(1, 1, 2);
        due(39, "lights of acts don't count, of whatever HOUR", x.worth(0), 0);
        due(39, "lights of acts don't count, of whatever HOUR", x.worth(1), 1);
        due(10, "though now they do", x.lit(2), 7);
        x.draught(2, 0);
        due(39, "DRAUGHTS of acts do, of HOUR 0", x.worth(4), 0);
        x.draught(0, 2);
        due(39, "DRAUGHTS of acts do, of the last HOUR", x.worth(1), 0);
        x.anew();
        due(39, "taken back", x.worth(5), 2);
        x.hushes(1);
        due(39, "1 is of rest now", x.worth(1), 2);
    }

    // ---- promise 40: share

    private static void share(TaperTalk x, int pew, int above, int below) {
        due(40, "above, of PEW " + pew, x.share(pew, 0), above);
        due(40, "below, of PEW " + pew, x.share(pew, 1), below);
    }

    private static void share() {
        TaperTalk apart = Telling.told(APART);
        for (int p = 0; p < 7; p++) share(apart, p, 1, 1);
        TaperTalk star = Telling.told(STAR);
        share(star, 0, 22, 7);
        for (int p = 1; p < 7; p++) share(star, p, 9, 14);
        share(Telling.told(BASE + "pew rest;"), 0, 1, 1);
        share(Telling.told(BASE + "pew rest;draught 0 at 3;"), 0, 0, 1);
        share(Telling.told(ONE_HOUR), 1, 1, 1);
        TaperTalk none = Telling.told(EMPTY);
        due(40, "there are no PEWS", none.share(0, 0), -2);
        for (int p : Edge.outside(5)) {
            Edge.refused(40, "there are none such: PEW " + p, -2, x -> x.share(p, 0));
            Edge.refused(40, "there are none such: PEW " + p, -2, x -> x.share(p, 1));
        }
        for (int w : Edge.outside(2)) Edge.refused(40, "there are none such: what " + w, -2, x -> x.share(4, w));
    }

    private static void shareBelowZero() {
        // If 0 and 2 are lit, 1 hears 0 in place of 3 and drops it: one fewer by 0, in 2 of 24 orders. 0 is out at last.
        TaperTalk x = Telling.told("night hours 2 law 0 odds 0;pew rest;pew drop;pew rest;pew add 1;aisle 0 1;aisle 1 3;aisle 2 3;draught 0 at 2;");
        share(x, 0, -1, 12);
        share(x, 1, 19, 12);
        share(x, 2, 11, 12);
        share(x, 3, 7, 12);
    }

    // ---- promises 41, 42

    private static void fewest(String sentence, String text, int many, int set) {
        TaperTalk x = Telling.told(text);
        due(41, sentence, x.fewest(), many);
        due(42, sentence, x.sets(), set);
    }

    private static void fewestAndSets() {
        fewest("no PEWS: the empty set", EMPTY, 0, 0);
        fewest("the one PEW", BASE + "pew rest;", 1, 1);
        fewest("all seven", APART, 7, 127);
        fewest("the first of seven", Edge.CHAIN, 1, 1);
        fewest("the middle one", STAR, 1, 1);
        fewest("the last one", STAR.replace("aisle 0 ", "aisle 6 ").replace("aisle 6 6;", "aisle 6 0;"), 1, 64);
        fewest("the least set of two", "night hours 1 law 0 odds 0;" + "pew rest;".repeat(4) + "aisle 0 1;aisle 2 3;", 2, 5);
        fewest("so few ahead of so least", "night hours 1 law 0 odds 0;pew rest;pew rest;pew rest;aisle 0 2;aisle 1 2;", 1, 4);
        fewest("put out at last: none do", BASE + "pew rest;pew rest;aisle 0 1;draught 1 at 3;", -1, -1);
        fewest("a drop hears one LETTER: it is of the set", BASE + "pew rest;pew drop;aisle 0 1;", 1, 2);
        fewest("0 is an HOUR too slow", "night hours 5 law 0 odds 0;" + Edge.CHAIN.substring(Edge.CHAIN.indexOf("pew")), 1, 2);
    }

    // ---- promises 43, 44

    private static void gust() {
        TaperTalk x = Telling.told(ONE_HOUR);
        due(43, "HOUR 0: nobody hears it", x.gust(0), 0);
        due(43, "the last HOUR, the first of several", x.gust(1), 0);
        due(43, "there is no such HOUR", x.gust(2), -2);
        x.draught(0, 1);
        due(43, "0 is out then", x.gust(1), 1);
        x.draught(1, 1);
        due(43, "none is fewer than none", x.gust(1), -1);
        due(43, "none is fewer than none", x.gust(0), -1);
        x.anew();
        x.light(1, 4, 1);
        due(43, "HOUR 0: the act lights 1 still", x.gust(0), 0);
        x.draught(0, 0);
        due(43, "the act is put out, behind all else", x.gust(1), 1);
        due(43, "no gust of HOUR 0 puts it out", x.gust(0), -1);
        TaperTalk back = Telling.told("night hours 2 law 0 odds 0;pew rest;pew rest;aisle 0 1;light 0 1;");
        due(43, "HOUR 1: whichever is out is lit again", back.gust(1), -1);
        due(43, "HOUR 2: one fewer", back.gust(2), 0);
        TaperTalk seven = Telling.told(APART + "light 6 1;");
        for (int h = 0; h <= 3; h++) due(43, "the last PEW", seven.gust(h), 6);
        for (int h = 0; h <= 12; h++) due(43, "seven PEWS, twelve hours: out in HOUR 0, or in the last", Telling.told(Edge.CHAIN).gust(h), h == 0 || h == 12 ? 0 : -1);
        due(43, "no PEWS: none", Telling.told(EMPTY).gust(3), -1);
        due(43, "no PEWS, no such HOUR", Telling.told(EMPTY).gust(4), -2);
        TaperTalk few = Telling.told("night hours 2 law 0 odds 0;pew rest;pew rest;pew rest;pew rest;aisle 1 2;aisle 1 3;light 0 1;light 1 1;");
        due(43, "fewest, not the first that is fewer", few.gust(0), 1);
        for (int h : Edge.outside(6)) Edge.refused(43, "there is no such HOUR " + h, -2, z -> z.gust(h));
    }

    private static void guard() {
        String three = "night hours 2 law 0 odds 0;pew rest;pew rest;pew rest;aisle 1 2;light 0 1;light 1 1;";
        due(44, "none told", Telling.told(three).guard(), -1);
        due(44, "no PEWS", Telling.told(EMPTY).guard(), -1);
        due(44, "the first DRAUGHT", Telling.told(three + "draught 0 at 2;").guard(), 0);
        due(44, "the sixth DRAUGHT", Telling.told(three + "draught 0 at 3;".repeat(5) + "draught 0 at 2;").guard(), 5);
        due(44, "no more than now: behind the last HOUR", Telling.told(three + "draught 0 at 3;").guard(), -1);
        due(44, "no more than now: told twice", Telling.told(three + "draught 0 at 2;draught 0 at 2;").guard(), -1);
        due(44, "no more than now: it is lit again", Telling.told(three + "draught 1 at 1;").guard(), -1);
        due(44, "the first of several", Telling.told(three + "draught 0 at 2;draught 1 at 2;").guard(), 0);
        due(44, "most, not the first that is more", Telling.told(three + "draught 0 at 0;draught 1 at 0;").guard(), 1);
        TaperTalk x = Telling.told(three + "draught 0 at 2;");
        x.draught(1, 2);
        due(44, "an act is no DRAUGHT told", x.guard(), 0);
        x.draught(0, 2);
        due(44, "an act puts it out, too", x.guard(), -1);
        TaperTalk acts = Telling.told(three);
        acts.draught(0, 2);
        due(44, "of acts none is told", acts.guard(), -1);
    }

    // ---- promises 49, 50

    private static void byAndLaw() {
        String text = "night hours 2 law 3 odds 0;pew rest;pew rest;pew rest;aisle 0 2;aisle 1 2;light 0 1;light 1 1 2;";
        TaperTalk x = Telling.told(text);
        for (int l = 0; l < 4; l++) due(49, "by LAW " + l, x.by(l), 7);
        for (int l : Edge.outside(4)) due(49, "there is none such " + l, x.by(l), -2);
        due(50, "five LETTERS by LAWS 1 and 2: the least", x.law(), 1);
        due(50, "law() alone", Telling.told(text).law(), 1);
        due(65, "the LAW told stays", x.count(1), 3);
        due(11, "and is kept to", x.letters(2, 2), 1);
        TaperTalk drop = Telling.told(text.replace("pew rest;aisle", "pew drop;aisle"));
        int[] lit = {3, 7, 7, 3};
        for (int l = 0; l < 4; l++) due(49, "a drop by LAW " + l, drop.by(l), lit[l]);
        due(50, "all the same: LAW 0", Telling.told(APART).law(), 0);
        due(50, "no PEWS: LAW 0", Telling.told(EMPTY).law(), 0);
        due(49, "no PEWS", Telling.told(EMPTY).by(3), 0);
        TaperTalk seven = Telling.told(Edge.CHAIN);
        for (int l = 0; l < 4; l++) due(49, "seven PEWS by LAW " + l, seven.by(l), 127);
        // 3 hears 0, by LAW 1 it hears 2, by LAW 3 the act of 1: each says one LETTER.
        TaperTalk last = Telling.told("night hours 2 law 0 odds 0;pew rest;pew rest;pew rest;pew add 1;aisle 0 3;aisle 1 3;aisle 2 3;light 0 1;light 2 1;draught 3 at 1;");
        last.light(1, 2, 1);
        due(49, "acts as now", last.by(3), 15);
        due(50, "all have as many LETTERS", last.law(), 0);
        for (int l : Edge.outside(4)) Edge.refused(49, "there is none such " + l, -2, z -> z.by(l));
    }

    // ---- promises 51 to 53, terms VIII

    private static void rector(String sentence, String text, int worth, int opens) {
        TaperTalk x = Telling.told(text);
        due(51, sentence, x.rector(), worth);
        due(52, sentence, x.opens(), opens);
    }

    private static void rector() {
        rector("there are no PEWS", EMPTY, -1000, -1);
        rector("one PEW, HOUR 1 is the last", "night hours 1 law 0 odds 0;pew rest;", 0, 0);
        rector("one PEW", BASE + "pew rest;", 0, 0);
        rector("seven for themselves: it is put out", APART, 0, 0);
        rector("two are lit, one is put out", APART + "light 0 1;", 1, 1);
        rector("put out in HOUR 0, or in HOUR 1: the first", BASE + "pew rest;pew rest;light 0 1;draught 0 at 0;", 0, 0);
        rector("the last PEW, for its NEIGHBOUR is put out in HOUR 0", "night hours 2 law 0 odds 0;" + "pew rest;".repeat(7) + "aisle 5 6;draught 5 at 0;", 2, 6);
        rector("all seven in one HOUR, one is put out", STAR, 6, 0);
        rector("put out in HOUR 1, lit again in HOUR 2", STAR.replace("hours 1", "hours 2"), 7, 0);
        TaperTalk act = Telling.told("night hours 1 law 0 odds 0;pew rest;pew rest;");
        act.light(0, 1, 1);
        act.light(1, 1, 1);
        due(51, "acts of HOUR 1 are put out, behind all else", act.rector(), 1);
        due(52, "whichever it is", act.opens(), 0);
        act.draught(0, 0);
        act.draught(1, 0);
        due(51, "DRAUGHTS of HOUR 0 come behind", act.rector(), 1);
        TaperTalk said = Telling.told("night hours 1 law 0 odds 0;pew rest;pew drop;pew drop;aisle 0 1;aisle 0 2;light 0 1 2;");
        due(53, "0 with LETTER 1, in place of 1 2, is heard by none: 0 goes out", said.replies(0), 0);
        due(51, "1 is lit more, and 2 hears: three, one of them out", said.rector(), 2);
        due(52, "1 is lit more", said.opens(), 1);
    }

    private static void replies() {
        TaperTalk x = Telling.told(APART + "light 0 1;light 3 1;");
        for (int p = 0; p < 7; p++) due(53, "the first that is lit", x.replies(p), 0);
        TaperTalk none = Telling.told(APART);
        for (int p = 0; p < 7; p++) due(53, "the one that is lit", none.replies(p), p);
        for (int p : Edge.outside(7)) due(53, "there is none such " + p, none.replies(p), -2);
        TaperTalk all = Telling.told(STAR.replace("hours 1", "hours 3"));
        for (int p = 0; p < 7; p++) due(53, "all seven are lit at last, whichever it is: the first", all.replies(p), 0);
        due(51, "all seven", all.rector(), 7);
        due(53, "no PEWS", Telling.told(EMPTY).replies(0), -2);
        due(53, "nothing to gain: the first", Telling.told(BASE + "pew rest;pew rest;aisle 0 1;").replies(1), 0);
        due(53, "out anyhow: the first", Telling.told(BASE + "pew rest;pew rest;draught 1 at 0;").replies(1), 0);
        for (int p : Edge.outside(5)) Edge.refused(53, "there is none such " + p, -2, z -> z.replies(p));
    }

    // ---- promises 54, 55, terms IX

    private static void gets() {
        TaperTalk x = Telling.told("night hours 1 law 0 odds 0;pew rest;pew rest;aisle 0 1;light 0 1 1 1 1 1 1;");
        int[][] first = {{6, 6}, {8, 8}};
        int[][] other = {{6, 0}, {2, 2}};
        for (int a = 0; a < 2; a++) {
            for (int b = 0; b < 2; b++) {
                due(55, "of 0: " + a + " " + b, x.gets(0, 1, a, b), first[a][b]);
                due(55, "of 1: " + a + " " + b, x.gets(1, 0, a, b), other[a][b]);
            }
        }
        x.draught(1, 1);
        due(55, "out in the last HOUR", x.gets(1, 0, 0, 0), 0);
        due(55, "out in the last HOUR, and 2", x.gets(1, 0, 1, 0), 2);
        x.anew();
        x.light(1, 1, 1);
        due(55, "a shut one is lit by an act", x.gets(1, 0, 1, 1), 3);
        for (int v : Edge.outside(2)) {
            due(55, "no such choice " + v, x.gets(0, 1, v, 0), -1000);
            due(55, "no such choice " + v, x.gets(0, 1, 0, v), -1000);
        }
        for (int p : Edge.outside(5)) {
            Edge.refused(55, "there are none such: PEW " + p, -1000, z -> z.gets(p, 0, 0, 0));
            Edge.refused(55, "there are none such: PEW " + p, -1000, z -> z.gets(4, p, 1, 1));
            Edge.refused(54, "there are none such: PEW " + p, -2, z -> z.rests(p, 0));
            Edge.refused(54, "there are none such: PEW " + p, -2, z -> z.rests(4, p));
        }
        for (int p = 0; p < 5; p++) {
            int pew = p;
            Edge.refused(55, "one twice", -1000, z -> z.gets(pew, pew, 0, 0));
            Edge.refused(54, "one twice", -2, z -> z.rests(pew, pew));
        }
        for (int v : Edge.outside(2)) Edge.refused(55, "no such choice " + v, -1000, z -> z.gets(0, 4, v, v));
        TaperTalk one = Telling.told(BASE + "pew rest;");
        due(54, "one PEW, no other", one.rests(0, 1), -2);
        due(55, "one PEW, no other", one.gets(0, 1, 0, 0), -1000);
    }

    private static void rests() {
        String three = "night hours 1 law 0 odds 0;pew rest;pew rest;pew rest;aisle 0 2;aisle 1 2;light 2 ";
        due(54, "both hear one LETTER: both shut", Telling.told(three + "1;").rests(0, 1), 8);
        due(54, "as much either way: all pairs", Telling.told(three + "1 1;").rests(0, 1), 15);
        due(54, "both hear three LETTERS: neither", Telling.told(three + "1 1 1;").rests(0, 1), 1);
        due(54, "one shuts, it says nothing else", Telling.told(three.replace("aisle 0 2;", "") + "1 1 1;").rests(0, 1), 2);
        due(54, "the other one shuts", Telling.told(three.replace("aisle 0 2;", "") + "1 1 1;").rests(1, 0), 4);
        due(54, "one shuts, the other as much either way", Telling.told(three.replace("aisle 0 2;", "") + "1 1;").rests(0, 1), 10);
        due(54, "the other way round", Telling.told(three.replace("aisle 0 2;", "") + "1 1;").rests(1, 0), 12);
        TaperTalk seven = Telling.told(APART);
        due(54, "the first and the last PEW", seven.rests(0, 6), 8);
        due(55, "the last PEW", seven.gets(6, 0, 1, 0), 2);
        TaperTalk way = Telling.told("night hours 2 law 0 odds 0;pew rest;pew rest;pew rest;aisle 0 1;aisle 1 2;light 0 1 1 1;");
        due(55, "no AISLE leads on from one that shuts", way.gets(2, 1, 0, 1), 0);
        due(55, "nor to it", way.gets(1, 2, 1, 0), 2);
        due(55, "nor from the one that is lit", way.gets(1, 0, 0, 1), 0);
    }

    // ---- promises 56, 57, terms X

    private static void chance(TaperTalk x, String sentence, int pew, int hour, long above, long below) {
        due(56, sentence + ", above", x.chance(pew, hour, 0), above);
        due(56, sentence + ", below", x.chance(pew, hour, 1), below);
    }

    private static void mean(TaperTalk x, String sentence, int hour, long above, long below) {
        due(57, sentence + ", above", x.mean(hour, 0), above);
        due(57, sentence + ", below", x.mean(hour, 1), below);
    }

    private static void chanceHours() {
        for (int hours = 1; hours <= 12; hours++) {
            TaperTalk x = Telling.told(ONE_HOUR.replace("hours 1", "hours " + hours));
            for (int h = -1; h <= 13; h++) {
                boolean taken = h >= 0 && h <= 7 && h < hours;
                long below = taken ? 2L << h : -2;
                chance(x, "HOUR " + h + " of " + hours, 1, h, taken ? below - 1 : -2, below);
                mean(x, "HOUR " + h + " of " + hours, h, taken ? 2 * below - 1 : -2, below);
            }
        }
        TaperTalk x = Telling.told(ONE_HOUR);
        for (int h : Edge.outside(1)) {
            chance(x, "there is no such HOUR " + h, 0, h, -2, -2);
            mean(x, "there is no such HOUR " + h, h, -2, -2);
        }
        for (int p : Edge.outside(2)) chance(x, "there is no such PEW " + p, p, 0, -2, -2);
        for (int w : Edge.outside(2)) {
            due(56, "there is no such what " + w, x.chance(0, 0, w), -2);
            due(57, "there is no such what " + w, x.mean(0, w), -2);
        }
        for (int h : Edge.outside(5)) {
            Edge.refused(56, "there is no such HOUR " + h, -2, z -> z.chance(4, h, 0));
            Edge.refused(57, "there is no such HOUR " + h, -2, z -> z.mean(h, 1));
        }
        for (int p : Edge.outside(5)) Edge.refused(56, "there is no such PEW " + p, -2, z -> z.chance(p, 4, 0));
        for (int w : Edge.outside(2)) {
            Edge.refused(56, "there is no such what " + w, -2, z -> z.chance(4, 4, w));
            Edge.refused(57, "there is no such what " + w, -2, z -> z.mean(4, w));
        }
    }

    private static void chanceOdds() {
        for (int odds = 0; odds <= 10; odds++) {
            TaperTalk x = Telling.told(ONE_HOUR.replace("odds 5", "odds " + odds));
            int tenths = 10 - odds;
            int divisor = odds == 0 || odds == 10 ? 10 : odds == 5 ? 5 : odds % 2 == 0 ? 2 : 1;
            chance(x, "odds " + odds, 1, 0, tenths / divisor, 10 / divisor);
            chance(x, "lit by a LIGHT, odds " + odds, 0, 0, 1, 1);
            mean(x, "odds " + odds, 0, (10 + tenths) / divisor, 10 / divisor);
        }
        TaperTalk sure = Telling.told(Edge.CHAIN);
        for (int h = 0; h <= 7; h++) {
            for (int p = 0; p < 7; p++) chance(sure, "odds 0, as it is", p, h, p <= h + 1 ? 1 : 0, 1);
            mean(sure, "odds 0, as it is", h, sure.words(h + 1), 1);
        }
        TaperTalk never = Telling.told(Edge.CHAIN.replace("odds 0", "odds 10"));
        for (int h = 0; h <= 7; h++) {
            for (int p = 0; p < 7; p++) chance(never, "odds 10, nobody hears anything", p, h, p == 0 ? 1 : 0, 1);
            mean(never, "odds 10, nobody hears anything", h, 6, 1);
        }
        never.light(6, 1, 8);
        chance(never, "an act in SILENCE", 6, 7, 1, 1);
        chance(never, "an act an HOUR later", 6, 6, 0, 1);
        never.draught(0, 8);
        chance(never, "a DRAUGHT in SILENCE", 0, 7, 0, 1);
        mean(never, "the act alone", 7, 1, 1);
        mean(Telling.told(EMPTY), "no PEWS: 0 / 1", 2, 0, 1);
        mean(Telling.told(BASE + "pew rest;"), "none is lit: 0 / 1", 0, 0, 1);
    }

    private static void longFractions() {
        TaperTalk x = Telling.told("night hours 8 law 0 odds 1;pew rest;pew drop;" + "pew rest;".repeat(5)
            + "aisle 0 1;aisle 0 2;aisle 0 3;aisle 0 4;light 0 1 1 1 1 1 1;light 5 1 1 1 1 1 1;light 6 1 1 1 1 1 1;");
        chance(x, "but for eight SILENCES", 1, 7, 99999999L, 100000000L);
        mean(x, "18, and 23 but for eight SILENCES: more than an int has", 7, 4099999977L, 100000000L);
    }

    // ---- promises 62, 63

    private static void drawn() {
        int[][] seeds = {{0, 513, 3969}, {1, 64, 340}, {1999999999, 128, 2227}, {2000000000, 2048, 2599}};
        String twelve = "night hours 12 law 0 odds ";
        for (int[] s : seeds) {
            due(62, "odds 1, seed " + s[0], Telling.told(twelve + "1;").drawn(s[0], 0), s[1]);
            due(62, "odds 5, seed " + s[0], Telling.told(twelve + "5;").drawn(s[0], 0), s[2]);
            due(62, "odds 0, seed " + s[0], Telling.told(twelve + "0;").drawn(s[0], 0), 0);
            due(62, "odds 10, seed " + s[0], Telling.told(twelve + "10;").drawn(s[0], 0), 4095);
        }
        for (int hours = 1; hours <= 12; hours++) {
            TaperTalk x = Telling.told("night hours " + hours + " law 0 odds 10;pew rest;pew rest;aisle 0 1;light 0 1;");
            due(62, "HOURS ahead of the last: " + hours, x.drawn(7, 0), (1 << hours) - 1);
            due(62, "nobody hears anything", x.drawn(7, 1), 1);
        }
        TaperTalk one = Telling.told(ONE_HOUR);
        due(62, "the draw 0 is below 5", one.drawn(0, 0), 1);
        due(62, "SILENCE from HOUR 0", one.drawn(0, 1), 1);
        due(62, "the draw 8 is not", one.drawn(1, 0), 0);
        due(62, "no SILENCE", one.drawn(1, 1), 3);
        due(62, "the draw 5 is not", one.drawn(5, 0), 0);
        due(62, "the draw 4 is", one.drawn(7, 0), 1);
        one.light(1, 2, 1);
        due(62, "acts as now", one.drawn(0, 1), 3);
        one.draught(0, 0);
        due(62, "acts as now", one.drawn(0, 1), 2);
        due(62, "no PEWS", Telling.told(EMPTY).drawn(2000000000, 1), 0);
        for (int s : new int[] {-1, -2, MIN, 2000000001, 2000000002, MAX}) {
            Edge.refused(62, "there is no such seed " + s, -2, z -> z.drawn(s, 0));
            Edge.refused(62, "there is no such seed " + s, -2, z -> z.drawn(s, 1));
        }
        for (int w : Edge.outside(2)) Edge.refused(62, "there is no such what " + w, -2, z -> z.drawn(1, w));
    }

    private static void luck() {
        // The first draws of seeds 0 .. 19: 0 8 8 7 7 5 6 4 4 2 3 1 1 0 0 8 9 7 7 6.
        TaperTalk x = Telling.told(ONE_HOUR);
        int[] heard = {0, 1, 2, 3, 4, 5, 6, 6, 6, 6, 6, 6, 6, 6, 6, 7, 8, 9, 10, 11};
        for (int n = 1; n <= 20; n++) {
            due(63, "of " + n, x.luck(0, n, 1), heard[n - 1]);
            due(63, "the one that is lit, of " + n, x.luck(0, n, 0), n);
        }
        // Those of 2,000,000,000 and 1, ..: 4 2 2 1 1 9 0 8 8 6 7 5 5 4 4 2 3 1 1 0.
        due(63, "the greatest seed, one", x.luck(2000000000, 1, 1), 0);
        due(63, "the greatest seed and those behind it", x.luck(2000000000, 20, 1), 7);
        due(63, "the greatest seed and those behind it", x.luck(2000000000, 6, 1), 1);
        for (int n : new int[] {0, -1, 21, 22, 256, MIN, MAX}) Edge.refused(63, "n is not 1 .. 20: " + n, -2, z -> z.luck(1, n, 0));
        for (int s : new int[] {-1, -20, MIN, 2000000001, MAX}) Edge.refused(63, "there is no such seed " + s, -2, z -> z.luck(s, 1, 0));
        for (int p : Edge.outside(5)) Edge.refused(63, "there is no such PEW " + p, -2, z -> z.luck(1, 1, p));
        due(63, "no PEWS", Telling.told(EMPTY).luck(1, 1, 0), -2);
    }

    private static void noNight() {
        TaperTalk x = new TaperTalk();
        due(38, "there is no NIGHT", x.best(), -2);
        due(39, "there is no NIGHT", x.worth(0), -2);
        due(40, "there is no NIGHT", x.share(0, 0), -2);
        due(41, "there is no NIGHT", x.fewest(), -2);
        due(42, "there is no NIGHT", x.sets(), -2);
        due(43, "there is no NIGHT", x.gust(0), -2);
        due(44, "there is no NIGHT", x.guard(), -2);
        due(49, "there is no NIGHT", x.by(0), -2);
        due(50, "there is no NIGHT", x.law(), -2);
        due(51, "there are no PEWS", x.rector(), -1000);
        due(52, "there is no NIGHT", x.opens(), -2);
        due(53, "there is no NIGHT", x.replies(0), -2);
        due(54, "there is no NIGHT", x.rests(0, 1), -2);
        due(55, "there is no NIGHT", x.gets(0, 1, 0, 0), -1000);
        due(56, "there is no NIGHT", x.chance(0, 0, 0), -2);
        due(57, "there is no NIGHT", x.mean(0, 0), -2);
        due(62, "there is no NIGHT", x.drawn(0, 0), -2);
        due(62, "there is no NIGHT", x.drawn(0, 1), -2);
        due(63, "there is no NIGHT", x.luck(0, 1, 0), -2);
    }
}
