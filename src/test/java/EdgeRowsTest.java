/** Boundary cases of rows, and of what is heard, said first and told by them: promises 32 to 37, 45 to 48, 68 to 70, terms V and VI. */
public final class EdgeRowsTest {
    private static final int MIN = Edge.MIN;
    private static final int MAX = Edge.MAX;
    private static final String BASE = Edge.BASE;

    /** 0 rest, 1 turn, 2 drop, 3 add 4, 4 change 1 2, 5 change 2 1, 6 add 1; no AISLES. */
    private static final String RULES = BASE + "pew rest;pew turn;pew drop;pew add 4;pew change 1 2;pew change 2 1;pew add 1;";

    public static void main(String[] args) {
        rowsThatAreSayings();
        hearsAndHeard();
        rounds();
        hearingRefusals();
        firstLengths();
        firstWays();
        firstWhere();
        firstByLaw();
        firstByTurns();
        eachCallForItself();
        cluesTaken();
        cluesRefused();
        clueAnswers();
        questions();
        lawsByRow();
        rows();
        writes();
        widths();
        pastes();
        pasteRefusals();
        Edge.end("EdgeRowsTest");
    }

    private static void due(int promise, String sentence, long got, long want) {
        Edge.due(promise, sentence, got, want);
    }

    private static void holds(int promise, String sentence, TaperTalk x, int slot, int... letters) {
        due(promise, sentence + ", how many", x.hears(slot, 0, 0), letters.length);
        for (int i = 0; i < letters.length; i++) due(promise, sentence + ", number " + i, x.heard(slot, 0, 0, i), letters[i]);
        due(promise, sentence + ", beyond", x.heard(slot, 0, 0, letters.length), -1);
    }

    // ---- promises 32 to 34

    private static void sixCalls(TaperTalk x, String sentence, int slot, int pew, int other, long want) {
        due(32, sentence, x.hears(slot, pew, other), want);
        due(33, sentence, x.heard(slot, pew, other, 0), want);
        due(34, sentence, x.round(slot, pew, other), want);
        due(35, sentence, x.first(slot, pew, other), want);
        due(36, sentence, x.letter(slot, pew, other, 0), want);
        due(37, sentence, x.ways(slot, pew, other), want);
    }

    private static void rowsThatAreSayings() {
        TaperTalk x = Telling.told(RULES);
        for (int n = 0; n <= 8; n++) {
            int[] row = new int[n];
            java.util.Arrays.fill(row, 4);
            Telling.row(x, 0, row);
            if (n >= 1 && n <= 6) holds(32, n + " LETTERS", x, 0, row);
            else sixCalls(x, "not 1 .. 6 of them: " + n, 0, 0, 0, -2);
        }
        x.row(0, 0, 60);
        sixCalls(x, "not 1 .. 6 of them: 60", 0, 0, 0, -2);
        for (int number : new int[] {-128, -4, -1, 0, 1, 2, 3, 4, 5, 6, 7, 8, 9, 127}) {
            for (int place = 0; place < 6; place++) {
                TaperTalk y = Telling.told(RULES);
                Telling.row(y, 3, 1, 2, 3, 4, 1, 2);
                y.write(3, place, number);
                if (number >= 1 && number <= 4) due(32, "a LETTER " + number, y.hears(3, 0, 0), 6);
                else sixCalls(y, "a number is no LETTER: " + number + " at " + place, 3, 0, 0, -2);
            }
        }
        for (long number : new long[] {1L << 32, (1L << 32) + 1, Long.MIN_VALUE, Long.MIN_VALUE + 1, Long.MAX_VALUE}) {
            TaperTalk y = Telling.told(RULES);
            y.row(2, 3, 1);
            y.write(2, 0, number);
            sixCalls(y, "a number of 8 bytes is no LETTER: " + number, 2, 0, 0, -2);
        }
    }

    private static void hearsAndHeard() {
        TaperTalk x = Telling.told(RULES);
        Telling.row(x, 0, 1);
        due(32, "drop of one LETTER: nothing", x.hears(0, 2, 0), 0);
        due(33, "nothing: there is no such place", x.heard(0, 2, 0, 0), -1);
        due(32, "nothing, then add", x.hears(0, 2, 3), 0);
        due(32, "add, then drop", x.hears(0, 3, 2), 1);
        due(32, "drop twice", x.hears(0, 2, 2), 0);
        Telling.row(x, 0, 1, 2);
        due(32, "drop twice of two", x.hears(0, 2, 2), 0);
        Telling.row(x, 0, 1, 2, 3);
        due(32, "one twice", x.hears(0, 2, 2), 1);
        due(33, "one twice", x.heard(0, 2, 2, 0), 1);
        due(33, "one twice: there is no such place", x.heard(0, 2, 2, 1), -1);
        due(33, "by one, then by another: turn, drop", x.heard(0, 1, 2, 0), 3);
        due(33, "by one, then by another: drop, turn", x.heard(0, 2, 1, 0), 2);
        Telling.row(x, 0, 1, 2, 3, 4, 1);
        due(32, "add of five", x.hears(0, 3, 0), 6);
        due(32, "add of five, add of six", x.hears(0, 3, 6), 6);
        due(33, "add of six: six stay", x.heard(0, 3, 6, 5), 4);
        due(33, "there is no seventh", x.heard(0, 3, 6, 6), -1);
        Telling.row(x, 0, 1, 2, 3, 4, 1, 2);
        due(32, "six, drop, add", x.hears(0, 2, 3), 6);
        due(33, "six, drop, add", x.heard(0, 2, 3, 5), 4);
        for (int i : new int[] {6, 7, 10, 11, 32, MAX}) due(33, "there is no such place " + i, x.heard(0, 0, 0, i), -1);
        for (int i : new int[] {-1, -2, -32, MIN}) due(33, "i below 0: " + i, x.heard(0, 0, 0, i), -2);
        due(33, "i below 0, nothing left", x.heard(0, 2, 2, -1), -2);
        due(33, "the first PEW, the last PEW", x.heard(0, 0, 6, 0), 1);
        due(33, "the last PEW, the first PEW", x.heard(0, 6, 0, 5), 2);
    }

    private static void rounds() {
        TaperTalk x = Telling.told(RULES);
        Telling.row(x, 0, 1, 2, 3);
        due(34, "at once", x.round(0, 0, 0), 1);
        due(34, "the second time", x.round(0, 0, 1), 2);
        due(34, "turned twice each time", x.round(0, 1, 1), 1);
        due(34, "shorter and shorter, nothing is left", x.round(0, 2, 0), -1);
        due(34, "longer and longer", x.round(0, 3, 0), -1);
        due(34, "add, drop", x.round(0, 3, 2), 1);
        due(34, "drop, add of another LETTER: never", x.round(0, 2, 3), -1);
        due(34, "change there and back: 2 is 1 then", x.round(0, 4, 5), -1);
        Telling.row(x, 0, 1, 3, 1);
        due(34, "as it was when turned", x.round(0, 0, 1), 1);
        due(34, "change there and back", x.round(0, 4, 5), 1);
        due(34, "changed, and never back", x.round(0, 4, 0), -1);
        Telling.row(x, 0, 3);
        due(34, "one LETTER", x.round(0, 1, 0), 1);
        due(34, "nothing is left ahead of it", x.round(0, 2, 2), -1);
        Telling.row(x, 0, 4);
        due(34, "nothing is left, add 4 has nothing to hear", x.round(0, 2, 3), -1);
        due(34, "add 4 first", x.round(0, 3, 2), 1);
        Telling.row(x, 0, 1, 1, 1, 1, 1, 4);
        due(34, "six: drop, add 4", x.round(0, 2, 3), 1);
        due(34, "six: add stays, drop takes one, five for good", x.round(0, 3, 2), -1);
        due(34, "six: turn and add", x.round(0, 1, 3), 2);
    }

    private static void hearingRefusals() {
        for (int s : Edge.outside(4)) {
            Edge.refused(32, "there is no such SLOT " + s, -2, x -> x.hears(s, 0, 0));
            Edge.refused(33, "there is no such SLOT " + s, -2, x -> x.heard(s, 0, 0, 0));
            Edge.refused(34, "there is no such SLOT " + s, -2, x -> x.round(s, 0, 0));
            Edge.refused(35, "there is no such SLOT " + s, -2, x -> x.first(s, 0, 0));
            Edge.refused(36, "there is no such SLOT " + s, -2, x -> x.letter(s, 0, 0, 0));
            Edge.refused(37, "there is no such SLOT " + s, -2, x -> x.ways(s, 0, 0));
        }
        for (int p : Edge.outside(5)) {
            for (int slot : new int[] {0, 2}) {
                String sentence = slot == 0 ? "there are none such: PEW " + p : "-2 is asked ahead of -6: PEW " + p;
                Edge.refused(32, sentence, -2, x -> x.hears(slot, p, 0));
                Edge.refused(32, sentence, -2, x -> x.hears(slot, 4, p));
                Edge.refused(33, sentence, -2, x -> x.heard(slot, p, 0, 0));
                Edge.refused(33, sentence, -2, x -> x.heard(slot, 4, p, 0));
                Edge.refused(34, sentence, -2, x -> x.round(slot, p, 0));
                Edge.refused(34, sentence, -2, x -> x.round(slot, 4, p));
                Edge.refused(35, sentence, -2, x -> x.first(slot, p, 0));
                Edge.refused(35, sentence, -2, x -> x.first(slot, 4, p));
                Edge.refused(36, sentence, -2, x -> x.letter(slot, p, 0, 0));
                Edge.refused(36, sentence, -2, x -> x.letter(slot, 4, p, 0));
                Edge.refused(37, sentence, -2, x -> x.ways(slot, p, 0));
                Edge.refused(37, sentence, -2, x -> x.ways(slot, 4, p));
            }
        }
        for (int i : new int[] {-1, -2, MIN}) {
            Edge.refused(33, "i below 0", -2, x -> x.heard(0, 0, 0, i));
            Edge.refused(36, "i below 0", -2, x -> x.letter(0, 0, 0, i));
            Edge.refused(33, "i below 0 is asked ahead of -6", -2, x -> x.heard(2, 0, 0, i));
            Edge.refused(36, "i below 0 is asked ahead of -6", -2, x -> x.letter(2, 0, 0, i));
        }
        Edge.refused(32, "it has nothing", -6, x -> x.hears(2, 4, 4));
        Edge.refused(33, "it has nothing", -6, x -> x.heard(2, 4, 4, 0));
        Edge.refused(34, "it has nothing", -6, x -> x.round(2, 4, 4));
        Edge.refused(35, "it has nothing", -6, x -> x.first(2, 4, 4));
        Edge.refused(36, "it has nothing", -6, x -> x.letter(2, 4, 4, 0));
        Edge.refused(37, "it has nothing", -6, x -> x.ways(2, 4, 4));
        TaperTalk none = new TaperTalk();
        Telling.row(none, 0, 1);
        sixCalls(none, "no NIGHT, no PEW", 0, 0, 0, -2);
    }

    // ---- promises 35 to 37, terms V

    private static void first(String sentence, TaperTalk x, int pew, int other, int ways, int... letters) {
        due(35, sentence, x.first(0, pew, other), letters.length == 0 ? -1 : letters.length);
        for (int i = 0; i < letters.length; i++) due(36, sentence + ", LETTER " + i, x.letter(0, pew, other, i), letters[i]);
        due(36, sentence + ", there is no such place", x.letter(0, pew, other, letters.length), -1);
        due(36, sentence + ", there is no such place", x.letter(0, pew, other, MAX), -1);
        due(36, sentence + ", i below 0", x.letter(0, pew, other, -1), -2);
        due(37, sentence + ", so many do", x.ways(0, pew, other), ways);
    }

    private static void firstLengths() {
        TaperTalk x = Telling.told("night hours 1 law 0 odds 0;pew rest;pew drop;pew add 2;pew rest;aisle 0 1;aisle 0 2;aisle 0 3;");
        int[][] rows = {{3}, {3, 1}, {3, 1, 4}, {3, 1, 4, 1}, {3, 1, 4, 1, 2}, {3, 1, 4, 1, 2, 2}};
        for (int n = 1; n <= 6; n++) {
            int[] row = rows[n - 1];
            Telling.row(x, 0, row);
            if (n <= 4) {
                first("as it is, " + n, x, 0, 3, 1, row);
                first("to itself, " + n, x, 0, 0, 1, row);
            } else {
                first("five are too many, " + n, x, 0, 3, 0);
                first("five are too many, to itself, " + n, x, 0, 0, 0);
            }
            int[] longer = java.util.Arrays.copyOf(row, n + 1);
            longer[n] = 1;
            if (n <= 3) first("one is dropped, " + n, x, 0, 1, 4, longer);
            else first("one is dropped, five are too many, " + n, x, 0, 1, 0);
            if (n == 5) first("one is added", x, 0, 2, 1, 3, 1, 4, 1);
            else first("one is added, but not so", x, 0, 2, 0);
        }
        Telling.row(x, 0, 2);
        first("nothing told, one added: nobody says nothing", x, 0, 2, 0);
        Telling.row(x, 0, 4, 2);
        first("one LETTER, one added", x, 0, 2, 1, 4);
    }

    private static void firstWays() {
        String chain = "pew rest;pew drop;pew drop;pew drop;aisle 0 1;aisle 1 2;aisle 2 3;";
        TaperTalk x = Telling.told("night hours 3 law 0 odds 0;" + chain);
        Telling.row(x, 0, 3);
        first("three are dropped", x, 0, 3, 64, 3, 1, 1, 1);
        first("two are dropped", x, 0, 2, 16, 3, 1, 1);
        Telling.row(x, 0, 3, 3);
        first("three are dropped, five are too many", x, 0, 3, 0);
        String adds = "pew rest;pew add 2;pew add 2;pew add 2;aisle 0 1;aisle 1 2;aisle 2 3;";
        TaperTalk y = Telling.told("night hours 3 law 0 odds 0;" + adds);
        Telling.row(y, 0, 1, 2, 2, 2, 2, 2);
        first("three added to three: the shortest", y, 0, 3, 1, 1, 2, 2);
        Telling.row(y, 0, 1, 2, 3, 4, 2, 2);
        first("two added to four, six stay", y, 0, 3, 1, 1, 2, 3, 4);
        Telling.row(y, 0, 1, 2, 2, 2);
        first("three added to one", y, 0, 3, 1, 1);
        Telling.row(y, 0, 2, 2, 2);
        first("three added to nothing", y, 0, 3, 0);
        TaperTalk z = Telling.told("night hours 1 law 0 odds 0;pew rest;pew change 1 4;aisle 0 1;");
        Telling.row(z, 0, 4, 4, 4, 4);
        first("1 or 4 each, the least row", z, 0, 1, 16, 1, 1, 1, 1);
        Telling.row(z, 0, 4, 2, 4);
        first("1 or 4 at two places", z, 0, 1, 4, 1, 2, 1);
        Telling.row(z, 0, 4, 1);
        first("no 1 is left", z, 0, 1, 0);
    }

    private static void firstWhere() {
        TaperTalk x = Telling.told("night hours 2 law 0 odds 0;pew turn;pew rest;pew rest;pew rest;aisle 0 1;aisle 2 3;draught 0 at 1;light 2 1;");
        Telling.row(x, 0, 1, 2, 3);
        first("it comes back to it turned", x, 0, 0, 1, 3, 2, 1);
        first("from another, which says it still", x, 1, 1, 1, 1, 2, 3);
        first("no AISLE leads there", x, 0, 2, 0);
        first("LIGHTS don't count", x, 2, 3, 1, 1, 2, 3);
        x.light(1, 4, 2);
        x.light(1, 4, 0);
        x.light(1, 4, 1);
        first("lights of acts don't count, of whatever HOUR", x, 0, 1, 1, 1, 2, 3);
        x.draught(1, 2);
        first("DRAUGHTS of acts do", x, 0, 1, 0);
        TaperTalk late = Telling.told("night hours 2 law 0 odds 0;pew rest;pew rest;pew rest;pew rest;aisle 0 1;aisle 1 2;aisle 2 3;");
        Telling.row(late, 0, 1);
        first("in the last HOUR", late, 0, 2, 1, 1);
        first("an HOUR too late", late, 0, 3, 0);
        TaperTalk out = Telling.told("night hours 2 law 0 odds 0;pew rest;pew rest;aisle 0 1;draught 0 at 0;draught 1 at 2;");
        Telling.row(out, 0, 1);
        first("put out in HOUR 0", out, 0, 0, 0);
        first("put out in the last HOUR", out, 1, 1, 0);
        first("lit again, the last HOUR", out, 1, 0, 1, 1);
    }

    private static void firstByLaw() {
        // 3 hears 1 (one LETTER fewer) or 2 (one more): by LAW 2 always 2, by LAW 0 always 1, if something was left of it.
        String text = "night hours 2 law 0 odds 0;pew rest;pew drop;pew add 4;pew rest;aisle 0 1;aisle 0 2;aisle 1 3;aisle 2 3;";
        TaperTalk x = Telling.told(text);
        Telling.row(x, 0, 3, 4);
        first("one LETTER leaves nothing in 1, so 2 is heard", x, 0, 3, 1, 3);
        Telling.row(x, 0, 3, 2, 4);
        first("1 is heard: one dropped", x, 0, 3, 4, 3, 2, 4, 1);
        TaperTalk y = Telling.told(text.replace("law 0", "law 2"));
        Telling.row(y, 0, 3, 2, 4);
        first("2 is heard: one added", y, 0, 3, 1, 3, 2);
    }

    /** From HOUR to HOUR one of two PEWS is put out and hears the other one in the next: as long a way as there is. */
    private static void firstByTurns() {
        TaperTalk x = Telling.told("night hours 12 law 0 odds 0;pew turn;pew rest;aisle 0 1;");
        for (int h = 1; h < 12; h++) x.draught(1 - h % 2, h);
        Telling.row(x, 0, 1, 2, 3);
        first("heard twelve times, turned six times", x, 0, 0, 1, 1, 2, 3);
        first("heard eleven times, turned five times", x, 0, 1, 1, 3, 2, 1);
    }

    /** What a call answers does not rest on one ahead of it. */
    private static void eachCallForItself() {
        String text = "night hours 1 law 0 odds 0;pew rest;pew drop;aisle 0 1;light 0 1 2 3 4 1 2;";
        TaperTalk ways = Telling.told(text);
        Telling.row(ways, 0, 4, 3);
        due(37, "ways() alone", ways.ways(0, 0, 1), 4);
        TaperTalk letter = Telling.told(text);
        Telling.row(letter, 0, 4, 3);
        due(36, "letter() alone", letter.letter(0, 0, 1, 1), 3);
        Telling.row(letter, 0, 2);
        due(36, "letter() of another row", letter.letter(0, 0, 1, 0), 2);
        due(37, "ways() of itself", letter.ways(0, 0, 0), 1);
        due(37, "ways() of another", letter.ways(0, 0, 1), 4);
        due(36, "letter() of none", letter.letter(0, 1, 0, 2), -1);
        TaperTalk leaves = Telling.told(text);
        leaves.row(0, 0, 0);
        due(47, "leaves() alone", leaves.leaves(0), 1);
        TaperTalk ask = Telling.told(text);
        ask.row(0, 0, 0);
        for (int i = 0; i < 5; i++) {
            due(46, "ask() again, six LETTERS", ask.ask(0), 0);
            due(47, "leaves() again, six LETTERS", ask.leaves(0), 1);
        }
        Telling.row(ask, 0, 0, 0, 6);
        due(47, "leaves() of another row", ask.leaves(0), 1);
        due(46, "ask() of another row", ask.ask(0), -1);
    }

    // ---- promises 45 to 48, terms VI

    private static void fourCalls(TaperTalk x, String sentence, int slot, long want) {
        due(45, sentence, x.whom(slot), want);
        due(46, sentence, x.ask(slot), want);
        due(47, sentence, x.leaves(slot), want);
        due(48, sentence, x.laws(slot), want);
    }

    private static void cluesTaken() {
        for (int n = 0; n <= 60; n++) {
            TaperTalk x = Telling.told(Edge.FIVE);
            x.row(0, n % 4, n);
            for (int i = 0; i + 2 < n; i += 3) {
                x.write(0, i, 4);
                x.write(0, i + 1, 5);
                x.write(0, i + 2, 3);
            }
            if (n % 3 != 0) fourCalls(x, "not three each: " + n, 0, -2);
            else due(48, "three each, and so by LAW 0: " + n, x.laws(0) & 1, 1);
        }
        TaperTalk x = Telling.told(Edge.FIVE);
        Telling.row(x, 1, 0, 0, 3, 4, 0, 0, 4, 5, 3);
        due(45, "the first and the last PEW, HOUR", x.whom(1), 1);
        x.row(1, 0, 0);
        due(45, "nothing heard: any", x.whom(1), 31);
        due(48, "nothing heard: any", x.laws(1), 15);
    }

    private static void cluesRefused() {
        int[][] bad = {{1}, {1, 1}, {0, 0, 3, 0}, {0, 0, 3, 0, 0}, {5, 0, 0}, {-1, 0, 0}, {0, 6, 0}, {0, -1, 0}, {0, 0, 7}, {0, 0, -1},
            {127, 0, 0}, {0, 127, 0}, {0, 0, 127}, {-128, 0, 0}, {0, 0, 3, 0, 0, 7}, {0, 0, 3, 5, 0, 3}, {0, 0, 3, 0, 6, 3}, {0, 0, 7, 0, 0, 3}};
        TaperTalk x = Telling.told(Edge.FIVE);
        for (int[] row : bad) {
            Telling.row(x, 1, row);
            fourCalls(x, "a number is none such, not three each", 1, -2);
        }
        for (int place = 0; place < 3; place++) {
            for (long number : new long[] {1L << 32, Long.MIN_VALUE, -1L << 32, Long.MAX_VALUE}) {
                TaperTalk y = Telling.told(Edge.FIVE);
                y.row(1, 3, 3);
                y.write(1, place, number);
                fourCalls(y, "a number of 8 bytes is none such: " + number, 1, -2);
            }
        }
        for (int s : Edge.outside(4)) {
            Edge.refused(45, "there is no such SLOT " + s, -2, z -> z.whom(s));
            Edge.refused(46, "there is no such SLOT " + s, -2, z -> z.ask(s));
            Edge.refused(47, "there is no such SLOT " + s, -2, z -> z.leaves(s));
            Edge.refused(48, "there is no such SLOT " + s, -2, z -> z.laws(s));
        }
        Edge.refused(45, "it has nothing", -6, z -> z.whom(2));
        Edge.refused(46, "it has nothing", -6, z -> z.ask(2));
        Edge.refused(47, "it has nothing", -6, z -> z.leaves(2));
        Edge.refused(48, "it has nothing", -6, z -> z.laws(2));
        TaperTalk unlit = Telling.told(BASE + "pew rest;pew rest;");
        Telling.row(unlit, 0, 0, 0, 0);
        for (int slot = 0; slot < 2; slot++) {
            due(45, "no LIGHT", unlit.whom(slot), -2);
            due(46, "no LIGHT", unlit.ask(slot), -2);
            due(47, "no LIGHT", unlit.leaves(slot), -2);
        }
        due(48, "no LIGHT aside", unlit.laws(0), 15);
        due(48, "no LIGHT aside, it has nothing", unlit.laws(1), -6);
        TaperTalk none = new TaperTalk();
        none.row(0, 0, 0);
        fourCalls(none, "no NIGHT", 0, -2);
        fourCalls(none, "no NIGHT is asked ahead of -6", 1, -2);
    }

    private static void clueAnswers() {
        TaperTalk x = Telling.told(BASE + "pew rest;".repeat(7) + "light 3 1 2 3 4 1 2;light 0 1;");
        for (int p = 0; p < 7; p++) {
            Telling.row(x, 0, p, 0, 6);
            due(45, "six LETTERS, what LIGHT 0 says, to " + p, x.whom(0), 1 << p);
            Telling.row(x, 0, p, 3, 0);
            due(45, "0 LETTERS: it was out, not " + p, x.whom(0), 127 - (1 << p));
            Telling.row(x, 0, p, 0, 1);
            due(45, "what LIGHT 1 says is not told", x.whom(0), 0);
            due(46, "to nobody", x.ask(0), -1);
            due(47, "to nobody", x.leaves(0), 0);
        }
        Telling.row(x, 0, 0, 0, 6, 1, 0, 6);
        due(45, "to one PEW, not to two", x.whom(0), 0);
        Telling.row(x, 0, 2, 0, 6, 2, 1, 6, 2, 2, 6, 2, 3, 6);
        due(45, "all of it is so", x.whom(0), 4);
        Telling.row(x, 0, 2, 0, 6, 2, 1, 6, 2, 2, 6, 2, 3, 5);
        due(45, "the last of it is not so", x.whom(0), 0);
        x.draught(2, 0);
        x.row(0, 0, 0);
        due(45, "DRAUGHTS of acts: to 2, and nobody says it", x.whom(0), 127);
        x.light(5, 1, 3);
        Telling.row(x, 0, 5, 3, 1);
        due(45, "lights of acts don't count", x.whom(0), 0);
    }

    private static void questions() {
        TaperTalk apart = Telling.told("night hours 12 law 0 odds 0;" + "pew rest;".repeat(7) + "light 0 1 2;draught 5 at 0;");
        apart.row(0, 0, 0);
        due(46, "the first of several, PEW 0, HOUR 0", apart.ask(0), 0);
        due(47, "one fewer", apart.leaves(0), 6);
        Telling.row(apart, 0, 0, 0, 0, 1, 0, 0, 2, 0, 0, 3, 0, 0, 4, 0, 0);
        due(45, "5 or 6", apart.whom(0), 96);
        due(46, "6, for 5 is put out", apart.ask(0), 600);
        due(47, "one", apart.leaves(0), 1);
        Telling.row(apart, 0, 6, 12, 2);
        due(45, "6 alone", apart.whom(0), 64);
        due(46, "no fewer than now", apart.ask(0), -1);
        due(47, "as now", apart.leaves(0), 1);
        TaperTalk late = Telling.told("night hours 12 law 0 odds 0;" + "pew rest;".repeat(7) + "aisle 0 6;aisle 1 6;light 0 1;");
        for (int h = 1; h < 12; h++) late.draught(6, h);
        late.row(0, 0, 0);
        due(45, "any", late.whom(0), 127);
        due(46, "PEW 6 in HOUR 12: lit of 0, 1, 6", late.ask(0), 612);
        due(47, "the other four at worst", late.leaves(0), 4);
        TaperTalk windy = Telling.told(BASE + "pew rest;pew rest;light 0 1;draught 0 at 0;draught 1 at 0;");
        windy.row(0, 0, 0);
        due(45, "both", windy.whom(0), 3);
        due(46, "none is fewer", windy.ask(0), -1);
        due(47, "both as now", windy.leaves(0), 2);
        // To 0: 0 says two LETTERS, 1 three. To 1: 1 says two, 0 two. So PEW 1 tells them apart, and 0 in HOUR 0.
        TaperTalk sizes = Telling.told("night hours 1 law 0 odds 0;pew rest;pew add 1;aisle 0 1;light 0 1 2;draught 0 at 0;");
        sizes.row(0, 0, 0);
        due(46, "PEW 0 in HOUR 1, for it is out in HOUR 0", sizes.ask(0), 1);
        TaperTalk one = Telling.told("night hours 1 law 0 odds 0;pew rest;pew add 1;pew rest;aisle 0 1;aisle 1 2;light 0 1 2;");
        Telling.row(one, 0, 1, 1, 3);
        due(45, "1 says three, if 0 or 2 was told", one.whom(0), 5);
        due(46, "LETTERS are counted, PEW 0 in HOUR 0", one.ask(0), 0);
    }

    private static void lawsByRow() {
        // 2 hears 0 (one LETTER) or 1 (two LETTERS, lit since HOUR 1 again).
        String text = "night hours 2 law 0 odds 0;pew rest;pew rest;pew rest;aisle 0 2;aisle 1 2;light 0 1;light 1 1 2;draught 2 at 1;";
        TaperTalk x = Telling.told(text);
        Telling.row(x, 0, 2, 2, 1);
        due(48, "the first one: LAWS 0 and 3", x.laws(0), 9);
        Telling.row(x, 0, 2, 2, 2);
        due(48, "the last one, the longest: LAWS 1 and 2", x.laws(0), 6);
        Telling.row(x, 0, 2, 2, 0);
        due(48, "by none", x.laws(0), 0);
        Telling.row(x, 0, 2, 1, 0);
        due(48, "put out by all", x.laws(0), 15);
        x.draught(1, 0);
        x.light(1, 3, 1);
        Telling.row(x, 0, 2, 2, 1, 1, 0, 0, 1, 1, 1);
        due(48, "acts as now", x.laws(0), 15);
        due(65, "the LAW told stays", x.count(1), 0);
    }

    // ---- promise 68: row

    private static void rows() {
        TaperTalk x = Telling.told(RULES);
        for (int s = 0; s < 4; s++) {
            for (int w = 0; w < 4; w++) {
                for (int n : new int[] {0, 1, 6, 59, 60}) {
                    due(68, "SLOT " + s + " WIDTH " + w + " n " + n, x.row(s, w, n), 0);
                    due(69, "the last number", x.write(s, n - 1, 1), n == 0 ? -7 : 0);
                    due(69, "there is no such number", x.write(s, n, 1), -7);
                }
            }
            due(65, "SLOTS that have a row", x.count(10), s + 1);
        }
        due(68, "in place of another one: none", x.row(0, 0, 0), 0);
        due(65, "a row of none is a row", x.count(10), 4);
        Telling.row(x, 0, 1, 2, 3);
        due(68, "in place of another one", x.row(0, 0, 3), 0);
        due(68, "all 0: no LETTERS", x.hears(0, 0, 0), -2);
        due(68, "all 0: PEW 0, HOUR 0, no LETTERS", x.laws(0), 15);
        for (int i = 0; i < 4; i++) {
            TaperTalk y = Telling.told(RULES);
            Telling.row(y, 0, 1, 2, 3, 4);
            y.row(0, 0, 2);
            y.row(0, 0, 4);
            for (int j = 0; j < 4; j++) if (j != i) y.write(0, j, 1);
            due(68, "all 0, number " + i + ", too", y.hears(0, 0, 0), -2);
            y.write(0, i, 1);
            due(68, "and then not", y.hears(0, 0, 0), 4);
        }
        for (int s : Edge.outside(4)) {
            Edge.refused(68, "there is no such SLOT " + s, -2, z -> z.row(s, 0, 1));
            Edge.refused(68, "there is no such SLOT, n below 0", -2, z -> z.row(s, 0, -1));
        }
        for (int w : Edge.outside(4)) {
            Edge.refused(68, "there is no such WIDTH " + w, -2, z -> z.row(0, w, 1));
            Edge.refused(68, "there is no such WIDTH, n below 0", -2, z -> z.row(0, w, -1));
        }
        for (int n : new int[] {61, 62, 64, 256, 1 << 16, MAX}) {
            for (int s = 0; s < 4; s++) {
                int slot = s;
                Edge.refused(68, "n is above 60: " + n, -2, z -> z.row(slot, 3, n));
            }
        }
        for (int n : new int[] {-1, -2, -60, -256, MIN}) {
            for (int s = 0; s < 4; s++) {
                int slot = s;
                Edge.refused(68, "n is below 0, and the SLOT stays: " + n, -3, z -> z.row(slot, 2, n));
            }
        }
    }

    // ---- promise 69: write

    private static void writes() {
        TaperTalk x = Telling.told(RULES);
        Telling.row(x, 0, 1, 1, 1);
        due(69, "the first number", x.write(0, 0, 2), 0);
        holds(69, "the first number", x, 0, 2, 1, 1);
        due(69, "the last number", x.write(0, 2, 3), 0);
        holds(69, "the last number", x, 0, 2, 1, 3);
        for (int i : Edge.outside(3)) {
            due(69, "there is no such number " + i, x.write(0, i, 4), -7);
            holds(69, "it stays", x, 0, 2, 1, 3);
            Edge.refused(69, "there is no such number " + i, -7, z -> z.write(0, i, 4));
        }
        for (int i : Edge.outside(60)) if (i != 32) Edge.refused(69, "there is no such number " + i, -7, z -> z.write(3, i, 4));
        for (int i : new int[] {-1, 0, 1, MAX, MIN}) Edge.refused(69, "it has nothing, whatever number", -6, z -> z.write(2, i, 1));
        for (int s : Edge.outside(4)) Edge.refused(69, "there is no such SLOT " + s, -2, z -> z.write(s, 0, 1));
        for (int s : Edge.outside(4)) Edge.refused(69, "there is no such SLOT, no such number", -2, z -> z.write(s, -1, 1));
    }

    private static void widths() {
        for (int w = 0; w < 4; w++) {
            TaperTalk x = Telling.told(RULES);
            x.row(0, w, 1);
            int bits = 8 << w;
            for (int k = 1; k <= 4; k++) {
                x.write(0, 0, k);
                holds(69, "WIDTH " + w, x, 0, k);
                if (w == 3) continue;
                for (long more : new long[] {1L << bits, -1L << bits, 7L << bits, 1L << 62, Long.MIN_VALUE}) {
                    due(69, "cut to WIDTH " + w, x.write(0, 0, k + more), 0);
                    holds(69, "cut to WIDTH " + w, x, 0, k);
                }
            }
            for (int bit = 3; bit < bits; bit++) {
                x.write(0, 0, 1 + (1L << bit));
                due(69, "WIDTH " + w + " has bit " + bit, x.hears(0, 0, 0), -2);
            }
            for (long v : new long[] {-1, 0, Long.MAX_VALUE, -1L << bits - 1}) {
                x.write(0, 0, v);
                due(69, "no LETTER in WIDTH " + w + ": " + v, x.hears(0, 0, 0), -2);
            }
        }
    }

    // ---- promise 70: paste

    private static void pastes() {
        TaperTalk x = Telling.told(RULES);
        Telling.row(x, 0, 1, 2, 3, 4, 1, 2);
        Telling.row(x, 1, 4, 4, 4);
        due(70, "the first ones to the first", x.paste(0, 0, 1, 0, 3), 0);
        holds(70, "the first ones to the first", x, 1, 1, 2, 3);
        due(70, "the last ones to the first", x.paste(0, 3, 1, 0, 3), 0);
        holds(70, "the last ones to the first", x, 1, 4, 1, 2);
        due(70, "one to the last", x.paste(0, 2, 1, 2, 1), 0);
        holds(70, "one to the last", x, 1, 4, 1, 3);
        due(70, "all to the end of a longer one", x.paste(1, 0, 0, 3, 3), 0);
        holds(70, "all to the end of a longer one", x, 0, 1, 2, 3, 4, 1, 3);
        holds(70, "the first row stays", x, 1, 4, 1, 3);
        Telling.row(x, 0, 1, 2, 3, 4, 1, 2);
        due(70, "its own, upwards, as they were", x.paste(0, 0, 0, 1, 5), 0);
        holds(70, "its own, upwards, as they were", x, 0, 1, 1, 2, 3, 4, 1);
        due(70, "its own, downwards, as they were", x.paste(0, 1, 0, 0, 5), 0);
        holds(70, "its own, downwards, as they were", x, 0, 1, 2, 3, 4, 1, 1);
        due(70, "its own, to the same place", x.paste(0, 0, 0, 0, 6), 0);
        holds(70, "its own, to the same place", x, 0, 1, 2, 3, 4, 1, 1);
        due(70, "none, from the end to the end", x.paste(0, 6, 1, 3, 0), 0);
        due(70, "none, from the first to the first", x.paste(0, 0, 1, 0, 0), 0);
        holds(70, "none", x, 1, 4, 1, 3);
        x.row(2, 0, 0);
        due(70, "none of none", x.paste(2, 0, 2, 0, 0), 0);
        due(70, "one of none", x.paste(2, 0, 2, 0, 1), -7);
        due(70, "one to none", x.paste(0, 0, 2, 0, 1), -7);
        x.row(2, 3, 60);
        x.row(3, 3, 60);
        x.write(2, 59, 3);
        due(70, "all sixty", x.paste(2, 0, 3, 0, 60), 0);
        x.row(2, 3, 1);
        due(70, "the sixtieth", x.paste(3, 59, 2, 0, 1), 0);
        holds(70, "the sixtieth", x, 2, 3);
        TaperTalk wide = Telling.told(RULES);
        for (int w = 0; w < 4; w++) {
            wide.row(0, w, 1);
            wide.row(1, w, 1);
            wide.write(0, 0, 1L << (8 << w) - 1);
            due(70, "of one WIDTH " + w, wide.paste(0, 0, 1, 0, 1), 0);
            due(70, "as it was, no LETTER", wide.hears(1, 0, 0), -2);
            for (int v = 0; v < 4; v++) {
                wide.row(2, v, 1);
                due(70, "WIDTHS " + w + " and " + v, wide.paste(0, 0, 2, 0, 1), v == w ? 0 : -8);
            }
        }
    }

    private static void pasteRefusals() {
        for (int s : Edge.outside(4)) {
            Edge.refused(70, "there is no such SLOT " + s, -2, z -> z.paste(s, 0, 0, 0, 1));
            Edge.refused(70, "there is no such SLOT " + s, -2, z -> z.paste(0, 0, s, 0, 1));
            Edge.refused(70, "-2 is asked ahead of -6", -2, z -> z.paste(2, 0, s, 0, 1));
            Edge.refused(70, "-2 is asked ahead of -6", -2, z -> z.paste(s, 0, 2, 0, 1));
            Edge.refused(70, "-2 is asked ahead of -7", -2, z -> z.paste(s, -1, 0, -1, -1));
        }
        Edge.refused(70, "one has nothing", -6, z -> z.paste(2, 0, 0, 0, 1));
        Edge.refused(70, "one has nothing", -6, z -> z.paste(0, 0, 2, 0, 1));
        Edge.refused(70, "both have nothing", -6, z -> z.paste(2, 0, 2, 0, 0));
        Edge.refused(70, "one has nothing, ahead of -7", -6, z -> z.paste(0, -1, 2, 0, 1));
        Edge.refused(70, "not of one WIDTH", -8, z -> z.paste(0, 0, 3, 0, 1));
        Edge.refused(70, "not of one WIDTH", -8, z -> z.paste(3, 0, 0, 0, 1));
        Edge.refused(70, "not of one WIDTH, none", -8, z -> z.paste(3, 0, 0, 0, 0));
        Edge.refused(70, "not of one WIDTH, ahead of -7", -8, z -> z.paste(3, -1, 0, 0, 1));
        int[][] beyond = {{3, 0, 1}, {0, 3, 1}, {0, 0, 4}, {2, 0, 2}, {0, 2, 2}, {1, 1, 3}, {4, 0, 0}, {0, 4, 0}, {-1, 0, 1}, {0, -1, 1}, {0, 0, -1},
            {-1, -1, 0}, {-1, 0, 2}, {0, -1, 2}, {3, 3, -1}, {MAX, 0, 1}, {0, MAX, 1}, {0, 0, MAX}, {1, 0, MAX}, {0, 1, MAX}, {MAX, MAX, MAX},
            {MIN, 0, 1}, {0, MIN, 1}, {0, 0, MIN}, {MAX, 0, MIN}, {MIN, MIN, MAX}, {MAX, 0, 2}, {0, MAX, 2}};
        for (int[] b : beyond) {
            String sentence = "beyond, or below 0, and nothing happens: from " + b[0] + " to " + b[1] + ", " + b[2];
            Edge.refused(70, sentence, -7, z -> z.paste(0, b[0], 1, b[1], b[2]));
            Edge.refused(70, sentence + ", its own", -7, z -> z.paste(0, b[0], 0, b[1], b[2]));
        }
    }
}
