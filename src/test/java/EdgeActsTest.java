/** Boundary cases of acts, of what is hushed, counted and kept: promises 58 to 61 and 64 to 67, and how long an object is used. */
public final class EdgeActsTest {
    private static final int MIN = Edge.MIN;
    private static final int MAX = Edge.MAX;
    private static final String TWO = "night hours 2 law 0 odds 0;pew rest;pew rest;aisle 0 1;";

    public static void main(String[] args) {
        light();
        draught();
        thirtyActs();
        actRefusals();
        undo();
        anew();
        hushes();
        hushesRefused();
        counts();
        images();
        imagesApart();
        imageActs();
        imageRefusals();
        longUse();
        Edge.end("EdgeActsTest");
    }

    private static void due(int promise, String sentence, long got, long want) {
        Edge.due(promise, sentence, got, want);
    }

    // ---- promises 58, 59

    private static void light() {
        TaperTalk x = Telling.told(TWO);
        for (int k = 1; k <= 4; k++) {
            due(58, "LETTER " + k + ": two in the last HOUR", x.light(0, k, 0), 2);
            due(58, "LETTER " + k + " in place of what it says", x.says(0, 0, 0), k);
        }
        x.anew();
        due(58, "in HOUR 1: the other hears it in the last", x.light(1, 1, 1), 2);
        x.anew();
        due(58, "in the last HOUR: nobody hears it", x.light(1, 1, 2), 1);
        due(10, "in the last HOUR alone", x.lit(1), 0);
        due(58, "the last PEW, too", x.light(0, 1, 2), 2);
        TaperTalk drop = Telling.told(TWO.replace("pew rest;aisle", "pew drop;aisle") + "light 0 1 2;");
        due(10, "1 hears two LETTERS", drop.lit(2), 3);
        due(58, "one LETTER: nothing is left of it", drop.light(0, 1, 0), 1);
        TaperTalk twelve = Telling.told("night hours 12 law 0 odds 0;" + "pew rest;".repeat(7));
        due(58, "the last PEW, LETTER, HOUR", twelve.light(6, 4, 12), 1);
        due(12, "the last PEW, LETTER, HOUR", twelve.says(6, 12, 0), 4);
    }

    private static void draught() {
        TaperTalk x = Telling.told(TWO + "light 0 1;");
        due(59, "in HOUR 0: nobody is lit", x.draught(0, 0), 0);
        x.anew();
        due(59, "in HOUR 1: it hears the other", x.draught(0, 1), 2);
        x.anew();
        due(59, "in the last HOUR", x.draught(0, 2), 1);
        due(59, "in the last HOUR, the last PEW", x.draught(1, 2), 0);
        due(59, "one that is out", x.draught(1, 2), 0);
        due(65, "is an act, too", x.count(7), 3);
        TaperTalk twelve = Telling.told(Edge.CHAIN);
        due(59, "the last PEW and HOUR", twelve.draught(6, 12), 6);
    }

    private static TaperTalk thirty() {
        TaperTalk x = Edge.busy();
        for (int i = 2; i < 30; i++) due(58, "act " + i, i % 2 == 0 ? x.light(4, 1, 5) : x.draught(3, 5), i == 2 ? 5 : 4);
        return x;
    }

    private static void thirtyActs() {
        due(65, "30 acts", thirty().count(7), 30);
        Edge.refusedOf(EdgeActsTest::thirty, 58, "there were 30 acts", -5, x -> x.light(0, 1, 0));
        Edge.refusedOf(EdgeActsTest::thirty, 59, "there were 30 acts", -5, x -> x.draught(0, 0));
        Edge.refusedOf(EdgeActsTest::thirty, 58, "-2 is asked ahead of -5", -2, x -> x.light(5, 1, 0));
        Edge.refusedOf(EdgeActsTest::thirty, 58, "-2 is asked ahead of -5", -2, x -> x.light(0, 5, 0));
        Edge.refusedOf(EdgeActsTest::thirty, 58, "-2 is asked ahead of -5", -2, x -> x.light(0, 1, 6));
        Edge.refusedOf(EdgeActsTest::thirty, 59, "-2 is asked ahead of -5", -2, x -> x.draught(5, 0));
        Edge.refusedOf(EdgeActsTest::thirty, 59, "-2 is asked ahead of -5", -2, x -> x.draught(0, 6));
        TaperTalk x = thirty();
        due(60, "the thirtieth is taken back", x.undo(), 29);
        due(58, "room for one", x.light(0, 1, 5), 4);
        due(58, "and for no other", x.light(0, 1, 5), -5);
        due(61, "all 30", x.anew(), 30);
        due(58, "room again", x.light(0, 1, 5), 5);
        TaperTalk kept = thirty();
        kept.image(2);
        kept.anew();
        kept.back(2);
        due(67, "30 acts come back", kept.count(7), 30);
        due(58, "there were 30 acts", kept.light(0, 1, 0), -5);
        due(4, "another NIGHT, nothing done", Telling.night(kept, TWO), 4);
        due(58, "room again", kept.light(0, 1, 2), 1);
    }

    private static void actRefusals() {
        for (int p : Edge.outside(5)) {
            Edge.refused(58, "there is no such PEW " + p, -2, x -> x.light(p, 1, 0));
            Edge.refused(59, "there is no such PEW " + p, -2, x -> x.draught(p, 0));
        }
        for (int h : Edge.outside(6)) {
            Edge.refused(58, "there is no such HOUR " + h, -2, x -> x.light(0, 1, h));
            Edge.refused(59, "there is no such HOUR " + h, -2, x -> x.draught(0, h));
        }
        for (int k : new int[] {0, 5, 6, 7, 8, 9, -1, 32, 256, MIN, MAX}) Edge.refused(58, "there is no such LETTER " + k, -2, x -> x.light(0, k, 0));
        due(58, "there are no PEWS", Telling.told(Edge.EMPTY).light(0, 1, 0), -2);
        due(59, "there are no PEWS", Telling.told(Edge.EMPTY).draught(0, 0), -2);
    }

    // ---- promises 60, 61

    private static void undo() {
        TaperTalk x = Telling.told(TWO);
        due(60, "there is none", x.undo(), -5);
        x.light(0, 1, 0);
        x.draught(0, 1);
        x.draught(1, 2);
        due(10, "three acts", x.lit(2), 1);
        due(60, "the latest: two are left", x.undo(), 2);
        due(10, "two acts", x.lit(2), 3);
        due(10, "two acts", x.lit(1), 2);
        due(60, "one is left", x.undo(), 1);
        due(10, "one act", x.lit(1), 3);
        due(60, "none is left", x.undo(), 0);
        due(10, "no act", x.lit(2), 0);
        due(60, "there is none", x.undo(), -5);
        due(65, "and none fewer", x.count(7), 0);
        due(60, "no PEWS, no act", Telling.told(Edge.EMPTY).undo(), -5);
        due(60, "there is no NIGHT", new TaperTalk().undo(), -2);
        Edge.refusedOf(() -> Telling.told(Edge.FIVE), 60, "there is none", -5, TaperTalk::undo);
        Edge.refusedOf(TaperTalk::new, 60, "there is no NIGHT", -2, TaperTalk::undo);
    }

    private static void anew() {
        TaperTalk x = Telling.told(TWO + "light 0 1;");
        due(61, "there were none", x.anew(), 0);
        x.draught(0, 0);
        due(61, "there was one", x.anew(), 1);
        due(10, "as told", x.lit(2), 3);
        due(60, "none is left to take back", x.undo(), -5);
        due(61, "there were none any more", x.anew(), 0);
        due(61, "no PEWS, no acts", Telling.told(Edge.EMPTY).anew(), 0);
        due(61, "there is no NIGHT", new TaperTalk().anew(), -2);
        Edge.refusedOf(TaperTalk::new, 61, "there is no NIGHT", -2, TaperTalk::anew);
    }

    // ---- promise 64: hushes

    private static void hushes() {
        TaperTalk x = Telling.told(Edge.BASE + "pew rest;pew turn;pew drop;pew add 4;pew change 1 2;pew add 1;pew change 3 4;");
        int[] kinds = {0, 1, 2, 3, 4, 3, 4};
        for (int p = 0; p < 7; p++) {
            due(64, "the kind of what it was, PEW " + p, x.hushes(p), kinds[p]);
            for (int w = 0; w < 3; w++) due(64, "rest from now on, what " + w, x.pew(p, w), 0);
            due(64, "rest again", x.hushes(p), 0);
            for (int q = p + 1; q < 7; q++) due(64, "others stay", x.pew(q, 0), kinds[q]);
        }
        TaperTalk drop = Telling.told(TWO.replace("pew rest;aisle", "pew drop;aisle") + "light 0 1;");
        due(10, "nothing is left", drop.lit(2), 1);
        due(39, "nothing is left", drop.worth(1), 1);
        due(64, "drop", drop.hushes(1), 2);
        due(10, "rest from now on", drop.lit(2), 3);
        due(39, "rest from now on", drop.worth(1), 2);
        due(65, "LINES stay", drop.count(8), 5);
        drop.light(0, 1, 0);
        due(64, "an act that is not taken back", drop.hushes(0), -5);
        drop.undo();
        due(64, "it is", drop.hushes(0), 0);
        drop.light(0, 1, 0);
        drop.anew();
        due(64, "all are", drop.hushes(0), 0);
    }

    private static void hushesRefused() {
        for (int p : Edge.outside(5)) Edge.refused(64, "there is none such, asked ahead of -5: " + p, -2, x -> x.hushes(p));
        for (int p = 0; p < 5; p++) {
            int pew = p;
            Edge.refused(64, "there are acts that are not taken back", -5, x -> x.hushes(pew));
            due(64, "the RULE stays", afterRefusal(pew), p);
        }
        due(64, "there are no PEWS", Telling.told(Edge.EMPTY).hushes(0), -2);
        TaperTalk one = Telling.told(Edge.FIVE);
        due(64, "there is none such", one.hushes(5), -2);
    }

    /** The RULES of FIVE are rest, turn, drop, add, change: each PEW's kind is its number. */
    private static int afterRefusal(int pew) {
        TaperTalk x = Edge.busy();
        x.hushes(pew);
        return x.pew(pew, 0);
    }

    // ---- promise 65: count

    private static void counts() {
        TaperTalk x = Edge.busy();
        int[] due = {5, 0, 5, 5, 4, 1, 1, 2, 12, 40, 3};
        for (int w = 0; w < 11; w++) due(65, "what " + w, x.count(w), due[w]);
        for (int w : Edge.outside(11)) {
            due(65, "others: " + w, x.count(w), -1);
            Edge.refused(65, "others: " + w, -1, z -> z.count(w));
        }
        TaperTalk none = new TaperTalk();
        for (int w : Edge.outside(11)) due(65, "others without a NIGHT: " + w, none.count(w), -1);
        none.feed(0, 0, 0, 0, 0);
        due(65, "bytes without a NIGHT", none.count(9), 20);
        for (int s = 0; s < 4; s++) {
            none.row(s, s, 0);
            due(65, "SLOTS that have a row, of none, too", none.count(10), s + 1);
        }
        none.row(0, 0, 60);
        due(65, "in place of another", none.count(10), 4);
        TaperTalk y = Telling.told(TWO);
        y.light(0, 1, 0);
        y.light(0, 5, 0);
        y.draught(0, 9);
        due(65, "acts that were refused are none", y.count(7), 1);
    }

    // ---- promises 66, 67

    private static void images() {
        for (int k = 0; k < 3; k++) {
            TaperTalk x = Telling.told(Edge.FIVE);
            x.light(2, 4, 0);
            due(67, "it has nothing", x.back(k), -6);
            due(66, "IMAGE " + k, x.image(k), 0);
            for (int other = 0; other < 3; other++) if (other != k) due(67, "others have nothing", x.back(other), -6);
            x.anew();
            x.hushes(3);
            x.draught(0, 0);
            due(67, "IMAGE " + k, x.back(k), 0);
            due(67, "its act", x.count(7), 1);
            due(67, "its RULE", x.pew(3, 0), 3);
            due(67, "its course", x.says(2, 5, 0), 4);
            due(67, "its sets", x.worth(4), 5);
            Telling.night(x, "");
            due(67, "no NIGHT now", x.lit(0), -2);
            due(67, "and back, a second time", x.back(k), 0);
            due(67, "its LINES", x.count(8), 12);
            due(60, "its act is taken back", x.undo(), 0);
            due(67, "and back, a third time", x.back(k), 0);
            due(67, "its act", x.count(7), 1);
            Telling.night(x, TWO);
            due(66, "in place of what it had", x.image(k), 0);
            x.light(0, 1, 0);
            x.back(k);
            due(67, "in place of what it had", x.count(8), 4);
            due(67, "in place of what it had", x.count(7), 0);
            due(67, "in place of what it had", x.near(2), -2);
        }
    }

    private static void imagesApart() {
        TaperTalk x = new TaperTalk();
        due(66, "of no NIGHT", x.image(0), 0);
        Telling.night(x, TWO);
        due(66, "of one NIGHT", x.image(1), 0);
        Telling.night(x, Edge.FIVE);
        due(66, "of another", x.image(2), 0);
        int[] lines = {0, 4, 12};
        for (int turn = 0; turn < 6; turn++) {
            int k = turn * 2 % 3;
            due(67, "IMAGE " + k, x.back(k), 0);
            due(67, "IMAGE " + k, x.count(8), lines[k]);
            due(67, "IMAGE " + k, x.lit(0), k == 0 ? -2 : k == 1 ? 0 : 1);
        }
        TaperTalk y = Telling.told(TWO);
        Telling.row(y, 0, 1, 2);
        y.feed(0x20202020, 0x20202020, 0x20202020, 0x20202020, 0x20202020);
        y.image(0);
        Telling.row(y, 0, 3);
        y.end(7);
        y.back(0);
        due(67, "rows are no part of it", y.heard(0, 0, 0, 0), 3);
        due(67, "the TAPE is no part of it", y.count(9), 7);
        Telling.night(y, "night hours 13");
        y.back(0);
        due(67, "the FAULT is no part of it", y.fault(0), 2);
    }

    /** What is done behind an IMAGE does not come into it: an act's PEW, LETTER and HOUR are its own. */
    private static void imageActs() {
        String text = "night hours 2 law 0 odds 0;pew rest;pew rest;";
        int[][] acts = {{0, 1, 0}, {1, 1, 0}, {0, 2, 0}, {0, 1, 2}, {1, 0, 1}};
        for (int[] kept : acts) {
            for (int[] later : acts) {
                TaperTalk x = Telling.told(text + "light 0 3;light 1 4;");
                act(x, kept);
                int says = x.says(kept[0], kept[2], 0);
                x.image(0);
                x.anew();
                act(x, later);
                x.back(0);
                due(67, "its act", x.says(kept[0], kept[2], 0), says);
                due(67, "the LETTER of its act", x.says(kept[0], kept[2], 0), kept[1] == 0 ? -1 : kept[1]);
                due(67, "the other PEW is as told", x.says(1 - kept[0], 2, 0), 4 - kept[0]);
                if (kept[2] > 0) due(67, "the HOUR of its act", x.says(kept[0], kept[2] - 1, 0), 3 + kept[0]);
            }
        }
    }

    private static void act(TaperTalk x, int[] act) {
        if (act[1] == 0) x.draught(act[0], act[2]);
        else x.light(act[0], act[1], act[2]);
    }

    private static void imageRefusals() {
        for (int k : Edge.outside(3)) {
            Edge.refused(66, "no such k: " + k, -2, x -> x.image(k));
            Edge.refused(67, "no such k: " + k, -2, x -> x.back(k));
        }
        Edge.refused(67, "it has nothing", -6, x -> x.back(2));
    }

    // ---- what it is: 512 calls

    private static void longUse() {
        TaperTalk x = Telling.told(Edge.FIVE);
        for (int i = 0; i < 250; i++) {
            due(58, "act after act: 0, 1 and 4 say one LETTER", x.light(0, 1, 0), 3);
            due(60, "and taken back", x.undo(), 0);
        }
        due(10, "the 512th call", x.lit(5), 31);
    }
}
