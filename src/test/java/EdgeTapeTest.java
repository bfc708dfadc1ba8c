import java.util.List;

/** Boundary cases of the TAPE, its FAULTS and the NIGHT: promises 1 to 5, terms I. */
public final class EdgeTapeTest {
    private static final int MIN = Edge.MIN;
    private static final int MAX = Edge.MAX;
    private static final String BASE = Edge.BASE;

    public static void main(String[] args) {
        newObject();
        feed();
        feedIsFull();
        end();
        night();
        noNight();
        faultStays();
        fault();
        nightBounds();
        ruleBounds();
        pewsToldAhead();
        lightLetters();
        draughtBounds();
        mostLines();
        firstLine();
        tokens();
        everyByte();
        everyPrefix();
        endOfTape();
        firstByPlace();
        Edge.end("EdgeTapeTest");
    }

    private static void due(int promise, String sentence, long got, long want) {
        Edge.due(promise, sentence, got, want);
    }

    // ---- promise 1: a new object

    private static void newObject() {
        TaperTalk x = new TaperTalk();
        for (int w = 0; w <= 10; w++) due(1, "new: count " + w, x.count(w), 0);
        due(1, "new: no FAULT", x.fault(0), 0);
        due(1, "new: no FAULT's place", x.fault(1), -1);
        for (int k = 0; k < 3; k++) due(1, "new: IMAGE " + k + " has nothing", x.back(k), -6);
        for (int s = 0; s < 4; s++) due(1, "new: SLOT " + s + " has nothing", x.write(s, 0, 0), -6);
        due(1, "no NIGHT: no HOUR 0", x.lit(0), -2);
        due(1, "no NIGHT: no PEW 0", x.pew(0, 0), -2);
        due(1, "no NIGHT: no LIGHT 0", x.told(0, 0), -2);
        due(1, "no NIGHT, asked ahead of nothing in a SLOT", x.whom(0), -2);
        due(1, "no NIGHT, asked ahead of nothing in a SLOT", x.ask(0), -2);
        due(1, "no NIGHT, asked ahead of nothing in a SLOT", x.leaves(0), -2);
        due(1, "no NIGHT, asked ahead of nothing in a SLOT", x.laws(0), -2);
        due(1, "no NIGHT, asked ahead of nothing in a SLOT", x.hears(0, 0, 0), -2);
        due(1, "no NIGHT", x.share(0, 0), -2);
        due(1, "no NIGHT", x.gust(0), -2);
        due(1, "no NIGHT", x.replies(0), -2);
        due(1, "no NIGHT", x.gets(0, 1, 0, 0), -1000);
        due(1, "no NIGHT", x.chance(0, 0, 0), -2);
        due(1, "no NIGHT", x.mean(0, 0), -2);
        due(1, "no NIGHT", x.drawn(0, 0), -2);
        due(1, "no NIGHT", x.luck(0, 1, 0), -2);
        due(1, "no NIGHT", x.hushes(0), -2);
        due(1, "no NIGHT", x.light(0, 1, 0), -2);
        due(1, "no NIGHT", x.draught(0, 0), -2);
        due(1, "no NIGHT, asked ahead of no act", x.undo(), -2);
    }

    // ---- promise 2: feed

    private static int feedText(TaperTalk x, String twenty) {
        int[] five = new int[5];
        for (int i = 0; i < 20; i++) five[i / 4] = five[i / 4] << 8 | twenty.charAt(i) & 255;
        return x.feed(five[0], five[1], five[2], five[3], five[4]);
    }

    private static void feed() {
        TaperTalk x = new TaperTalk();
        due(2, "the first twenty", x.feed(0x6e696768, 0x7420686f, 0x75727320, 0x31206c61, 0x77203020), 20);
        due(2, "behind them", x.feed(0x6f646473, 0x20303b20, 0x20202020, 0x20202020, 0x20202020), 40);
        due(2, "the highest byte first, number by number", x.night(), 1);
        for (int place = 0; place < 20; place++) {
            TaperTalk y = new TaperTalk();
            StringBuilder text = new StringBuilder(" ".repeat(20));
            text.setCharAt(place, '#');
            feedText(y, text.toString());
            due(2, "byte " + place + " of twenty", y.night(), -4);
            due(2, "byte " + place + " of twenty stands at its place", y.fault(1), place);
        }
        TaperTalk y = new TaperTalk();
        due(2, "numbers below 0", y.feed(0x202020ff, -1, MIN, -1, -1), 20);
        due(2, "bytes above 127 are bytes", y.night(), -4);
        due(2, "the first of them", y.fault(1), 3);
    }

    private static TaperTalk fullTape() {
        TaperTalk x = new TaperTalk();
        StringBuilder text = new StringBuilder(BASE);
        while (text.length() < 591) text.append(text.length() % 2 == 0 ? ' ' : '\n');
        text.append("pew rest;");
        for (int i = 0; i < 600; i += 20) due(2, "up to 600", feedText(x, text.substring(i, i + 20)), i + 20);
        return x;
    }

    private static void feedIsFull() {
        TaperTalk x = fullTape();
        due(2, "600 are there", x.count(9), 600);
        due(2, "more than 600", x.feed(0x23232323, 0x23232323, 0x23232323, 0x23232323, 0x23232323), -1);
        due(2, "none come", x.count(9), 600);
        due(4, "a TAPE of 600 bytes", x.night(), 2);
        for (int n = 580; n <= 600; n++) {
            TaperTalk y = fullTape();
            y.end(n);
            due(2, n + " and 20", y.feed(0x20202020, 0x20202020, 0x20202020, 0x20202020, 0x2020203b), n == 580 ? 600 : -1);
            due(2, n + " and 20: none come, or all", y.count(9), n == 580 ? 600 : n);
        }
        Edge.refusedOf(EdgeTapeTest::fullTape, 2, "more than 600, and none come", -1, z -> z.feed(1, 2, 3, 4, 5));
        TaperTalk again = fullTape();
        again.end(0);
        due(2, "room again behind end(0)", again.feed(0, 0, 0, 0, 0), 20);
        TaperTalk told = fullTape();
        told.night();
        due(2, "room again behind night()", told.feed(0, 0, 0, 0, 0), 20);
    }

    // ---- promise 3: end

    private static void end() {
        TaperTalk x = new TaperTalk();
        due(3, "of an empty TAPE none", x.end(0), 0);
        due(3, "it has not so many", x.end(1), -1);
        due(3, "below 0", x.end(-1), -1);
        feedText(x, "night hours 1 law 0 ");
        due(3, "all that it has", x.end(20), 20);
        due(3, "one more than it has", x.end(21), -1);
        due(3, "nothing happens", x.count(9), 20);
        due(3, "one fewer", x.end(19), 19);
        due(3, "what is cut does not come back", x.end(20), -1);
        due(3, "nothing happens", x.count(9), 19);
        due(3, "its first ones alone", x.end(12), 12);
        due(2, "behind what end() left", feedText(x, "2 law 3 odds 0;     "), 32);
        due(3, "the first n bytes are those told ahead", x.night(), 1);
        due(3, "the first n bytes are those told ahead", x.count(0), 2);
        feedText(x, "                   #");
        due(3, "the last byte alone is cut", x.end(19), 19);
        due(3, "the last byte alone is cut", x.night(), 0);
        feedText(x, "                   #");
        due(3, "none is left", x.end(0), 0);
        due(3, "none is left", x.count(9), 0);
        for (int n : new int[] {-1, -2, 41, 42, 600, 601, MIN, MAX}) {
            Edge.refused(3, "it has not so many, or below 0: " + n, -1, z -> z.end(n));
        }
    }

    // ---- promise 4: night

    private static String mostText() {
        StringBuilder t = new StringBuilder("night hours 12 law 3 odds 10;" + "pew rest;".repeat(7));
        int aisles = 0;
        for (int p = 0; p < 7; p++) for (int q = p + 1; q < 7; q++) if (aisles++ < 12) t.append("aisle " + p + " " + q + ";");
        for (int l = 0; l < 4; l++) t.append("light " + l + " 1 2 3 4 1 2;");
        for (int d = 0; d < 6; d++) t.append("draught " + d + " at 11;");
        return t.toString();
    }

    private static void night() {
        TaperTalk x = new TaperTalk();
        due(4, "the most LINES", Telling.night(x, mostText()), 30);
        int[] counts = {12, 3, 10, 7, 12, 4, 6, 0, 30, 0, 0};
        for (int w = 0; w < 11; w++) due(65, "the most, count " + w, x.count(w), counts[w]);
        due(4, "the TAPE is empty then", x.count(9), 0);
        x.light(0, 1, 12);
        due(4, "the fewest LINES, in place of another", Telling.night(x, "night hours 1 law 0 odds 0;"), 1);
        int[] fewest = {1, 0, 0, 0, 0, 0, 0, 0, 1, 0, 0};
        for (int w = 0; w < 11; w++) due(65, "the fewest, count " + w, x.count(w), fewest[w]);
        due(4, "nothing done", x.undo(), -5);
        Telling.night(x, "night hours 1 law 0 odds 0;" + "pew rest;".repeat(7));
        for (int p = 0; p < 7; p++) due(4, "no AISLE of the one ahead", x.near(p), 0);
        due(4, "no LIGHT of the one ahead", x.lit(0), 0);
        due(4, "no LIGHT of the one ahead", x.told(0, 0), -2);
        due(4, "no DRAUGHT of the one ahead", x.guard(), -1);
    }

    private static void noNight() {
        for (String blank : List.of("", " ", "\n", " \n \n  ", " ".repeat(40))) {
            TaperTalk x = Telling.told(Edge.FIVE.replace("law 0", "law 3"));
            x.light(0, 1, 0);
            x.image(0);
            x.row(0, 0, 3);
            due(4, "no LINE", Telling.night(x, blank), 0);
            due(4, "there is none then", x.lit(0), -2);
            due(4, "there is none then", x.undo(), -2);
            due(4, "there is none then", x.pew(0, 0), -2);
            due(4, "there is none then", x.told(0, 0), -2);
            for (int w = 0; w <= 9; w++) due(4, "there is none then, count " + w, x.count(w), 0);
            due(4, "rows are no part of it", x.count(10), 1);
            due(5, "no LINE is no FAULT", x.fault(0), 0);
            due(5, "no LINE is no FAULT", x.fault(1), -1);
            due(4, "IMAGES are no part of it", x.back(0), 0);
            due(4, "IMAGES are no part of it", x.count(8), 12);
        }
        TaperTalk twice = new TaperTalk();
        Telling.night(twice, BASE);
        due(4, "the TAPE is empty then: none the second time", twice.night(), 0);
        due(4, "the TAPE is empty then: none the second time", twice.still(), -2);
    }

    private static TaperTalk busyWithoutTape(String faulty) {
        TaperTalk x = Edge.busy();
        x.end(0);
        Telling.feed(x::feed, faulty, '#');
        x.end(faulty.length());
        return x;
    }

    /** The portrait of one whose latest night() had the same FAULT, and whose TAPE is empty, must be as this one's. */
    private static void faultStays() {
        String again = "night hours 13";
        for (String faulty : List.of(again, again + "law", again + ";pew rest;")) {
            TaperTalk x = busyWithoutTape(faulty);
            due(4, "a FAULT", x.night(), -4);
            due(4, "the refused TAPE is used up", x.count(9), 0);
            TaperTalk was = Edge.busy();
            was.end(0);
            Edge.same(4, "a FAULT, and all stays", Edge.portrait(was), Edge.portrait(x));
        }
        TaperTalk x = new TaperTalk();
        due(4, "a FAULT", Telling.night(x, BASE + "pew rest;aisle 0 1;"), -4);
        due(4, "no NIGHT stays none", x.lit(0), -2);
        due(4, "no NIGHT stays none", x.count(3), 0);
        due(4, "no NIGHT stays none", x.count(8), 0);
    }

    // ---- promise 5: fault

    private static void fault() {
        TaperTalk x = new TaperTalk();
        due(5, "ahead of any, what 0", x.fault(0), 0);
        due(5, "ahead of any, what 1", x.fault(1), -1);
        due(5, "ahead of any, another what", x.fault(2), -1);
        due(5, "ahead of any, another what", x.fault(-1), -1);
        Telling.night(x, "#");
        due(5, "its FAULT", x.fault(0), 1);
        due(5, "its place, the first one", x.fault(1), 0);
        for (int what : new int[] {-1, 2, 3, 256, 1 << 16, MIN, MAX}) due(5, "another what " + what, x.fault(what), -1);
        Telling.night(x, "night hours 13");
        due(5, "of the latest", x.fault(0), 2);
        due(5, "of the latest", x.fault(1), 12);
        x.feed(0, 0, 0, 0, 0);
        x.end(3);
        x.image(0);
        x.back(0);
        x.count(0);
        due(5, "of the latest night(), whatever else is called", x.fault(0), 2);
        due(5, "of the latest night(), whatever else is called", x.fault(1), 12);
        Telling.night(x, BASE);
        due(5, "without", x.fault(0), 0);
        due(5, "its place, without", x.fault(1), -1);
        due(5, "another what, without", x.fault(2), -1);
        for (int what : new int[] {-1, 2, MIN, MAX}) Edge.refused(5, "another what " + what, -1, z -> z.fault(what));
        TaperTalk last = new TaperTalk();
        String text = BASE + " ".repeat(572) + "p";
        Telling.night(last, text);
        due(5, "the last place of the TAPE", last.fault(1), 599);
        Telling.night(last, BASE.substring(0, 26) + " ".repeat(574));
        due(5, "the end of a full TAPE", last.fault(0), 1);
        due(5, "the end of a full TAPE", last.fault(1), 600);
    }

    // ---- terms I: what is told, and FAULTS

    private static void fine(String text, int lines) {
        TaperTalk x = new TaperTalk();
        due(4, text, Telling.night(x, text), lines);
        due(5, text, x.fault(0), 0);
        due(5, text + " at", x.fault(1), -1);
        due(65, text, x.count(8), lines);
    }

    /** The sign ^ stands ahead of the place, and is taken out. */
    private static void faulty(int kind, String marked) {
        int place = marked.indexOf('^');
        String text = marked.substring(0, place) + marked.substring(place + 1);
        TaperTalk x = new TaperTalk();
        due(4, text, Telling.night(x, text), -4);
        due(5, text, x.fault(0), kind);
        due(5, text + " at", x.fault(1), place);
        due(4, "all stays: " + text, x.count(8), 0);
    }

    private static void nightBounds() {
        for (int n = 0; n <= 40; n++) {
            if (n >= 1 && n <= 12) fine("night hours " + n + " law 0 odds 0;", 1);
            else faulty(2, "night hours ^" + n + " law 0 odds 0;");
            if (n <= 3) fine("night hours 1 law " + n + " odds 0;", 1);
            else faulty(2, "night hours 1 law ^" + n + " odds 0;");
            if (n <= 10) fine("night hours 1 law 0 odds " + n + ";", 1);
            else faulty(2, "night hours 1 law 0 odds ^" + n + ";");
        }
        for (String huge : List.of("256", "257", "1000", "1001", "65537", "4294967296", "4294967297", "18446744073709551617", "1".repeat(200))) {
            faulty(2, "night hours ^" + huge + " law 0 odds 0;");
            faulty(2, "night hours 1 law ^" + huge + " odds 0;");
            faulty(2, "night hours 1 law 0 odds ^" + huge + ";");
        }
        fine("night hours 0012 law 00 odds " + "0".repeat(100) + "10;", 1);
        faulty(2, "night hours ^0000 law 0 odds 0;");
        TaperTalk x = Telling.told("night hours 012 law 03 odds 010;");
        due(65, "digits", x.count(0), 12);
        due(65, "digits", x.count(1), 3);
        due(65, "digits", x.count(2), 10);
    }

    private static void ruleBounds() {
        for (int k = 0; k <= 12; k++) {
            boolean letter = k >= 1 && k <= 4;
            if (letter) fine(BASE + "pew add " + k + ";", 2);
            else faulty(2, BASE + "pew add ^" + k + ";");
            for (int l = 0; l <= 6; l++) {
                boolean second = l >= 1 && l <= 4 && l != k;
                if (!letter) faulty(2, BASE + "pew change ^" + k + " " + l + ";");
                else if (second) fine(BASE + "pew change " + k + " " + l + ";", 2);
                else faulty(2, BASE + "pew change " + k + " ^" + l + ";");
            }
        }
        faulty(2, BASE + "pew add ^4294967297;");
        faulty(2, BASE + "pew change 1 ^4294967298;");
        faulty(1, BASE + "pew add^;");
        faulty(1, BASE + "pew add 1 ^1;");
        faulty(1, BASE + "pew change^;");
        faulty(1, BASE + "pew change 1^;");
        faulty(1, BASE + "pew change 1 2 ^3;");
        for (String rule : List.of("rest", "turn", "drop")) {
            fine(BASE + "pew " + rule + ";", 2);
            faulty(1, BASE + "pew " + rule + " ^1;");
            faulty(1, BASE + "pew ^" + rule.substring(0, 3) + ";");
            faulty(1, BASE + "pew ^" + rule + "s;");
        }
        faulty(1, BASE + "pew ^ad 1;");
        faulty(1, BASE + "pew ^adds 1;");
        faulty(1, BASE + "pew ^chang 1 2;");
        faulty(1, BASE + "pew ^1;");
        faulty(1, BASE + "pew^;");
        faulty(1, BASE + "pew ^pew;");
    }

    private static void pewsToldAhead() {
        for (int pews = 0; pews <= 7; pews++) {
            String ahead = BASE + "pew rest;".repeat(pews);
            for (int p = 0; p <= 9; p++) {
                if (p < pews) {
                    fine(ahead + "light " + p + " 1;", pews + 2);
                    fine(ahead + "draught " + p + " at 0;", pews + 2);
                } else {
                    faulty(2, ahead + "light ^" + p + " 1;");
                    faulty(2, ahead + "draught ^" + p + " at 0;");
                    faulty(2, ahead + "aisle ^" + p + " 0;");
                }
                if (p > 0 && p < pews) {
                    fine(ahead + "aisle 0 " + p + ";", pews + 2);
                    fine(ahead + "aisle " + p + " 0;", pews + 2);
                } else if (pews > 0) {
                    faulty(2, ahead + "aisle 0 ^" + p + ";");
                }
            }
        }
        String two = BASE + "pew rest;pew rest;";
        faulty(2, BASE + "pew rest;aisle 0 ^1;pew rest;");
        fine(two + "aisle 0 1;", 4);
        faulty(2, two + "aisle 0 1;aisle 0 ^1;");
        faulty(2, two + "aisle 0 1;aisle 1 ^0;");
        faulty(2, two + "aisle 1 0;aisle 0 ^1;");
        faulty(2, two + "aisle 1 ^1;");
        faulty(2, two + "aisle ^2 2;");
        faulty(2, two + "aisle 0 ^32;");
        faulty(2, two + "aisle 1 ^4294967296;");
        faulty(2, two + "aisle ^4294967296 1;");
        faulty(1, two + "aisle^;");
        faulty(1, two + "aisle 0^;");
        faulty(1, two + "aisle 0 1 ^0;");
        faulty(1, two + "aisle 0 ^at 1;");
        fine(two + "pew rest;aisle 0 1;aisle 1 2;aisle 2 0;", 7);
        TaperTalk mixed = Telling.told(BASE + "pew add 1;light 0 1;pew add 2;draught 1 at 1;aisle 1 0;light 1 2;pew add 3;");
        for (int p = 0; p < 3; p++) due(6, "numbered as they stand", mixed.pew(p, 1), p + 1);
        for (int l = 0; l < 2; l++) due(9, "numbered as they stand", mixed.told(l, 0), l + 1);
    }

    private static void lightLetters() {
        String one = BASE + "pew rest;";
        for (int k = 0; k <= 9; k++) {
            for (int ahead = 0; ahead <= 6; ahead++) {
                String light = one + "light 0" + " 4".repeat(ahead);
                boolean letter = k >= 1 && k <= 4;
                if (!letter) faulty(2, light + " ^" + k + ";");
                else if (ahead == 6) faulty(3, light + " ^" + k + ";");
                else fine(light + " " + k + ";", 3);
            }
        }
        faulty(1, one + "light^;");
        faulty(1, one + "light 0^;");
        faulty(1, one + "light 0^");
        faulty(1, one + "light 0 ^pew");
        faulty(1, one + "light 0 1 2 3 4 1 2 ^pew");
        faulty(1, one + "light 0 1 2 3 4 1 2^");
        faulty(1, one + "light 0 1 2 3 4 1 2 ^#");
        faulty(3, one + "light 0 1 2 3 4 1 2 ^3 5;");
        faulty(2, one + "light 0 1 2 3 4 1 2 ^4294967297;");
    }

    private static void draughtBounds() {
        String one = "night hours 1 law 0 odds 0;pew rest;";
        for (int n = 0; n <= 20; n++) {
            if (n <= 11) fine(one + "draught 0 at " + n + ";", 3);
            else faulty(2, one + "draught 0 at ^" + n + ";");
        }
        faulty(2, one + "draught 0 at ^4294967296;");
        faulty(1, one + "draught^;");
        faulty(1, one + "draught 0^;");
        faulty(1, one + "draught 0 at^;");
        faulty(1, one + "draught 0 at 1 ^1;");
        faulty(1, one + "draught 0 ^1;");
        faulty(1, one + "draught ^at 1;");
    }

    private static void mostLines() {
        String most = mostText();
        fine(most, 30);
        faulty(3, most + "^pew rest;");
        faulty(3, most + "^aisle 4 5;");
        faulty(3, most + "^light 0 1;");
        faulty(3, most + "^draught 0 at 1;");
        faulty(3, most + "^pew");
        faulty(3, most + "^pew jump;");
        faulty(3, most + "^aisle 0 0;");
        faulty(3, most + "^aisle 9 9;");
        faulty(3, most + "^light 9 9;");
        faulty(3, most + "^draught 9 at 99;");
        faulty(1, most + "^at;");
        faulty(1, most + "^night hours 1 law 0 odds 0;");
        fine(BASE + "pew rest;".repeat(7), 8);
        faulty(3, BASE + "pew rest;".repeat(7) + "^pew rest;");
        String lights = BASE + "pew rest;" + "light 0 1;".repeat(4);
        fine(lights, 6);
        faulty(3, lights + "^light 0 1;");
        String draughts = BASE + "pew rest;" + "draught 0 at 1;".repeat(6);
        fine(draughts, 8);
        faulty(3, draughts + "^draught 0 at 1;");
        String twelve = most.substring(0, most.indexOf("light"));
        fine(twelve, 20);
        faulty(3, twelve + "^aisle 5 6;");
    }

    private static void firstLine() {
        faulty(1, "^;");
        faulty(1, "^1;");
        for (String word : List.of("pew", "aisle", "light", "draught", "hours", "at", "x")) {
            faulty(1, "^" + word + " rest;");
            if (!List.of("pew", "aisle", "light", "draught").contains(word)) faulty(1, BASE + "^" + word + " rest;");
        }
        faulty(1, BASE + "^night hours 3 law 0 odds 0;");
        faulty(1, BASE + "pew rest;^night hours 3 law 0 odds 0;");
        faulty(1, BASE + "^;");
        faulty(1, BASE + "pew rest;^;");
        faulty(1, BASE + "^0;");
        faulty(1, "night^;");
        faulty(1, "night ^law 0;");
        faulty(1, "night hours ^law 0;");
        faulty(1, "night hours^;");
        faulty(1, "night hours 1 ^odds 0 law 0;");
        faulty(1, "night hours 1^;");
        faulty(1, "night hours 1 ^2 law 0;");
        faulty(1, "night hours 1 law^;");
        faulty(1, "night hours 1 law 0^;");
        faulty(1, "night hours 1 law 0 ^law 0;");
        faulty(1, "night hours 1 law 0 odds^;");
        faulty(1, "night hours 1 law 0 odds 0 ^0;");
        faulty(1, "night hours 1 law 0 odds 0 ^pew rest;");
        faulty(1, "night ^1;");
    }

    private static void tokens() {
        fine("night hours3law0odds0;pew add4;pew change1 2;", 3);
        fine("\n night\n\nhours\n3\nlaw\n0\nodds\n0\n;\n", 1);
        faulty(1, "^nighthours 3 law 0 odds 0;");
        faulty(1, "^nights hours 3 law 0 odds 0;");
        faulty(1, "^nigh t hours 3 law 0 odds 0;");
        faulty(1, "^ni\nght hours 3 law 0 odds 0;");
        faulty(1, "night hours 1 ^2 law 0 odds 0;");
        faulty(2, "night hours ^13law 0 odds 0;");
        faulty(1, BASE + "pew change 1^#2;");
        faulty(2, BASE + "pew change ^12;");
        faulty(1, BASE + "^;;");
        faulty(1, BASE + "pew rest ^, pew rest;");
        faulty(1, BASE + "pew add ^-1;");
        faulty(1, BASE + "pew add ^+1;");
        faulty(1, BASE + "pew add 1^.0;");
        faulty(1, "^Night hours 3 law 0 odds 0;");
        faulty(1, "^nIght hours 3 law 0 odds 0;");
    }

    /** Each byte there is, where a blank stands, and behind a number. */
    private static void everyByte() {
        for (int b = 0; b < 256; b++) {
            String sign = "" + (char) b;
            boolean blank = b == 32 || b == 10;
            boolean word = b >= 'a' && b <= 'z';
            boolean digit = b >= '0' && b <= '9';
            if (b == '^') continue;
            if (blank) fine(BASE + "pew" + sign + "rest;", 2);
            else if (word) faulty(1, BASE + "^pew" + sign + "rest;");
            else faulty(1, BASE + "pew^" + sign + "rest;");
            String light = BASE + "pew rest;light 0 ";
            if (blank) fine(light + "1" + sign + ";", 3);
            else if (digit) faulty(2, light + "^1" + sign + ";");
            else if (b == ';') faulty(1, light + "1" + sign + "^;");
            else faulty(1, light + "1^" + sign + ";");
            if (blank) fine(sign + BASE + sign, 1);
            else faulty(1, BASE + "^" + sign);
        }
        TaperTalk x = new TaperTalk();
        due(4, "the byte 94", Telling.night(x, BASE + (char) 94), -4);
        due(5, "the byte 94", x.fault(1), 27);
    }

    /** A text cut by end() at any place: a word that is cut is none, at its first byte; else the end can't stand there. */
    private static void everyPrefix() {
        String whole = "night hours 1 law 0 odds 0 ; pew rest ;\npew turn;pew drop; pew add 3 ; pew change 2 4; aisle 0 1 ; light 0 1 2 ; draught 1 at 1 ; ";
        for (int n = 0; n <= whole.length(); n++) {
            String text = whole.substring(0, n);
            String said = text.stripTrailing();
            int start = n;
            boolean inWord = n < whole.length() && Character.isLowerCase(whole.charAt(n));
            while (inWord && start > 0 && Character.isLowerCase(whole.charAt(start - 1))) start--;
            int lines = (int) text.chars().filter(c -> c == ';').count();
            boolean ended = said.isEmpty() || said.endsWith(";");
            TaperTalk x = new TaperTalk();
            Telling.feed(x::feed, whole, '7');
            x.end(n);
            boolean taken = ended && start == n;
            due(4, "cut at " + n, x.night(), taken ? lines : -4);
            due(5, "cut at " + n, x.fault(0), taken ? 0 : 1);
            due(5, "cut at " + n + ", at", x.fault(1), taken ? -1 : start);
        }
    }

    /** What stands behind the end, and behind the last byte that a TAPE can have, is not read. */
    private static void endOfTape() {
        for (String behind : List.of("1", "0", "t", "z", ";", " ", "\n", "#", "pew rest;")) {
            TaperTalk x = new TaperTalk();
            String text = "night hours 1 law 0 odds 1";
            Telling.feed(x::feed, text + behind, '9');
            x.end(text.length());
            due(4, "a number at the end, behind it " + behind, x.night(), -4);
            due(5, "a number at the end, behind it " + behind, x.fault(0), 1);
            due(5, "a number at the end, behind it " + behind, x.fault(1), text.length());
            TaperTalk y = new TaperTalk();
            Telling.feed(y::feed, BASE + "pew rest" + behind, 't');
            y.end(BASE.length() + 8);
            due(4, "a word at the end, behind it " + behind, y.night(), -4);
            due(5, "a word at the end, behind it " + behind, y.fault(1), BASE.length() + 8);
            TaperTalk z = new TaperTalk();
            Telling.feed(z::feed, BASE + behind, ' ');
            z.end(BASE.length());
            due(4, "a sign at the end, behind it " + behind, z.night(), 1);
        }
        for (String last : List.of("pew add 1", "pew rest", "pew change 1", "light", "1", "12")) {
            TaperTalk x = new TaperTalk();
            String text = BASE + "pew rest;" + " ".repeat(564 - last.length()) + last;
            due(4, "600 bytes that end by " + last, Telling.night(x, text), -4);
            due(5, "600 bytes that end by " + last, x.fault(1), last.startsWith("1") ? 600 - last.length() : 600);
        }
        for (String last : List.of("pew add 1;", "pew rest; ", "pew rest;\n", " ", "\n", ";")) {
            TaperTalk x = new TaperTalk();
            String text = BASE + "pew rest" + (last.equals(";") ? "" : ";") + " ".repeat((last.equals(";") ? 565 : 564) - last.length()) + last;
            due(4, "600 bytes that end by " + last, Telling.night(x, text), last.startsWith("pew") ? 3 : 2);
        }
    }

    private static void firstByPlace() {
        faulty(2, "night hours ^0 law 9 odds 99 #");
        faulty(1, "night ^hour 0 law 9 odds 99;");
        faulty(2, "night hours ^99 #");
        faulty(1, "night hours 1 ^# 99");
        faulty(3, BASE + "pew rest;".repeat(7) + "^pew # 99");
        faulty(1, BASE + "pew rest;".repeat(7) + "^# pew rest;");
        faulty(2, BASE + "pew rest;pew rest;aisle ^2 2;;");
        faulty(2, BASE + "pew rest;light ^1 9 #");
        faulty(2, BASE + "pew rest;light 0 ^9 1 2 3 4 1 2 3");
        faulty(1, "night hours 1 law 0 odds 0 \n ^");
        faulty(1, " \n ^#");
        TaperTalk x = new TaperTalk();
        Telling.night(x, "night hours 1 law 0 odds 0 #");
        due(5, "blanks count in a place", x.fault(1), 27);
        Telling.night(x, "night");
        due(5, "the end's place is how many bytes there are", x.fault(1), 5);
    }
}
