/** How tests put a text on the TAPE. */
final class Telling {
    private Telling() { }

    interface Feeder { int feed(int a, int b, int c, int d, int e); }

    /** Feeds a text in twenties; what is beyond its end is the pad, which end() takes away. */
    static void feed(Feeder feeder, String text, char pad) {
        StringBuilder padded = new StringBuilder(text);
        while (padded.length() % 20 != 0) padded.append(pad);
        for (int i = 0; i < padded.length(); i += 20) {
            int[] five = new int[5];
            for (int j = 0; j < 20; j++) five[j / 4] = five[j / 4] << 8 | padded.charAt(i + j) & 255;
            feeder.feed(five[0], five[1], five[2], five[3], five[4]);
        }
    }

    /** night() of a text on an empty TAPE. */
    static int night(TaperTalk x, String text) {
        x.end(0);
        feed(x::feed, text, '#');
        x.end(text.length());
        return x.night();
    }

    static TaperTalk told(String text) {
        TaperTalk x = new TaperTalk();
        int lines = night(x, text);
        int due = (int) text.chars().filter(c -> c == ';').count();
        if (lines != due) throw new IllegalStateException("a test's own text is refused: " + text + " " + lines);
        return x;
    }

    static void row(TaperTalk x, int slot, int... numbers) {
        x.row(slot, 0, numbers.length);
        for (int i = 0; i < numbers.length; i++) x.write(slot, i, numbers[i]);
    }
}
