/** Tapers carry the conversation from pew to pew; ../shared/DOC.md says what each call promises. */
public final class TaperTalk {
    public static final int NONE = -1;

    private static final int NO_SUCH = -2;
    private static final int BELOW_ZERO = -3;
    private static final int FAULTY = -4;
    private static final int NOT_NOW = -5;
    private static final int HAS_NOTHING = -6;
    private static final int BEYOND = -7;
    private static final int UNLIKE_WIDTHS = -8;
    private static final int NO_WORTH = -1000;

    private static final int TAPE_BYTES = 600;
    private static final int FEED_BYTES = 20;
    private static final int IMAGES = 3;
    private static final int MAX_PEWS = 7;
    private static final int MAX_HOURS = 12;
    private static final int CELLS = (MAX_HOURS + 1) * MAX_PEWS;
    private static final int MAX_LETTERS = 6;
    private static final int LETTERS = 4;
    private static final int LAWS = 4;
    private static final int MOST_ROUNDS = 50;
    private static final int LAST_CHANCE_HOUR = 7;
    private static final int MOST_SEED = 2000000000;
    private static final int MOST_LUCK = 20;

    private final byte[] tape = new byte[TAPE_BYTES];
    private int tapeBytes;
    private int fault;
    private int faultPlace;
    private final Reader reader;
    private final Night plan;
    private final Acts acts;
    private final Slots slots;
    private final Night[] imageNights;
    private final Acts[] imageActs;
    private final boolean[] imaged;
    private final Course now;
    private final Course trial;
    private final Trials trials;
    private final Sets subsets;
    private final Finder finder;
    private final Clues clues;
    private final Chances chances;
    private boolean settled;

    public TaperTalk() {
        tapeBytes = 0;
        fault = 0;
        faultPlace = NONE;
        reader = new Reader(tape);
        plan = new Night();
        acts = new Acts();
        slots = new Slots();
        imageNights = new Night[IMAGES];
        imageActs = new Acts[IMAGES];
        imaged = new boolean[IMAGES];
        for (int k = 0; k < IMAGES; k++) {
            imageNights[k] = new Night();
            imageActs[k] = new Acts();
        }
        now = new Course(plan, acts);
        trial = new Course(plan, acts);
        trials = new Trials(plan, trial);
        subsets = new Sets(plan, trial);
        finder = new Finder(plan, trial);
        clues = new Clues(plan, trial, slots);
        chances = new Chances(plan, trial);
        settled = false;
    }

    // ---- the TAPE and the NIGHT

    public int feed(int a, int b, int c, int d, int e) {
        if (tapeBytes + FEED_BYTES > TAPE_BYTES) {
            return NONE;
        }
        putBytes(a);
        putBytes(b);
        putBytes(c);
        putBytes(d);
        putBytes(e);
        return tapeBytes;
    }

    private void putBytes(int four) {
        for (int shift = 24; shift >= 0; shift -= 8) {
            tape[tapeBytes] = (byte) (four >> shift);
            tapeBytes++;
        }
    }

    public int end(int n) {
        if (n < 0 || n > tapeBytes) {
            return NONE;
        }
        tapeBytes = n;
        return n;
    }

    public int night() {
        Night read = reader.read(tapeBytes);
        fault = reader.fault;
        faultPlace = reader.place;
        // A refused TAPE is used up as well: the next one is fed from its beginning.
        tapeBytes = 0;
        if (fault != 0) {
            return FAULTY;
        }
        plan.take(read);
        acts.count = 0;
        unsettle();
        return plan.lines;
    }

    public int fault(int what) {
        if (what == 0) {
            return fault;
        }
        return what == 1 ? faultPlace : NONE;
    }

    public int pew(int pew, int what) {
        if (noPew(pew) || what < 0 || what > 2) {
            return NO_SUCH;
        }
        if (what == 0) {
            return plan.rule[pew];
        }
        return what == 1 ? plan.firstLetter[pew] : plan.secondLetter[pew];
    }

    public int near(int pew) {
        return noPew(pew) ? NO_SUCH : plan.near[pew];
    }

    public int far(int pew, int other) {
        if (noPew(pew) || noPew(other)) {
            return NO_SUCH;
        }
        int reached = 1 << pew;
        for (int steps = 0; steps < MAX_PEWS; steps++) {
            if ((reached >> other & 1) != 0) {
                return steps;
            }
            reached |= plan.nearAny(reached);
        }
        return NONE;
    }

    public int told(int light, int i) {
        if (light < 0 || light >= plan.lights) {
            return NO_SUCH;
        }
        return letterOrNone(plan.lightSays[light], i);
    }

    // ---- what is lit and said, hour by hour

    public int lit(int hour) {
        return noHour(hour) ? NO_SUCH : settledCourse().lit[hour];
    }

    public int letters(int pew, int hour) {
        if (noPew(pew) || noHour(hour)) {
            return NO_SUCH;
        }
        return Sayings.size(settledCourse().says[cell(pew, hour)]);
    }

    public int says(int pew, int hour, int i) {
        if (noPew(pew) || noHour(hour) || i < 0) {
            return NO_SUCH;
        }
        return letterOrNone(settledCourse().says[cell(pew, hour)], i);
    }

    public int from(int pew, int hour) {
        if (noPew(pew) || noHour(hour)) {
            return NO_SUCH;
        }
        return settledCourse().heardOf[cell(pew, hour)];
    }

    public int since(int pew, int hour) {
        if (noPew(pew) || noHour(hour)) {
            return NO_SUCH;
        }
        return settledCourse().litSince[cell(pew, hour)];
    }

    public int when(int pew) {
        if (noPew(pew)) {
            return NO_SUCH;
        }
        Course course = settledCourse();
        for (int hour = 0; hour <= plan.hours; hour++) {
            if (course.isLit(pew, hour)) {
                return hour;
            }
        }
        return NONE;
    }

    public int often(int pew) {
        if (noPew(pew)) {
            return NO_SUCH;
        }
        Course course = settledCourse();
        int times = 0;
        for (int hour = 0; hour <= plan.hours; hour++) {
            if (course.isLit(pew, hour)) {
                times++;
            }
        }
        return times;
    }

    public int full() {
        if (noNight()) {
            return NO_SUCH;
        }
        Course course = settledCourse();
        for (int hour = 0; hour <= plan.hours; hour++) {
            if (plan.pews > 0 && course.lit[hour] == plan.allPews()) {
                return hour;
            }
        }
        return NONE;
    }

    public int dark() {
        if (noNight()) {
            return NO_SUCH;
        }
        Course course = settledCourse();
        int unlit = plan.allPews();
        for (int hour = 0; hour <= plan.hours; hour++) {
            unlit &= ~course.lit[hour];
        }
        return unlit;
    }

    public int still() {
        if (noNight()) {
            return NO_SUCH;
        }
        Course course = settledCourse();
        int hour = plan.hours;
        while (hour > 0 && course.otherwise(hour, hour - 1) == 0) {
            hour--;
        }
        return hour;
    }

    public int sorts(int hour) {
        if (noHour(hour)) {
            return NO_SUCH;
        }
        Course course = settledCourse();
        int unlike = 0;
        for (int pew = 0; pew < plan.pews; pew++) {
            int same = course.sayingSame(pew, hour);
            // Each SAYING is counted at the first PEW that says it.
            if (same != 0 && (same & (1 << pew) - 1) == 0) {
                unlike++;
            }
        }
        return unlike;
    }

    public int alike(int pew, int hour) {
        if (noPew(pew) || noHour(hour)) {
            return NO_SUCH;
        }
        return settledCourse().sayingSame(pew, hour);
    }

    public int depth(int pew, int hour) {
        if (noPew(pew) || noHour(hour)) {
            return NO_SUCH;
        }
        return settledCourse().depthOf[cell(pew, hour)];
    }

    public int longest(int hour) {
        if (noHour(hour)) {
            return NO_SUCH;
        }
        Course course = settledCourse();
        int chosen = NONE;
        int most = 0;
        for (int pew = 0; pew < plan.pews; pew++) {
            int size = Sayings.size(course.says[cell(pew, hour)]);
            if (size > most) {
                most = size;
                chosen = pew;
            }
        }
        return chosen;
    }

    public int shortest(int hour) {
        if (noHour(hour)) {
            return NO_SUCH;
        }
        Course course = settledCourse();
        int chosen = NONE;
        int least = MAX_LETTERS + 1;
        for (int pew = 0; pew < plan.pews; pew++) {
            int size = Sayings.size(course.says[cell(pew, hour)]);
            if (size > 0 && size < least) {
                least = size;
                chosen = pew;
            }
        }
        return chosen;
    }

    public int words(int hour) {
        return noHour(hour) ? NO_SUCH : settledCourse().lettersSaid(hour);
    }

    public int turned(int hour) {
        if (noHour(hour)) {
            return NO_SUCH;
        }
        Course course = settledCourse();
        return hour == 0 ? course.lit[0] : course.otherwise(hour, hour - 1);
    }

    public int spoken(int letter, int hour) {
        if (noLetter(letter) || noHour(hour)) {
            return NO_SUCH;
        }
        Course course = settledCourse();
        int times = 0;
        for (int pew = 0; pew < plan.pews; pew++) {
            for (int i = 0; i < MAX_LETTERS; i++) {
                if (Sayings.letterAt(course.says[cell(pew, hour)], i) == letter) {
                    times++;
                }
            }
        }
        return times;
    }

    public int taught(int pew) {
        if (noPew(pew)) {
            return NO_SUCH;
        }
        Course course = settledCourse();
        int hearers = 0;
        for (int hour = 0; hour <= plan.hours; hour++) {
            for (int other = 0; other < plan.pews; other++) {
                if (course.heardOf[cell(other, hour)] == pew) {
                    hearers |= 1 << other;
                }
            }
        }
        return hearers;
    }

    public int deepest() {
        if (noNight()) {
            return NO_SUCH;
        }
        Course course = settledCourse();
        int most = NONE;
        for (int hour = 0; hour <= plan.hours; hour++) {
            for (int pew = 0; pew < plan.pews; pew++) {
                most = Math.max(most, course.depthOf[cell(pew, hour)]);
            }
        }
        return most;
    }

    public int fresh(int hour) {
        if (noHour(hour)) {
            return NO_SUCH;
        }
        Course course = settledCourse();
        int bits = 0;
        for (int pew = 0; pew < plan.pews; pew++) {
            if (course.litSince[cell(pew, hour)] == hour) {
                bits |= 1 << pew;
            }
        }
        return bits;
    }

    public int gone(int hour) {
        if (noHour(hour)) {
            return NO_SUCH;
        }
        Course course = settledCourse();
        return hour == 0 ? 0 : course.lit[hour - 1] & ~course.lit[hour];
    }

    // ---- what a row becomes, and what must be said first

    public int hears(int slot, int pew, int other) {
        int refusal = hearingRefusal(slot, pew, other);
        return refusal != 0 ? refusal : Sayings.size(heardTwice(slots.saying(slot), pew, other));
    }

    public int heard(int slot, int pew, int other, int i) {
        int refusal = i < 0 ? NO_SUCH : hearingRefusal(slot, pew, other);
        return refusal != 0 ? refusal : letterOrNone(heardTwice(slots.saying(slot), pew, other), i);
    }

    public int round(int slot, int pew, int other) {
        int refusal = hearingRefusal(slot, pew, other);
        if (refusal != 0) {
            return refusal;
        }
        int start = slots.saying(slot);
        int saying = start;
        for (int times = 1; times <= MOST_ROUNDS; times++) {
            saying = heardTwice(saying, pew, other);
            if (saying == start) {
                return times;
            }
        }
        return NONE;
    }

    public int first(int slot, int pew, int other) {
        int refusal = hearingRefusal(slot, pew, other);
        if (refusal != 0) {
            return refusal;
        }
        finder.seek(slots.saying(slot), pew, other);
        return finder.ways == 0 ? NONE : Sayings.size(finder.found);
    }

    public int letter(int slot, int pew, int other, int i) {
        int refusal = i < 0 ? NO_SUCH : hearingRefusal(slot, pew, other);
        if (refusal != 0) {
            return refusal;
        }
        finder.seek(slots.saying(slot), pew, other);
        return letterOrNone(finder.found, i);
    }

    public int ways(int slot, int pew, int other) {
        int refusal = hearingRefusal(slot, pew, other);
        if (refusal != 0) {
            return refusal;
        }
        finder.seek(slots.saying(slot), pew, other);
        return finder.ways;
    }

    private int hearingRefusal(int slot, int pew, int other) {
        if (Slots.noSlot(slot) || noPew(pew) || noPew(other)) {
            return NO_SUCH;
        }
        if (!slots.hasRow(slot)) {
            return HAS_NOTHING;
        }
        return slots.saying(slot) == Sayings.SILENT ? NO_SUCH : 0;
    }

    private int heardTwice(int saying, int pew, int other) {
        return plan.heardBy(other, plan.heardBy(pew, saying));
    }

    // ---- sets of PEWS lit alone

    public int best() {
        if (noNight()) {
            return NO_SUCH;
        }
        int chosen = NONE;
        int most = NONE;
        for (int pew = 0; pew < plan.pews; pew++) {
            int value = subsets.worthOf(1 << pew);
            if (value > most) {
                most = value;
                chosen = pew;
            }
        }
        return chosen;
    }

    public int worth(int set) {
        if (noNight() || (set & ~plan.allPews()) != 0) {
            return NO_SUCH;
        }
        return subsets.worthOf(set);
    }

    public int share(int pew, int what) {
        if (noPew(pew) || noPart(what)) {
            return NO_SUCH;
        }
        return (int) lowestPart(subsets.gainInAllOrders(pew), Sets.factorial(plan.pews), what);
    }

    public int fewest() {
        if (noNight()) {
            return NO_SUCH;
        }
        int set = subsets.leastLightingAll();
        return set == NONE ? NONE : Integer.bitCount(set);
    }

    public int sets() {
        return noNight() ? NO_SUCH : subsets.leastLightingAll();
    }

    // ---- DRAUGHTS that leave fewest, guards

    public int gust(int hour) {
        return noHour(hour) ? NO_SUCH : trials.strongestGust(hour, litAtLast());
    }

    public int guard() {
        return noNight() ? NO_SUCH : trials.heaviestDraught(litAtLast());
    }

    // ---- where it was said first, by which LAW

    public int whom(int slot) {
        int refusal = originRefusal(slot);
        return refusal != 0 ? refusal : clues.origins(slot);
    }

    public int ask(int slot) {
        int refusal = originRefusal(slot);
        if (refusal != 0) {
            return refusal;
        }
        clues.chooseQuestion(clues.origins(slot));
        return clues.question;
    }

    public int leaves(int slot) {
        int refusal = originRefusal(slot);
        if (refusal != 0) {
            return refusal;
        }
        clues.chooseQuestion(clues.origins(slot));
        return clues.left;
    }

    public int laws(int slot) {
        int refusal = clueRefusal(slot);
        return refusal != 0 ? refusal : clues.fittingLaws(slot);
    }

    private int originRefusal(int slot) {
        return plan.lights == 0 ? NO_SUCH : clueRefusal(slot);
    }

    private int clueRefusal(int slot) {
        if (Slots.noSlot(slot) || noNight()) {
            return NO_SUCH;
        }
        if (!slots.hasRow(slot)) {
            return HAS_NOTHING;
        }
        return clues.areSound(slot) ? 0 : NO_SUCH;
    }

    public int by(int law) {
        if (noNight() || law < 0 || law >= LAWS) {
            return NO_SUCH;
        }
        trial.byLaw(law);
        trial.run(0, plan.hours);
        return trial.lit[plan.hours];
    }

    public int law() {
        if (noNight()) {
            return NO_SUCH;
        }
        int chosen = 0;
        int most = NONE;
        for (int law = 0; law < LAWS; law++) {
            trial.byLaw(law);
            trial.run(0, plan.hours);
            int said = trial.lettersSaid(plan.hours);
            if (said > most) {
                most = said;
                chosen = law;
            }
        }
        return chosen;
    }

    // ---- RECTOR and DRAUGHT by turns, two that are shut

    public int rector() {
        if (plan.pews == 0) {
            return NO_WORTH;
        }
        trials.chooseOpening();
        return trials.value;
    }

    public int opens() {
        if (noNight()) {
            return NO_SUCH;
        }
        trials.chooseOpening();
        return trials.opening;
    }

    public int replies(int pew) {
        if (noPew(pew)) {
            return NO_SUCH;
        }
        trials.chooseReply(pew);
        return trials.reply;
    }

    public int rests(int pew, int other) {
        if (noPew(pew) || noPew(other) || pew == other) {
            return NO_SUCH;
        }
        int atRest = 0;
        for (int y = 0; y <= 1; y++) {
            for (int x = 0; x <= 1; x++) {
                boolean firstStays = trials.gain(pew, other, x, y) >= trials.gain(pew, other, 1 - x, y);
                boolean otherStays = trials.gain(other, pew, y, x) >= trials.gain(other, pew, 1 - y, x);
                if (firstStays && otherStays) {
                    atRest |= 1 << x + 2 * y;
                }
            }
        }
        return atRest;
    }

    public int gets(int pew, int other, int x, int y) {
        boolean noChoice = x < 0 || x > 1 || y < 0 || y > 1;
        if (noPew(pew) || noPew(other) || pew == other || noChoice) {
            return NO_WORTH;
        }
        return trials.gain(pew, other, x, y);
    }

    // ---- SILENCE by chance

    public long chance(int pew, int hour, int what) {
        if (noPew(pew) || noChanceHour(hour) || noPart(what)) {
            return NO_SUCH;
        }
        return lowestPart(chances.weighed(hour, pew), Chances.power(10, hour + 1), what);
    }

    public long mean(int hour, int what) {
        if (noChanceHour(hour) || noPart(what)) {
            return NO_SUCH;
        }
        return lowestPart(chances.weighed(hour, NONE), Chances.power(10, hour + 1), what);
    }

    private boolean noChanceHour(int hour) {
        return hour < 0 || hour > LAST_CHANCE_HOUR || hour >= plan.hours;
    }

    // ---- acts

    public int light(int pew, int letter, int hour) {
        if (noPew(pew) || noLetter(letter) || noHour(hour)) {
            return NO_SUCH;
        }
        return act(pew, letter, hour);
    }

    public int draught(int pew, int hour) {
        if (noPew(pew) || noHour(hour)) {
            return NO_SUCH;
        }
        return act(pew, Acts.PUTS_OUT, hour);
    }

    private int act(int pew, int letter, int hour) {
        if (acts.count >= Acts.MOST) {
            return NOT_NOW;
        }
        acts.add(pew, letter, hour);
        unsettle();
        return Integer.bitCount(settledCourse().lit[plan.hours]);
    }

    public int undo() {
        if (noNight()) {
            return NO_SUCH;
        }
        if (acts.count == 0) {
            return NOT_NOW;
        }
        acts.count--;
        unsettle();
        return acts.count;
    }

    public int anew() {
        if (noNight()) {
            return NO_SUCH;
        }
        int were = acts.count;
        acts.count = 0;
        unsettle();
        return were;
    }

    // ---- NIGHTS drawn

    public int drawn(int seed, int what) {
        if (noNight() || noSeed(seed) || noPart(what)) {
            return NO_SUCH;
        }
        int silence = chances.silenceDrawn(seed);
        return what == 0 ? silence : chances.litAfter(silence);
    }

    public int luck(int seed, int n, int pew) {
        if (noPew(pew) || noSeed(seed) || n < 1 || n > MOST_LUCK) {
            return NO_SUCH;
        }
        int times = 0;
        for (int more = 0; more < n; more++) {
            times += chances.litAfter(chances.silenceDrawn((long) seed + more)) >> pew & 1;
        }
        return times;
    }

    private static boolean noSeed(int seed) {
        return seed < 0 || seed > MOST_SEED;
    }

    public int hushes(int pew) {
        if (noPew(pew)) {
            return NO_SUCH;
        }
        if (acts.count > 0) {
            return NOT_NOW;
        }
        int was = plan.rule[pew];
        plan.setRule(pew, Sayings.REST, 0, 0);
        unsettle();
        return was;
    }

    // ---- counts and IMAGES

    public int count(int what) {
        switch (what) {
            case 0: return plan.hours;
            case 1: return plan.law;
            case 2: return plan.odds;
            case 3: return plan.pews;
            case 4: return plan.aisles;
            case 5: return plan.lights;
            case 6: return plan.draughts;
            case 7: return acts.count;
            case 8: return plan.lines;
            case 9: return tapeBytes;
            case 10: return slots.rowsHeld();
            default: return NONE;
        }
    }

    public int image(int k) {
        if (k < 0 || k >= IMAGES) {
            return NO_SUCH;
        }
        imageNights[k].take(plan);
        imageActs[k].take(acts);
        imaged[k] = true;
        return 0;
    }

    public int back(int k) {
        if (k < 0 || k >= IMAGES) {
            return NO_SUCH;
        }
        if (!imaged[k]) {
            return HAS_NOTHING;
        }
        plan.take(imageNights[k]);
        acts.take(imageActs[k]);
        unsettle();
        return 0;
    }

    // ---- SLOTS

    public int row(int slot, int width, int n) {
        if (Slots.noSlot(slot) || width < 0 || width > 3 || n > Slots.MOST) {
            return NO_SUCH;
        }
        if (n < 0) {
            return BELOW_ZERO;
        }
        slots.begin(slot, width, n);
        return 0;
    }

    public int write(int slot, int i, long v) {
        if (Slots.noSlot(slot)) {
            return NO_SUCH;
        }
        if (!slots.hasRow(slot)) {
            return HAS_NOTHING;
        }
        if (slots.areBeyond(slot, i, 1)) {
            return BEYOND;
        }
        slots.put(slot, i, v);
        return 0;
    }

    public int paste(int slot, int i, int to, int k, int n) {
        if (Slots.noSlot(slot) || Slots.noSlot(to)) {
            return NO_SUCH;
        }
        if (!slots.hasRow(slot) || !slots.hasRow(to)) {
            return HAS_NOTHING;
        }
        if (slots.width[slot] != slots.width[to]) {
            return UNLIKE_WIDTHS;
        }
        if (slots.areBeyond(slot, i, n) || slots.areBeyond(to, k, n)) {
            return BEYOND;
        }
        System.arraycopy(slots.numbers[slot], i, slots.numbers[to], k, n);
        return 0;
    }

    // ---- what many calls ask

    private boolean noNight() {
        return plan.lines == 0;
    }

    private boolean noPew(int pew) {
        return pew < 0 || pew >= plan.pews;
    }

    private boolean noHour(int hour) {
        return noNight() || hour < 0 || hour > plan.hours;
    }

    private static boolean noLetter(int letter) {
        return letter < 1 || letter > LETTERS;
    }

    private static boolean noPart(int what) {
        return what < 0 || what > 1;
    }

    private static int cell(int pew, int hour) {
        return hour * MAX_PEWS + pew;
    }

    private static int letterOrNone(int saying, int i) {
        int letter = Sayings.letterAt(saying, i);
        return letter == 0 ? NONE : letter;
    }

    private void unsettle() {
        settled = false;
        subsets.forget();
    }

    private Course settledCourse() {
        if (!settled) {
            now.asNow();
            now.run(0, plan.hours);
            settled = true;
        }
        return now;
    }

    private int litAtLast() {
        return Integer.bitCount(settledCourse().lit[plan.hours]);
    }

    /** The upper (what 0) or lower part of a FRACTION in lowest terms. */
    private static long lowestPart(long above, long below, int what) {
        long divisor = below;
        long rest = Math.abs(above);
        for (int i = 0; i < 100 && rest != 0; i++) {
            long next = divisor % rest;
            divisor = rest;
            rest = next;
        }
        long part = what == 0 ? above : below;
        return divisor == 0 ? part : part / divisor;
    }

    /**
     * SAYINGS as ints: three bits a LETTER, the first one lowest, so that two
     * are alike just if the ints are, and none has to be made as an object.
     */
    private static final class Sayings {
        static final int SILENT = 0;
        static final int REST = 0;
        static final int TURN = 1;
        static final int DROP = 2;
        static final int ADD = 3;
        static final int CHANGE = 4;
        private static final int BITS = 3;

        static int letterAt(int saying, int i) {
            return i < 0 || i >= MAX_LETTERS ? 0 : saying >> BITS * i & 7;
        }

        static int size(int saying) {
            int n = 0;
            while (n < MAX_LETTERS && saying >> BITS * n != 0) {
                n++;
            }
            return n;
        }

        static int with(int saying, int i, int letter) {
            return saying & ~(7 << BITS * i) | letter << BITS * i;
        }

        static int reversed(int saying) {
            int turned = SILENT;
            int rest = saying;
            for (int i = 0; i < MAX_LETTERS && rest != 0; i++) {
                turned = turned << BITS | rest & 7;
                rest >>= BITS;
            }
            return turned;
        }

        static int replaced(int saying, int first, int second) {
            int result = saying;
            for (int i = 0; i < MAX_LETTERS; i++) {
                if ((saying >> BITS * i & 7) == first) {
                    result ^= (first ^ second) << BITS * i;
                }
            }
            return result;
        }
    }

    /** A NIGHT as it is told; without LINES there is none. */
    private static final class Night {
        static final int MOST_AISLES = 12;
        static final int MOST_LIGHTS = 4;
        static final int MOST_DRAUGHTS = 6;

        int lines;
        int hours;
        int law;
        int odds;
        int pews;
        int aisles;
        int lights;
        int draughts;
        final int[] rule = new int[MAX_PEWS];
        final int[] firstLetter = new int[MAX_PEWS];
        final int[] secondLetter = new int[MAX_PEWS];
        final int[] near = new int[MAX_PEWS];
        final int[] lightPew = new int[MOST_LIGHTS];
        final int[] lightSays = new int[MOST_LIGHTS];
        final int[] draughtPew = new int[MOST_DRAUGHTS];
        final int[] draughtHour = new int[MOST_DRAUGHTS];

        void clear() {
            lines = 0;
            hours = 0;
            law = 0;
            odds = 0;
            pews = 0;
            aisles = 0;
            lights = 0;
            draughts = 0;
        }

        void take(Night other) {
            lines = other.lines;
            hours = other.hours;
            law = other.law;
            odds = other.odds;
            pews = other.pews;
            aisles = other.aisles;
            lights = other.lights;
            draughts = other.draughts;
            System.arraycopy(other.rule, 0, rule, 0, MAX_PEWS);
            System.arraycopy(other.firstLetter, 0, firstLetter, 0, MAX_PEWS);
            System.arraycopy(other.secondLetter, 0, secondLetter, 0, MAX_PEWS);
            System.arraycopy(other.near, 0, near, 0, MAX_PEWS);
            System.arraycopy(other.lightPew, 0, lightPew, 0, MOST_LIGHTS);
            System.arraycopy(other.lightSays, 0, lightSays, 0, MOST_LIGHTS);
            System.arraycopy(other.draughtPew, 0, draughtPew, 0, MOST_DRAUGHTS);
            System.arraycopy(other.draughtHour, 0, draughtHour, 0, MOST_DRAUGHTS);
        }

        void addPew(int kind, int first, int second) {
            near[pews] = 0;
            setRule(pews, kind, first, second);
            pews++;
        }

        void setRule(int pew, int kind, int first, int second) {
            rule[pew] = kind;
            firstLetter[pew] = first;
            secondLetter[pew] = second;
        }

        void addAisle(int pew, int other) {
            near[pew] |= 1 << other;
            near[other] |= 1 << pew;
            aisles++;
        }

        void addLight(int pew, int saying) {
            lightPew[lights] = pew;
            lightSays[lights] = saying;
            lights++;
        }

        void addDraught(int pew, int hour) {
            draughtPew[draughts] = pew;
            draughtHour[draughts] = hour;
            draughts++;
        }

        int allPews() {
            return (1 << pews) - 1;
        }

        int nearAny(int set) {
            int bits = 0;
            for (int pew = 0; pew < pews; pew++) {
                if ((set >> pew & 1) != 0) {
                    bits |= near[pew];
                }
            }
            return bits;
        }

        int heardBy(int pew, int saying) {
            int n = Sayings.size(saying);
            if (n == 0) {
                return Sayings.SILENT;
            }
            switch (rule[pew]) {
                case Sayings.TURN:
                    return Sayings.reversed(saying);
                case Sayings.DROP:
                    return Sayings.with(saying, n - 1, 0);
                case Sayings.ADD:
                    return n == MAX_LETTERS ? saying : Sayings.with(saying, n, firstLetter[pew]);
                case Sayings.CHANGE:
                    return Sayings.replaced(saying, firstLetter[pew], secondLetter[pew]);
                default:
                    return saying;
            }
        }
    }

    /** The acts in the order in which they were done. */
    private static final class Acts {
        static final int MOST = 30;
        static final int PUTS_OUT = 0;

        int count;
        final int[] pew = new int[MOST];
        final int[] letter = new int[MOST];
        final int[] hour = new int[MOST];

        void add(int ofPew, int withLetter, int inHour) {
            pew[count] = ofPew;
            letter[count] = withLetter;
            hour[count] = inHour;
            count++;
        }

        void take(Acts other) {
            count = other.count;
            System.arraycopy(other.pew, 0, pew, 0, MOST);
            System.arraycopy(other.letter, 0, letter, 0, MOST);
            System.arraycopy(other.hour, 0, hour, 0, MOST);
        }
    }

    /** Reads a TAPE into a draft, so that a FAULT leaves the NIGHT alone. */
    private static final class Reader {
        private static final int END = 0;
        private static final int WORD = 1;
        private static final int NUMBER = 2;
        private static final int SIGN = 3;
        private static final int WRONG = 4;
        private static final int HUGE = 1000;

        int fault;
        int place;
        private final Night draft = new Night();
        private final byte[] bytes;
        private int length;
        private int start;
        private int next;
        private int token;
        private int value;

        Reader(byte[] tape) {
            bytes = tape;
        }

        Night read(int tapeLength) {
            length = tapeLength;
            next = 0;
            fault = 0;
            place = NONE;
            draft.clear();
            advance();
            for (int i = 0; i < TAPE_BYTES && fault == 0 && token != END; i++) {
                readLine();
            }
            return draft;
        }

        private void readLine() {
            if (draft.lines == 0) {
                readNight();
            } else if (isWord("pew")) {
                readPew();
            } else if (isWord("aisle")) {
                readAisle();
            } else if (isWord("light")) {
                readLight();
            } else if (isWord("draught")) {
                readDraught();
            } else {
                fail(1);
            }
            if (token != SIGN) {
                fail(1);
            }
            draft.lines++;
            advance();
        }

        private void readNight() {
            needWord("night");
            needWord("hours");
            draft.hours = needNumber(1, MAX_HOURS);
            needWord("law");
            draft.law = needNumber(0, LAWS - 1);
            needWord("odds");
            draft.odds = needNumber(0, 10);
        }

        private void readPew() {
            refuseMoreThan(MAX_PEWS, draft.pews);
            advance();
            int first = 0;
            int second = 0;
            int rule = ruleWord();
            advance();
            if (rule == Sayings.ADD || rule == Sayings.CHANGE) {
                first = needNumber(1, LETTERS);
            }
            if (rule == Sayings.CHANGE) {
                if (token == NUMBER && value == first) {
                    fail(2);
                }
                second = needNumber(1, LETTERS);
            }
            if (fault == 0) {
                draft.addPew(rule, first, second);
            }
        }

        private int ruleWord() {
            if (isWord("turn")) {
                return Sayings.TURN;
            }
            if (isWord("drop")) {
                return Sayings.DROP;
            }
            if (isWord("add")) {
                return Sayings.ADD;
            }
            if (isWord("change")) {
                return Sayings.CHANGE;
            }
            if (!isWord("rest")) {
                fail(1);
            }
            return Sayings.REST;
        }

        private void readAisle() {
            refuseMoreThan(Night.MOST_AISLES, draft.aisles);
            advance();
            int pew = needNumber(0, draft.pews - 1);
            if (fault == 0 && token == NUMBER && (value == pew || areJoined(pew))) {
                fail(2);
            }
            int other = needNumber(0, draft.pews - 1);
            if (fault == 0) {
                draft.addAisle(pew, other);
            }
        }

        private boolean areJoined(int pew) {
            return value < MAX_PEWS && (draft.near[pew] >> value & 1) != 0;
        }

        private void readLight() {
            refuseMoreThan(Night.MOST_LIGHTS, draft.lights);
            advance();
            int pew = needNumber(0, draft.pews - 1);
            int saying = needNumber(1, LETTERS);
            for (int i = 1; i < MAX_LETTERS && token == NUMBER; i++) {
                saying = Sayings.with(saying, i, needNumber(1, LETTERS));
            }
            if (token == NUMBER) {
                fail(value < 1 || value > LETTERS ? 2 : 3);
            }
            if (fault == 0) {
                draft.addLight(pew, saying);
            }
        }

        private void readDraught() {
            refuseMoreThan(Night.MOST_DRAUGHTS, draft.draughts);
            advance();
            int pew = needNumber(0, draft.pews - 1);
            needWord("at");
            int hour = needNumber(0, MAX_HOURS - 1);
            if (fault == 0) {
                draft.addDraught(pew, hour);
            }
        }

        private void refuseMoreThan(int most, int told) {
            if (told >= most) {
                fail(3);
            }
        }

        private void needWord(String word) {
            if (!isWord(word)) {
                fail(1);
            }
            advance();
        }

        private int needNumber(int least, int most) {
            if (token != NUMBER) {
                fail(1);
            } else if (value < least || value > most) {
                fail(2);
            }
            int read = value;
            advance();
            return read;
        }

        // Only the first FAULT counts: behind it no TOKEN is read any more.
        private void fail(int kind) {
            if (fault == 0) {
                fault = kind;
                place = start;
            }
        }

        private void advance() {
            if (fault != 0) {
                return;
            }
            while (next < length && (bytes[next] == 32 || bytes[next] == 10)) {
                next++;
            }
            start = next;
            value = 0;
            if (next >= length) {
                token = END;
            } else if (isLowerCase(bytes[next])) {
                token = WORD;
                while (next < length && isLowerCase(bytes[next])) {
                    next++;
                }
            } else if (isDigit(bytes[next])) {
                token = NUMBER;
                while (next < length && isDigit(bytes[next])) {
                    value = Math.min(HUGE, value * 10 + bytes[next] - '0');
                    next++;
                }
            } else {
                token = bytes[next] == ';' ? SIGN : WRONG;
                next++;
            }
        }

        private static boolean isLowerCase(int sign) {
            return sign >= 'a' && sign <= 'z';
        }

        private static boolean isDigit(int sign) {
            return sign >= '0' && sign <= '9';
        }

        private boolean isWord(String word) {
            if (token != WORD || next - start != word.length()) {
                return false;
            }
            for (int i = 0; i < word.length(); i++) {
                if (bytes[start + i] != word.charAt(i)) {
                    return false;
                }
            }
            return true;
        }
    }

    /** How it goes HOUR by HOUR, as now or by what a caller sets otherwise ahead of run(). */
    private static final class Course {
        final int[] lit = new int[MAX_HOURS + 1];
        final int[] says = new int[CELLS];
        final int[] heardOf = new int[CELLS];
        final int[] litSince = new int[CELLS];
        final int[] depthOf = new int[CELLS];
        private final Night night;
        private final Acts acts;
        int law;
        int shut;
        int silence;
        int lit0More;
        int gustPew;
        int gustHour;
        int draughtLeftOut;
        private boolean alone;
        private int aloneSet;
        private int aloneSays;

        Course(Night ofNight, Acts ofActs) {
            night = ofNight;
            acts = ofActs;
        }

        void asNow() {
            law = night.law;
            shut = 0;
            silence = 0;
            lit0More = NONE;
            gustPew = NONE;
            gustHour = NONE;
            draughtLeftOut = NONE;
            alone = false;
        }

        void byLaw(int otherLaw) {
            asNow();
            law = otherLaw;
        }

        void tellAlone(int set, int saying) {
            asNow();
            alone = true;
            aloneSet = set;
            aloneSays = saying;
        }

        /** HOURS from one (those ahead of it are as they were) to another one: how many are lit in that. */
        int run(int first, int last) {
            for (int hour = first; hour <= last; hour++) {
                if (hour == 0) {
                    begin();
                } else {
                    carry(hour);
                }
                lightByActs(hour);
                putOut(hour);
                noteLit(hour);
            }
            return Integer.bitCount(lit[last]);
        }

        private void begin() {
            for (int pew = 0; pew < night.pews; pew++) {
                quench(pew);
                if (alone && (aloneSet >> pew & 1) != 0) {
                    kindle(pew, 0, aloneSays);
                }
            }
            for (int i = 0; i < night.lights && !alone; i++) {
                kindle(night.lightPew[i], 0, night.lightSays[i]);
            }
        }

        private void carry(int hour) {
            int row = hour * MAX_PEWS;
            int ahead = row - MAX_PEWS;
            System.arraycopy(says, ahead, says, row, MAX_PEWS);
            System.arraycopy(heardOf, ahead, heardOf, row, MAX_PEWS);
            System.arraycopy(litSince, ahead, litSince, row, MAX_PEWS);
            System.arraycopy(depthOf, ahead, depthOf, row, MAX_PEWS);
            boolean silent = (silence >> hour - 1 & 1) != 0;
            int speaking = silent ? 0 : lit[hour - 1] & ~shut;
            int listening = ~(lit[hour - 1] | shut);
            for (int pew = 0; pew < night.pews; pew++) {
                int audible = (listening >> pew & 1) == 0 ? 0 : night.near[pew] & speaking;
                int speaker = audible == 0 ? NONE : speaker(audible, ahead);
                int saying = speaker == NONE ? Sayings.SILENT : night.heardBy(pew, says[ahead + speaker]);
                if (saying != Sayings.SILENT) {
                    says[row + pew] = saying;
                    heardOf[row + pew] = speaker;
                    litSince[row + pew] = hour;
                    depthOf[row + pew] = depthOf[ahead + speaker] + 1;
                }
            }
        }

        private int speaker(int audible, int row) {
            int chosen = NONE;
            int most = NONE;
            for (int pew = 0; pew < night.pews; pew++) {
                if ((audible >> pew & 1) != 0) {
                    int rank = 0;
                    switch (law) {
                        case 1: rank = pew; break;
                        case 2: rank = Sayings.size(says[row + pew]); break;
                        case 3: rank = litSince[row + pew]; break;
                        default: break;
                    }
                    if (rank > most) {
                        most = rank;
                        chosen = pew;
                    }
                }
            }
            return chosen;
        }

        private void lightByActs(int hour) {
            for (int i = 0; i < acts.count && !alone; i++) {
                if (acts.hour[i] == hour && acts.letter[i] != Acts.PUTS_OUT) {
                    kindle(acts.pew[i], hour, acts.letter[i]);
                }
            }
            if (hour == 0 && lit0More != NONE) {
                kindle(lit0More, 0, 1);
            }
        }

        private void putOut(int hour) {
            for (int i = 0; i < night.draughts; i++) {
                if (night.draughtHour[i] == hour && i != draughtLeftOut) {
                    quench(hour * MAX_PEWS + night.draughtPew[i]);
                }
            }
            for (int i = 0; i < acts.count; i++) {
                if (acts.hour[i] == hour && acts.letter[i] == Acts.PUTS_OUT) {
                    quench(hour * MAX_PEWS + acts.pew[i]);
                }
            }
            if (gustHour == hour && gustPew != NONE) {
                quench(hour * MAX_PEWS + gustPew);
            }
        }

        private void kindle(int pew, int hour, int saying) {
            int at = hour * MAX_PEWS + pew;
            if (says[at] == Sayings.SILENT) {
                litSince[at] = hour;
            }
            says[at] = saying;
            heardOf[at] = NONE;
            depthOf[at] = 0;
        }

        private void quench(int at) {
            says[at] = Sayings.SILENT;
            heardOf[at] = NONE;
            litSince[at] = NONE;
            depthOf[at] = NONE;
        }

        private void noteLit(int hour) {
            int bits = 0;
            for (int pew = 0; pew < night.pews; pew++) {
                if (says[hour * MAX_PEWS + pew] != Sayings.SILENT) {
                    bits |= 1 << pew;
                }
            }
            lit[hour] = bits;
        }

        boolean isLit(int pew, int hour) {
            return (lit[hour] >> pew & 1) != 0;
        }

        int lettersSaid(int hour) {
            int sum = 0;
            for (int pew = 0; pew < night.pews; pew++) {
                sum += Sayings.size(says[hour * MAX_PEWS + pew]);
            }
            return sum;
        }

        /** PEWS that say otherwise in one HOUR than in another, as bits. */
        int otherwise(int hour, int other) {
            int bits = 0;
            for (int pew = 0; pew < night.pews; pew++) {
                if (says[hour * MAX_PEWS + pew] != says[other * MAX_PEWS + pew]) {
                    bits |= 1 << pew;
                }
            }
            return bits;
        }

        int sayingSame(int pew, int hour) {
            int saying = says[hour * MAX_PEWS + pew];
            int bits = 0;
            for (int other = 0; other < night.pews && saying != Sayings.SILENT; other++) {
                if (says[hour * MAX_PEWS + other] == saying) {
                    bits |= 1 << other;
                }
            }
            return bits;
        }
    }

    /** What one change to the NIGHT as now would bring: gusts, guards, RECTOR and DRAUGHT, GAME. */
    private static final class Trials {
        int value;
        int opening;
        int reply;
        private final Night night;
        private final Course course;

        Trials(Night ofNight, Course ofTrials) {
            night = ofNight;
            course = ofTrials;
        }

        int strongestGust(int hour, int litNow) {
            int chosen = NONE;
            int fewest = litNow;
            course.asNow();
            course.gustHour = hour;
            for (int pew = 0; pew < night.pews; pew++) {
                course.gustPew = pew;
                int lit = course.run(0, night.hours);
                if (lit < fewest) {
                    fewest = lit;
                    chosen = pew;
                }
            }
            return chosen;
        }

        int heaviestDraught(int litNow) {
            int chosen = NONE;
            int most = litNow;
            course.asNow();
            for (int i = 0; i < night.draughts; i++) {
                course.draughtLeftOut = i;
                int lit = course.run(0, night.hours);
                if (lit > most) {
                    most = lit;
                    chosen = i;
                }
            }
            return chosen;
        }

        void chooseOpening() {
            opening = NONE;
            int most = NONE;
            for (int pew = 0; pew < night.pews; pew++) {
                chooseReply(pew);
                if (value > most) {
                    most = value;
                    opening = pew;
                }
            }
            value = most;
        }

        void chooseReply(int opened) {
            reply = NONE;
            value = MAX_PEWS + 1;
            course.asNow();
            course.lit0More = opened;
            course.gustHour = 1;
            for (int pew = 0; pew < night.pews; pew++) {
                course.gustPew = pew;
                int lit = course.run(0, night.hours);
                if (lit < value) {
                    value = lit;
                    reply = pew;
                }
            }
        }

        int gain(int pew, int other, int pewShuts, int otherShuts) {
            course.asNow();
            course.shut = pewShuts << pew | otherShuts << other;
            course.run(0, night.hours);
            int said = Sayings.size(course.says[night.hours * MAX_PEWS + pew]);
            return said + (pewShuts == 1 ? 2 : 0);
        }
    }

    /** What each set of PEWS is worth (VII), kept until something changes. */
    private static final class Sets {
        private static final int UNKNOWN = -1;

        private final int[] worths = new int[1 << MAX_PEWS];
        private final Night night;
        private final Course course;

        Sets(Night ofNight, Course ofTrials) {
            night = ofNight;
            course = ofTrials;
            forget();
        }

        void forget() {
            for (int set = 0; set < 1 << MAX_PEWS; set++) {
                worths[set] = UNKNOWN;
            }
        }

        int worthOf(int set) {
            if (worths[set] == UNKNOWN) {
                course.tellAlone(set, 1);
                worths[set] = course.run(0, night.hours);
            }
            return worths[set];
        }

        /** What a PEW adds, over all orders together: each set ahead of it stands in so many. */
        int gainInAllOrders(int pew) {
            int sum = 0;
            for (int set = 0; set <= night.allPews(); set++) {
                if ((set >> pew & 1) == 0) {
                    int ahead = Integer.bitCount(set);
                    int orders = factorial(ahead) * factorial(night.pews - 1 - ahead);
                    sum += orders * (worthOf(set | 1 << pew) - worthOf(set));
                }
            }
            return sum;
        }

        static int factorial(int n) {
            int product = 1;
            for (int i = 2; i <= n && i <= MAX_PEWS; i++) {
                product *= i;
            }
            return product;
        }

        int leastLightingAll() {
            int chosen = NONE;
            for (int set = 0; set <= night.allPews(); set++) {
                boolean fewer = chosen == NONE || Integer.bitCount(set) < Integer.bitCount(chosen);
                if (fewer && worthOf(set) == night.pews) {
                    chosen = set;
                }
            }
            return chosen;
        }
    }

    /** FIRST (V): what must be said first so that a told thing comes to a told PEW. */
    private static final class Finder {
        private static final int LONGEST = 4;

        int found;
        int ways;
        private final int[] trail = new int[MAX_HOURS + 1];
        private int trailLength;
        private final Night night;
        private final Course course;

        Finder(Night ofNight, Course ofTrials) {
            night = ofNight;
            course = ofTrials;
        }

        void seek(int target, int pew, int other) {
            found = Sayings.SILENT;
            ways = 0;
            for (int size = 1; size <= LONGEST && ways == 0; size++) {
                // Who hears whom hangs on how long a SAYING is, never on which
                // LETTERS it has: one course tells the way of all of one length.
                course.tellAlone(1 << pew, spelled(0, size));
                course.run(0, night.hours);
                int comes = course.says[night.hours * MAX_PEWS + other];
                if (Sayings.size(comes) == Sayings.size(target)) {
                    followTrail(other);
                    tryAll(target, size);
                }
            }
        }

        private void followTrail(int last) {
            trailLength = 0;
            int at = night.hours * MAX_PEWS + last;
            while (trailLength < MAX_HOURS && course.heardOf[at] != NONE) {
                trail[trailLength] = at % MAX_PEWS;
                trailLength++;
                at = (course.litSince[at] - 1) * MAX_PEWS + course.heardOf[at];
            }
        }

        private void tryAll(int target, int size) {
            for (int code = 0; code < 1 << 2 * size; code++) {
                int saying = spelled(code, size);
                if (carried(saying) == target) {
                    found = ways == 0 ? saying : found;
                    ways++;
                }
            }
        }

        /** The codes of one size in rising order spell the least row first. */
        private static int spelled(int code, int size) {
            int saying = Sayings.SILENT;
            for (int i = 0; i < size; i++) {
                saying = Sayings.with(saying, i, (code >> 2 * (size - 1 - i) & 3) + 1);
            }
            return saying;
        }

        private int carried(int saying) {
            int result = saying;
            for (int i = trailLength - 1; i >= 0; i--) {
                result = night.heardBy(trail[i], result);
            }
            return result;
        }
    }

    /** HEARD (VI): what a SLOT's row tells of where it was said first, or by which LAW. */
    private static final class Clues {
        int question;
        int left;
        private final int[] sizes = new int[MAX_PEWS * CELLS];
        private final int[] tally = new int[MAX_LETTERS + 1];
        private final Night night;
        private final Course course;
        private final Slots slots;

        Clues(Night ofNight, Course ofTrials, Slots ofRows) {
            night = ofNight;
            course = ofTrials;
            slots = ofRows;
        }

        boolean areSound(int slot) {
            int length = slots.length[slot];
            long[] row = slots.numbers[slot];
            if (length % 3 != 0) {
                return false;
            }
            for (int i = 0; i + 2 < length; i += 3) {
                boolean pew = row[i] >= 0 && row[i] < night.pews;
                boolean hour = row[i + 1] >= 0 && row[i + 1] <= night.hours;
                boolean size = row[i + 2] >= 0 && row[i + 2] <= MAX_LETTERS;
                if (!pew || !hour || !size) {
                    return false;
                }
            }
            return true;
        }

        private boolean fit(int slot) {
            long[] row = slots.numbers[slot];
            for (int i = 0; i + 2 < slots.length[slot]; i += 3) {
                int at = (int) row[i + 1] * MAX_PEWS + (int) row[i];
                if (Sayings.size(course.says[at]) != row[i + 2]) {
                    return false;
                }
            }
            return true;
        }

        int origins(int slot) {
            int bits = 0;
            for (int pew = 0; pew < night.pews; pew++) {
                course.tellAlone(1 << pew, night.lightSays[0]);
                course.run(0, night.hours);
                if (fit(slot)) {
                    bits |= 1 << pew;
                    noteSizes(pew);
                }
            }
            return bits;
        }

        private void noteSizes(int origin) {
            for (int at = 0; at < (night.hours + 1) * MAX_PEWS; at++) {
                if (at % MAX_PEWS < night.pews) {
                    sizes[origin * CELLS + at] = Sayings.size(course.says[at]);
                }
            }
        }

        /** Of origins() just found: their sizes still stand here. */
        void chooseQuestion(int bits) {
            question = NONE;
            left = Integer.bitCount(bits);
            for (int pew = 0; pew < night.pews; pew++) {
                for (int hour = 0; hour <= night.hours; hour++) {
                    int worst = leftAtWorst(bits, hour * MAX_PEWS + pew);
                    if (worst < left) {
                        left = worst;
                        question = 100 * pew + hour;
                    }
                }
            }
        }

        private int leftAtWorst(int bits, int at) {
            for (int size = 0; size <= MAX_LETTERS; size++) {
                tally[size] = 0;
            }
            int worst = 0;
            for (int origin = 0; origin < night.pews; origin++) {
                if ((bits >> origin & 1) != 0) {
                    int size = sizes[origin * CELLS + at];
                    tally[size]++;
                    worst = Math.max(worst, tally[size]);
                }
            }
            return worst;
        }

        int fittingLaws(int slot) {
            int bits = 0;
            for (int law = 0; law < LAWS; law++) {
                course.byLaw(law);
                course.run(0, night.hours);
                if (fit(slot)) {
                    bits |= 1 << law;
                }
            }
            return bits;
        }
    }

    /** SILENCE (X), by chance and as drawn. */
    private static final class Chances {
        private final Night night;
        private final Course course;

        Chances(Night ofNight, Course ofTrials) {
            night = ofNight;
            course = ofTrials;
        }

        static long power(int base, int exponent) {
            long product = 1;
            for (int i = 0; i < exponent; i++) {
                product *= base;
            }
            return product;
        }

        /**
         * Over all SILENCES from HOURS 0 to one, each as heavy as it is likely,
         * whether a PEW is lit behind it, or (NONE) how many LETTERS are said.
         */
        long weighed(int hour, int pew) {
            int steps = hour + 1;
            long sum = 0;
            course.asNow();
            for (int code = 0; code < 1 << steps; code++) {
                course.silence = backwards(code, steps);
                course.run(firstChanged(code, steps), steps);
                int hushed = Integer.bitCount(code);
                long weight = power(night.odds, hushed) * power(10 - night.odds, steps - hushed);
                sum += weight * (pew == NONE ? course.lettersSaid(steps) : course.lit[steps] >> pew & 1);
            }
            return sum;
        }

        private static int backwards(int code, int steps) {
            int bits = 0;
            for (int i = 0; i < steps; i++) {
                bits |= (code >> i & 1) << steps - 1 - i;
            }
            return bits;
        }

        // Low bits of the code are late HOURS: what the code ahead had in the early ones still stands.
        private static int firstChanged(int code, int steps) {
            return code == 0 ? 0 : steps - Integer.bitCount((code & -code) - 1);
        }

        int silenceDrawn(long seed) {
            long x = seed;
            int bits = 0;
            for (int hour = 0; hour < night.hours; hour++) {
                x = (1103515245L * x + 12345L) % 2147483648L;
                if (x / 65536 % 10 < night.odds) {
                    bits |= 1 << hour;
                }
            }
            return bits;
        }

        int litAfter(int silence) {
            course.asNow();
            course.silence = silence;
            course.run(0, night.hours);
            return course.lit[night.hours];
        }
    }

    /** The SLOTS' rows; each holds its numbers cut to its WIDTH. */
    private static final class Slots {
        static final int SLOTS = 4;
        static final int MOST = 60;

        final int[] width = new int[SLOTS];
        final int[] length = new int[SLOTS];
        final long[][] numbers = new long[SLOTS][MOST];

        Slots() {
            for (int slot = 0; slot < SLOTS; slot++) {
                width[slot] = NONE;
            }
        }

        static boolean noSlot(int slot) {
            return slot < 0 || slot >= SLOTS;
        }

        boolean hasRow(int slot) {
            return width[slot] != NONE;
        }

        int rowsHeld() {
            int held = 0;
            for (int slot = 0; slot < SLOTS; slot++) {
                if (hasRow(slot)) {
                    held++;
                }
            }
            return held;
        }

        void begin(int slot, int ofWidth, int n) {
            width[slot] = ofWidth;
            length[slot] = n;
            for (int i = 0; i < MOST; i++) {
                numbers[slot][i] = 0;
            }
        }

        boolean areBeyond(int slot, int i, int n) {
            return i < 0 || n < 0 || (long) i + n > length[slot];
        }

        void put(int slot, int i, long v) {
            int spare = 64 - (8 << width[slot]);
            numbers[slot][i] = v << spare >> spare;
        }

        /** The row as a SAYING; SILENT, if it is none. */
        int saying(int slot) {
            int n = length[slot];
            if (n > MAX_LETTERS) {
                return Sayings.SILENT;
            }
            int saying = Sayings.SILENT;
            for (int i = 0; i < n; i++) {
                long number = numbers[slot][i];
                if (number < 1 || number > LETTERS) {
                    return Sayings.SILENT;
                }
                saying = Sayings.with(saying, i, (int) number);
            }
            return saying;
        }
    }
}
