import java.util.ArrayList;
import java.util.List;
import java.util.function.ToLongFunction;

/**
 * A call that is promised to change nothing leaves every other answer as it was, and behind a call that
 * changes something all is answered anew: each question behind each other one, and behind each change.
 */
public final class EdgeOrderTest {
    private static final String TEXT = "night hours 5 law 2 odds 3;pew rest;pew turn;pew drop;pew add 4;pew change 1 2;pew rest;"
        + "aisle 0 1;aisle 1 2;aisle 2 3;aisle 1 4;aisle 4 5;aisle 0 5;light 0 1 2 3 4 1 2;light 3 2;draught 1 at 3;draught 5 at 5;";

    private record Question(int promise, String call, ToLongFunction<TaperTalk> of) { }

    private static final List<Question> QUESTIONS = new ArrayList<>();
    private static final List<Question> CHANGES = new ArrayList<>();

    public static void main(String[] args) {
        aboutTheNight();
        aboutRows();
        aboutOtherwise();
        changes();
        pairs();
        behindChanges();
        Edge.end("EdgeOrderTest");
    }

    private static void ask(int promise, String call, ToLongFunction<TaperTalk> of) {
        QUESTIONS.add(new Question(promise, call, of));
    }

    private static void change(int promise, String call, ToLongFunction<TaperTalk> of) {
        CHANGES.add(new Question(promise, call, of));
    }

    private static void aboutTheNight() {
        ask(6, "pew(3, 1)", x -> x.pew(3, 1));
        ask(8, "far(0, 3)", x -> x.far(0, 3));
        ask(10, "lit(5)", x -> x.lit(5));
        ask(12, "says(3, 5, 0)", x -> x.says(3, 5, 0));
        ask(13, "from(1, 5)", x -> x.from(1, 5));
        ask(14, "since(1, 5)", x -> x.since(1, 5));
        ask(17, "full()", TaperTalk::full);
        ask(19, "still()", TaperTalk::still);
        ask(25, "words(5)", x -> x.words(5));
        ask(28, "taught(1)", x -> x.taught(1));
        ask(29, "deepest()", TaperTalk::deepest);
        ask(65, "count(7)", x -> x.count(7));
        ask(5, "fault(1)", x -> x.fault(1));
    }

    private static void aboutRows() {
        ask(32, "hears(0, 3, 1)", x -> x.hears(0, 3, 1));
        ask(33, "heard(0, 3, 1, 0)", x -> x.heard(0, 3, 1, 0));
        ask(34, "round(0, 1, 0)", x -> x.round(0, 1, 0));
        ask(35, "first(0, 1, 2)", x -> x.first(0, 1, 2));
        ask(35, "first(0, 0, 4)", x -> x.first(0, 0, 4));
        ask(36, "letter(0, 1, 2, 2)", x -> x.letter(0, 1, 2, 2));
        ask(36, "letter(0, 0, 4, 0)", x -> x.letter(0, 0, 4, 0));
        ask(37, "ways(0, 1, 2)", x -> x.ways(0, 1, 2));
        ask(37, "ways(0, 0, 0)", x -> x.ways(0, 0, 0));
        ask(45, "whom(1)", x -> x.whom(1));
        ask(46, "ask(1)", x -> x.ask(1));
        ask(46, "ask(2)", x -> x.ask(2));
        ask(47, "leaves(1)", x -> x.leaves(1));
        ask(47, "leaves(2)", x -> x.leaves(2));
        ask(48, "laws(1)", x -> x.laws(1));
        ask(48, "laws(2)", x -> x.laws(2));
    }

    private static void aboutOtherwise() {
        ask(38, "best()", TaperTalk::best);
        ask(39, "worth(0)", x -> x.worth(0));
        ask(39, "worth(6)", x -> x.worth(6));
        ask(40, "share(2, 0)", x -> x.share(2, 0));
        ask(40, "share(2, 1)", x -> x.share(2, 1));
        ask(41, "fewest()", TaperTalk::fewest);
        ask(42, "sets()", TaperTalk::sets);
        ask(43, "gust(0)", x -> x.gust(0));
        ask(43, "gust(5)", x -> x.gust(5));
        ask(44, "guard()", TaperTalk::guard);
        ask(49, "by(0)", x -> x.by(0));
        ask(49, "by(3)", x -> x.by(3));
        ask(50, "law()", TaperTalk::law);
        ask(51, "rector()", TaperTalk::rector);
        ask(52, "opens()", TaperTalk::opens);
        ask(53, "replies(4)", x -> x.replies(4));
        ask(54, "rests(0, 1)", x -> x.rests(0, 1));
        ask(55, "gets(4, 1, 0, 1)", x -> x.gets(4, 1, 0, 1));
        ask(55, "gets(4, 1, 0, 0)", x -> x.gets(4, 1, 0, 0));
        ask(55, "gets(0, 1, 1, 1)", x -> x.gets(0, 1, 1, 1));
        ask(56, "chance(4, 2, 0)", x -> x.chance(4, 2, 0));
        ask(57, "mean(4, 0)", x -> x.mean(4, 0));
        ask(62, "drawn(1, 0)", x -> x.drawn(1, 0));
        ask(62, "drawn(0, 1)", x -> x.drawn(0, 1));
        ask(63, "luck(5, 9, 4)", x -> x.luck(5, 9, 4));
    }

    /** What each leaves can be made by other ways, too: see behindChanges(). */
    private static void changes() {
        change(58, "light(4, 3, 1)", x -> x.light(4, 3, 1));
        change(58, "light(0, 1, 0)", x -> x.light(0, 1, 0));
        change(59, "draught(0, 0)", x -> x.draught(0, 0));
        change(59, "draught(4, 5)", x -> x.draught(4, 5));
        change(60, "undo()", TaperTalk::undo);
        change(61, "anew()", TaperTalk::anew);
        change(64, "anew(), hushes(2)", x -> x.anew() + x.hushes(2));
        change(67, "back(0)", x -> x.back(0));
        change(67, "back(1)", x -> x.back(1));
        change(4, "night() of another", x -> Telling.night(x, TEXT.replace("law 2", "law 1").replace("light 3 2;", "")));
        change(68, "row(0, 0, 1)", x -> x.row(0, 0, 1));
        change(69, "write(0, 0, 4)", x -> x.write(0, 0, 4));
        change(70, "paste(1, 0, 0, 1, 1)", x -> x.paste(1, 0, 0, 1, 1));
    }

    private static TaperTalk made() {
        TaperTalk x = Telling.told("night hours 3 law 0 odds 5;pew rest;pew drop;aisle 0 1;light 0 1 2 3;");
        x.draught(1, 3);
        x.image(1);
        Telling.night(x, TEXT);
        x.image(0);
        x.light(2, 4, 2);
        x.draught(0, 1);
        Telling.row(x, 0, 2, 1);
        Telling.row(x, 1, 2, 3, 5);
        x.row(2, 0, 0);
        return x;
    }

    private static void pairs() {
        for (Question second : QUESTIONS) {
            long alone = second.of.applyAsLong(made());
            for (Question first : QUESTIONS) {
                TaperTalk x = made();
                first.of.applyAsLong(x);
                Edge.due(second.promise, second.call + " behind " + first.call, second.of.applyAsLong(x), alone);
            }
        }
    }

    /** All questions asked, then a change, then one of them: as if none had been asked ahead of the change. */
    private static void behindChanges() {
        for (Question change : CHANGES) {
            for (Question asked : QUESTIONS) {
                TaperTalk fresh = made();
                change.of.applyAsLong(fresh);
                TaperTalk x = made();
                for (Question each : QUESTIONS) each.of.applyAsLong(x);
                change.of.applyAsLong(x);
                Edge.due(asked.promise, asked.call + " behind all, and " + change.call, asked.of.applyAsLong(x), asked.of.applyAsLong(fresh));
            }
        }
    }
}
