import java.util.ArrayList;
import java.util.List;
import java.util.function.Consumer;
import java.util.function.Supplier;
import java.util.function.ToIntFunction;

/**
 * A call that answers a finding changes nothing but status(): of two boards that are alike one makes
 * the call, and then all that can be asked of both is alike, but for one finding more of that kind.
 */
public final class NothingChangesTest {
    private static final Due due = new Due("NothingChangesTest");
    private static final List<Consumer<Probe>> PROBES = List.of(NothingChangesTest::countsOf, NothingChangesTest::namesOf,
        x -> wordsOf(x, 0), x -> wordsOf(x, 50), x -> wordsOf(x, 100), x -> wordsOf(x, 150),
        NothingChangesTest::textsOf, NothingChangesTest::sheetsOf, NothingChangesTest::keptOf, NothingChangesTest::tornOf,
        NothingChangesTest::latersOf);

    /** A board and all that it answered. */
    private static final class Probe {
        final AwakeBoard board;
        final List<Integer> answers = new ArrayList<>();

        Probe(AwakeBoard board) {
            this.board = board;
        }

        void add(int answer) {
            answers.add(answer);
        }
    }

    private interface Call extends ToIntFunction<AwakeBoard> { }

    private static int cases;

    public static void main(String[] args) {
        onNew();
        namesOnSome();
        textsOnSome();
        countsOnSome();
        sheetsOnSome();
        onFull();
        faultEmptiesTheTapeAlone();
        due.is("cases", cases > 120 ? 1 : 0, 1);
        due.end();
    }

    /** Some of all; NOW stands where a NAME speaks; what is kept is older. */
    private static AwakeBoard some() {
        AwakeBoard x = new AwakeBoard();
        for (int kind = 0; kind < 8; kind++) {
            x.name(kind, 4 + kind);
            x.change(kind, 5, kind);
        }
        x.change(6, 4, 0);
        x.go(20);
        Due.text(x, "w*2-g");
        x.hold(0, 3);
        x.asked(1);
        x.image();
        x.go(30);
        Due.text(x, "f+n");
        x.hold(1, 7);
        x.asked(2);
        x.shut(4, true);
        x.shut(1, true);
        x.seed(77);
        sheets(x);
        Due.feed(x, "q-12");
        return x;
    }

    /** Sheet 0 of 8 bits and 2 of 16 bits have NAMES and what they tell, sheet 1 is of 8 bits and all 0; 3 is MISSING. */
    private static void sheets(AwakeBoard x) {
        x.sheet(0, 8, 6);
        x.sheet(1, 8, 5);
        x.sheet(2, 16, 6);
        for (int i = 0; i < 6; i++) {
            x.write(0, i, 7 - i);
            x.write(2, i, 1 + i);
        }
    }

    /** All that can be had; NOW is 29999; what is kept has one text less, and words for which there is room. */
    private static AwakeBoard full() {
        AwakeBoard x = new AwakeBoard();
        for (int i = 0; i < 14; i++) {
            x.name(i % 8, 1);
            x.asked(i);
        }
        for (int i = 0; i < 5; i++) {
            Due.text(x, "w-" + i);
        }
        x.go(15);
        x.image();
        Due.text(x, "g");
        Due.goTo(x, 29999);
        x.sheet(0, 32, 4);
        x.write(0, 0, 1);
        Due.feed(x, "h*3");
        for (int i = 0; i < 19; i++) {
            x.feed(0x20202020, 4);
        }
        x.feed(32, 1);
        return x;
    }

    private static void countsOf(Probe x) {
        for (int what = 0; what <= 8; what++) {
            x.add(x.board.count(what));
        }
        for (int spot = 0; spot <= 9; spot++) {
            x.add(x.board.as(spot, 0));
        }
    }

    private static void namesOf(Probe x) {
        for (int name = 0; name < 14; name++) {
            for (int what = 0; what <= 7; what++) {
                x.add(x.board.nameOf(name, what));
            }
            x.add(x.board.hours(name));
            x.add(x.board.asked(name));
        }
    }

    private static void wordsOf(Probe x, int from) {
        for (int word = from; word < from + 50; word++) {
            for (int what = 0; what <= 3; what++) {
                x.add(x.board.wordOf(word, what));
            }
        }
    }

    /** What THE TAPE holds is told by the text that it becomes, for which undo() makes room. */
    private static void textsOf(Probe x) {
        for (int turn = 0; turn < 2; turn++) {
            for (int text = 0; text < 6; text++) {
                for (int name = 0; name < 14; name += 3) {
                    x.add(x.board.score(text, name));
                }
            }
            x.add(x.board.text());
            x.add(x.board.count(5));
            if (turn == 0) {
                x.add(x.board.undo());
                x.add(x.board.text());
            }
        }
    }

    /** What a sheet holds is told by the words that it becomes, for which undo() makes room. */
    private static void sheetsOf(Probe x) {
        for (int s = 0; s < 4; s++) {
            x.add(x.board.undo());
            x.add(x.board.judge(s));
            x.add(x.board.load(s));
            int words = x.board.count(2);
            for (int word = Math.max(0, words - 5); word < words; word++) {
                x.add(x.board.wordOf(word, 1) * 10 + x.board.wordOf(word, 2));
            }
            x.add(x.board.write(s, 4, 1));
            x.add(x.board.write(s, 5, 1));
            x.add(x.board.copy(0, 0, s, 0, 4));
        }
    }

    private static void keptOf(Probe x) {
        x.add(x.board.undo());
        countsOf(x);
        namesOf(x);
    }

    private static void tornOf(Probe x) {
        x.add(x.board.tear());
        x.add(x.board.undo());
        x.add(x.board.tear());
    }

    /** What comes of it later: draws, words, who is asked next. */
    private static void latersOf(Probe x) {
        x.add(x.board.sample(50));
        x.add(x.board.go(100));
        x.add(x.board.say(0, 1));
        x.add(x.board.name(6, 9));
        x.add(x.board.ask(0, 5));
        x.add(x.board.object());
        x.add(x.board.groups(2, 2));
        countsOf(x);
    }

    private static void changesNothing(String what, Supplier<AwakeBoard> made, int finding, Call call) {
        cases++;
        for (int i = 0; i < PROBES.size(); i++) {
            AwakeBoard one = made.get();
            AwakeBoard other = made.get();
            due.is(what, call.applyAsInt(one), finding);
            if (i == 0) {
                isCounted(what, one, other, Due.BEYOND - finding);
            }
            isAlike(what, i, one, other);
        }
    }

    private static void isAlike(String what, int probe, AwakeBoard one, AwakeBoard other) {
        Probe mine = new Probe(one);
        Probe its = new Probe(other);
        PROBES.get(probe).accept(mine);
        PROBES.get(probe).accept(its);
        due.is(what + ": probe " + probe + " is alike", mine.answers.equals(its.answers) ? 1 : 0, 1);
    }

    private static void isCounted(String what, AwakeBoard one, AwakeBoard other, int kind) {
        for (int which = -1; which <= 6; which++) {
            int more = which == -1 || which == kind ? 1 : 0;
            due.is(what + ": status(" + which + ")", one.status(which), other.status(which) + more);
        }
    }

    private static void onNewBoard(String what, int finding, Call call) {
        changesNothing("new, " + what, AwakeBoard::new, finding, call);
    }

    private static void onSome(String what, int finding, Call call) {
        changesNothing("some, " + what, NothingChangesTest::some, finding, call);
    }

    private static void onFullBoard(String what, int finding, Call call) {
        changesNothing("full, " + what, NothingChangesTest::full, finding, call);
    }

    private static void onNew() {
        onNewBoard("nameOf", Due.BEYOND, x -> x.nameOf(0, 0));
        onNewBoard("change", Due.BEYOND, x -> x.change(0, 1, 1));
        onNewBoard("shut", Due.BEYOND, x -> x.shut(0, true));
        onNewBoard("say", Due.BEYOND, x -> x.say(0, 0));
        onNewBoard("score", Due.BEYOND, x -> x.score(0, 0));
        onNewBoard("shutAll", Due.BEYOND, x -> x.shutAll(0, 0));
        onNewBoard("asked", Due.BEYOND, x -> x.asked(0));
        onNewBoard("hold", Due.BEYOND, x -> x.hold(0, 0));
        onNewBoard("most", Due.NONE, x -> x.most(0));
        onNewBoard("many", Due.NONE, x -> x.many(0, 0));
        onNewBoard("sample: z stays", Due.NONE, x -> x.sample(9));
        onNewBoard("as", Due.MISSING, x -> x.as(0, 0));
        onNewBoard("write", Due.MISSING, x -> x.write(0, 0, 1));
        onNewBoard("copy", Due.MISSING, x -> x.copy(0, 0, 1, 0, 0));
        onNewBoard("load", Due.MISSING, x -> x.load(0));
        onNewBoard("judge", Due.MISSING, x -> x.judge(0));
        onNewBoard("undo", Due.NONE, x -> x.undo());
        onNewBoard("sheet", Due.SIZE, x -> x.sheet(0, 8, -1));
    }

    private static void namesOnSome() {
        onSome("name: kind", Due.BEYOND, x -> x.name(8, 5));
        onSome("name: gap", Due.BEYOND, x -> x.name(0, 1000));
        onSome("nameOf: name", Due.BEYOND, x -> x.nameOf(8, 0));
        onSome("nameOf: what", Due.BEYOND, x -> x.nameOf(0, 8));
        onSome("change: name", Due.BEYOND, x -> x.change(8, 1, 1));
        onSome("change: KIND", Due.BEYOND, x -> x.change(3, 0, 1));
        onSome("change: SHUT", Due.BEYOND, x -> x.change(3, 6, 1));
        onSome("change: GAP", Due.BEYOND, x -> x.change(3, 1, 0));
        onSome("change: HOURS", Due.BEYOND, x -> x.change(3, 2, 0));
        onSome("change: JITTER", Due.BEYOND, x -> x.change(3, 3, 100));
        onSome("change: LEADER", Due.BEYOND, x -> x.change(6, 4, 8));
        onSome("change: LEADER itself", Due.BEYOND, x -> x.change(6, 4, 6));
        onSome("change: TOPIC", Due.BEYOND, x -> x.change(3, 5, 10));
        onSome("shut", Due.BEYOND, x -> x.shut(8, true));
        onSome("shut: not", Due.BEYOND, x -> x.shut(-1, false));
        onSome("speaks: name", Due.BEYOND, x -> x.speaks(8, 0));
        onSome("speaks: second", Due.BEYOND, x -> x.speaks(0, 30000));
        onSome("next: name", Due.BEYOND, x -> x.next(8, 0));
        onSome("next: from", Due.BEYOND, x -> x.next(0, -1));
        onSome("next: NONE", Due.NONE, x -> x.next(0, 29997));
        onSome("go", Due.BEYOND, x -> x.go(0));
        onSome("go: 1000", Due.BEYOND, x -> x.go(1000));
        onSome("say: name", Due.BEYOND, x -> x.say(8, 0));
        onSome("say: topic", Due.BEYOND, x -> x.say(0, 10));
        onSome("wordOf: word", Due.BEYOND, x -> x.wordOf(200, 0));
        onSome("wordOf: what", Due.BEYOND, x -> x.wordOf(0, 4));
        onSome("below", Due.BEYOND, x -> x.below(200));
        onSome("sign: name", Due.BEYOND, x -> x.sign(8, 0));
        onSome("sign: what", Due.BEYOND, x -> x.sign(0, 7));
        onSome("hours", Due.BEYOND, x -> x.hours(8));
    }

    private static void textsOnSome() {
        onSome("feed: n 0", Due.BEYOND, x -> x.feed('1', 0));
        onSome("feed: n 5", Due.BEYOND, x -> x.feed('1', 5));
        onSome("score: text", Due.BEYOND, x -> x.score(2, 0));
        onSome("score: name", Due.BEYOND, x -> x.score(0, 8));
        onSome("found: text", Due.BEYOND, x -> x.found(2, 0, 0));
        onSome("found: what", Due.BEYOND, x -> x.found(0, 0, 3));
        onSome("line: text", Due.BEYOND, x -> x.line(2, 1, 1, 0));
        onSome("line: a", Due.BEYOND, x -> x.line(0, 100, 1, 0));
        onSome("line: b", Due.BEYOND, x -> x.line(0, 1, -1, 0));
        onSome("line: what", Due.BEYOND, x -> x.line(0, 1, 1, 2));
        onSome("shutAll", Due.BEYOND, x -> x.shutAll(2, 0));
        onSome("ask: text", Due.BEYOND, x -> x.ask(2, 0));
        onSome("ask: bar", Due.BEYOND, x -> x.ask(0, -10000));
        onSome("asked: name", Due.BEYOND, x -> x.asked(8));
        onSome("asked: STATE", Due.STATE, x -> x.asked(2));
    }

    private static void countsOnSome() {
        onSome("together: one and the same", Due.BEYOND, x -> x.together(1, 1, 0));
        onSome("together: t", Due.BEYOND, x -> x.together(0, 1, 100));
        onSome("group: name", Due.BEYOND, x -> x.group(8, 0, 1, 0));
        onSome("group: t", Due.BEYOND, x -> x.group(0, 100, 1, 0));
        onSome("group: n", Due.BEYOND, x -> x.group(0, 0, 0, 0));
        onSome("group: what", Due.BEYOND, x -> x.group(0, 0, 1, 3));
        onSome("groups: t", Due.BEYOND, x -> x.groups(-1, 1));
        onSome("groups: n", Due.BEYOND, x -> x.groups(0, 100));
        onSome("club: second", Due.BEYOND, x -> x.club(30000, 0));
        onSome("club: t", Due.BEYOND, x -> x.club(0, 100));
        onSome("apart", Due.BEYOND, x -> x.apart(3, 3));
        onSome("counts: topic", Due.BEYOND, x -> x.counts(10, 0));
        onSome("counts: a set", Due.BEYOND, x -> x.counts(0, 256));
        onSome("most: a set", Due.BEYOND, x -> x.most(256));
        onSome("most: NONE", Due.NONE, x -> x.most(255));
        onSome("first: topic", Due.BEYOND, x -> x.first(-1));
        onSome("first: NONE", Due.NONE, x -> x.first(9));
        onSome("many: a set", Due.BEYOND, x -> x.many(256, 1));
        onSome("many: NONE", Due.NONE, x -> x.many(1, 2));
        onSome("sold: name", Due.BEYOND, x -> x.sold(8));
        onSome("sample: n 0, z stays", Due.BEYOND, x -> x.sample(0));
        onSome("sample: n 100, z stays", Due.BEYOND, x -> x.sample(100));
    }

    private static void sheetsOnSome() {
        onSome("hold: spot", Due.BEYOND, x -> x.hold(10, 0));
        onSome("hold: name", Due.BEYOND, x -> x.hold(0, 8));
        onSome("hold: name -2", Due.BEYOND, x -> x.hold(0, -2));
        onSome("as: spot", Due.BEYOND, x -> x.as(10, 0));
        onSome("as: kind", Due.BEYOND, x -> x.as(0, 8));
        onSome("as: MISSING", Due.MISSING, x -> x.as(2, 0));
        onSome("as: KIND", Due.KIND, x -> x.as(0, 7));
        onSome("sheet: s", Due.BEYOND, x -> x.sheet(4, 8, 1));
        onSome("sheet: bits", Due.BEYOND, x -> x.sheet(0, 24, 1));
        onSome("sheet: SIZE", Due.SIZE, x -> x.sheet(0, 8, -1));
        onSome("sheet: SIZE without bits", Due.SIZE, x -> x.sheet(0, 0, -1));
        onSome("sheet: n", Due.BEYOND, x -> x.sheet(0, 8, 41));
        onSome("sheet: n without bits", Due.BEYOND, x -> x.sheet(0, 0, 41));
        onSome("write: s", Due.BEYOND, x -> x.write(4, 0, 3));
        onSome("write: MISSING", Due.MISSING, x -> x.write(3, 0, 3));
        onSome("write: i", Due.BEYOND, x -> x.write(0, 6, 3));
        onSome("copy: s", Due.BEYOND, x -> x.copy(4, 0, 1, 0, 1));
        onSome("copy: t", Due.BEYOND, x -> x.copy(0, 0, 4, 0, 1));
        onSome("copy: MISSING", Due.MISSING, x -> x.copy(0, 0, 3, 0, 1));
        onSome("copy: KIND", Due.KIND, x -> x.copy(0, 0, 2, 0, 1));
        onSome("copy: too many to", Due.BEYOND, x -> x.copy(0, 0, 1, 0, 6));
        onSome("copy: too many to the end", Due.BEYOND, x -> x.copy(0, 0, 1, 3, 3));
        onSome("copy: too many from", Due.BEYOND, x -> x.copy(1, 0, 0, 0, 6));
        onSome("copy: below 0", Due.BEYOND, x -> x.copy(0, -1, 1, 0, 2));
        onSome("load: s", Due.BEYOND, x -> x.load(4));
        onSome("load: MISSING", Due.MISSING, x -> x.load(3));
        onSome("judge: s", Due.BEYOND, x -> x.judge(4));
        onSome("judge: MISSING", Due.MISSING, x -> x.judge(3));
        onSome("count", Due.BEYOND, x -> x.count(9));
        onSome("status", Due.BEYOND, x -> x.status(7));
        onSome("status: -2", Due.BEYOND, x -> x.status(-2));
    }

    private static void onFull() {
        onFullBoard("name", Due.FULL, x -> x.name(0, 5));
        onFullBoard("go", Due.STATE, x -> x.go(1));
        onFullBoard("say", Due.FULL, x -> x.say(0, 5));
        onFullBoard("feed", Due.FULL, x -> x.feed('1', 1));
        onFullBoard("feed: 4", Due.FULL, x -> x.feed(0, 4));
        onFullBoard("text", Due.FULL, x -> x.text());
        onFullBoard("ask", Due.NONE, x -> x.ask(0, 0));
        onFullBoard("asked", Due.STATE, x -> x.asked(13));
    }

    /** A FAULT is no finding, but it changes nothing else either: as if THE TAPE had been wiped. */
    private static void faultEmptiesTheTapeAlone() {
        for (int i = 0; i < PROBES.size(); i++) {
            AwakeBoard one = some();
            AwakeBoard other = some();
            one.feed('$', 1);
            other.feed('$', 1);
            due.is("17 text: a FAULT", one.text(), -5);
            due.is("16 wipe", other.wipe(), 5);
            due.is("17 a FAULT is no finding", one.status(-1), other.status(-1));
            isAlike("17 a FAULT empties THE TAPE alone", i, one, other);
        }
    }
}
