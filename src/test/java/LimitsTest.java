import java.util.function.ToIntBiFunction;

/**
 * Each argument of each call: the last value inside its limit and the first one outside it, on both
 * sides, and the ints that are farthest off; the call's other arguments are ones that it takes.
 */
public final class LimitsTest {
    private static final Due due = new Due("LimitsTest");
    private static final int NAMES = 9;
    private static final int WORDS = 20;
    private static final int TEXTS = 3;
    private static final int ALL = (1 << NAMES) - 1;
    private static final int NUMBERS = 6;

    /** A call of a board with one argument, which is the one that is asked for. */
    private interface Call extends ToIntBiFunction<AwakeBoard, Integer> { }

    public static void main(String[] args) {
        names();
        traits();
        board();
        texts();
        bars();
        together();
        counts();
        draws();
        spots();
        sheets();
        bitsOfSheets();
        copies();
        images();
        namesOfAllCalls();
        namesOfTwo();
        due.end();
    }

    /** 9 names, of which the first speaks always, 20 words, 3 texts, 4 sheets of 6 numbers of 8 bits. */
    private static AwakeBoard some() {
        AwakeBoard x = new AwakeBoard();
        for (int i = 0; i < NAMES; i++) {
            x.name(i % 8, i == 0 ? 1 : 5);
            x.hold(i, i);
        }
        x.hold(9, 0);
        for (int i = 0; i < WORDS; i++) {
            x.say(i % NAMES, i % 10);
        }
        for (int i = 0; i < TEXTS; i++) {
            Due.text(x, "w-" + i);
        }
        for (int s = 0; s < 4; s++) {
            x.sheet(s, 8, NUMBERS);
        }
        return x;
    }

    private static void inside(String argument, Call call, int... values) {
        for (int v : values) {
            AwakeBoard x = some();
            int told = call.applyAsInt(x, v);
            due.is(argument + " " + v + " told " + told + ", findings", x.status(-1), 0);
        }
    }

    private static void outside(String argument, int finding, Call call, int... values) {
        for (int v : values) {
            AwakeBoard x = some();
            due.is(argument + " " + v, call.applyAsInt(x, v), finding);
            due.is(argument + " " + v + ", findings", x.status(-1), 1);
            due.is(argument + " " + v + ", findings of that kind", x.status(Due.BEYOND - finding), 1);
        }
    }

    /** All from the least to the most are taken, and none else. */
    private static void limits(String argument, int least, int most, Call call) {
        inside(argument, call, least, Math.min(least + 1, most), Math.max(most - 1, least), most);
        outside(argument, Due.BEYOND, call, Due.LEAST, least - 2, least - 1, most + 1, most + 2, Due.MOST);
    }

    private static void any(String argument, Call call) {
        inside(argument, call, Due.LEAST, Due.LEAST + 1, Due.SIZE, Due.BEYOND, -1, 0, 1, Due.MOST - 1, Due.MOST);
    }

    private static void names() {
        limits("2 name: kind", 0, 7, (x, v) -> x.name(v, 5));
        limits("2 name: gap", 1, 999, (x, v) -> x.name(0, v));
        limits("3 nameOf: what", 0, 7, (x, v) -> x.nameOf(4, v));
        limits("4 change: what", 1, 5, (x, v) -> x.change(4, v, 1));
        limits("7 speaks: second", 0, 29999, (x, v) -> x.speaks(0, v));
        limits("8 next: from", 0, 29999, (x, v) -> x.next(0, v));
    }

    private static void traits() {
        limits("4 change: GAP", 1, 999, (x, v) -> x.change(4, 1, v));
        limits("4 change: HOURS", 1, 1023, (x, v) -> x.change(4, 2, v));
        limits("4 change: JITTER", 0, 99, (x, v) -> x.change(4, 3, v));
        limits("4 change: LEADER of the last", -1, NAMES - 2, (x, v) -> x.change(NAMES - 1, 4, v));
        limits("4 change: TOPIC", 0, 9, (x, v) -> x.change(4, 5, v));
        inside("4 change: LEADER of the first", (x, v) -> x.change(0, 4, v), -1, 1, 2, NAMES - 1);
        outside("4 change: LEADER of the first", Due.BEYOND, (x, v) -> x.change(0, 4, v), -2, 0, NAMES);
        inside("4 change: LEADER of another", (x, v) -> x.change(4, 4, v), -1, 0, 3, 5, NAMES - 1);
        outside("4 change: LEADER of another", Due.BEYOND, (x, v) -> x.change(4, 4, v), -2, 4, NAMES);
    }

    private static void board() {
        limits("9 go: n", 1, 999, (x, v) -> x.go(v));
        limits("10 say: topic", 0, 9, (x, v) -> x.say(0, v));
        limits("11 wordOf: word", 0, WORDS - 1, (x, v) -> x.wordOf(v, 0));
        limits("11 wordOf: what", 0, 3, (x, v) -> x.wordOf(WORDS - 1, v));
        limits("12 below: word", 0, WORDS - 1, (x, v) -> x.below(v));
        limits("13 sign: what", 0, 6, (x, v) -> x.sign(0, v));
    }

    private static void texts() {
        any("15 feed: bytes", (x, v) -> x.feed(v, 4));
        limits("15 feed: n", 1, 4, (x, v) -> x.feed(32, v));
        limits("18 score: text", 0, TEXTS - 1, (x, v) -> x.score(v, 0));
        limits("19 found: text", 0, TEXTS - 1, (x, v) -> x.found(v, 0, 0));
        limits("19 found: what", 0, 2, (x, v) -> x.found(0, 0, v));
        limits("20 line: text", 0, TEXTS - 1, (x, v) -> x.line(v, 1, 1, 0));
        limits("20 line: a", 0, 99, (x, v) -> x.line(0, v, 1, 0));
        limits("20 line: b", 0, 99, (x, v) -> x.line(0, 1, v, 0));
        limits("20 line: what", 0, 1, (x, v) -> x.line(0, 1, 1, v));
        limits("21 shutAll: text", 0, TEXTS - 1, (x, v) -> x.shutAll(v, 0));
        limits("22 ask: text", 0, TEXTS - 1, (x, v) -> x.ask(v, 0));
    }

    private static void bars() {
        any("19 found: bar", (x, v) -> x.found(0, v, 0));
        any("19 wronged: bar", (x, v) -> x.found(0, v, 1));
        any("19 missed: bar", (x, v) -> x.found(0, v, 2));
        any("21 shutAll: bar", (x, v) -> x.shutAll(0, v));
        limits("22 ask: bar", -9999, 9999, (x, v) -> x.ask(0, v));
    }

    private static void together() {
        limits("24 together: t", 0, 99, (x, v) -> x.together(0, 1, v));
        limits("25 group: t", 0, 99, (x, v) -> x.group(0, v, 1, 0));
        limits("25 group: n", 1, 99, (x, v) -> x.group(0, 0, v, 0));
        limits("25 group: what", 0, 2, (x, v) -> x.group(0, 0, 1, v));
        limits("26 groups: t", 0, 99, (x, v) -> x.groups(v, 1));
        limits("26 groups: n", 1, 99, (x, v) -> x.groups(0, v));
        limits("27 club: second", 0, 29999, (x, v) -> x.club(v, 0));
        limits("27 club: t", 0, 99, (x, v) -> x.club(0, v));
    }

    private static void counts() {
        limits("29 counts: topic", -1, 9, (x, v) -> x.counts(v, 0));
        limits("29 counts: without", 0, ALL, (x, v) -> x.counts(-1, v));
        limits("31 first: topic", 0, 9, (x, v) -> x.first(v));
        inside("30 most: without", (x, v) -> x.most(v), 0, 1, ALL - 1);
        outside("30 most: without all", Due.NONE, (x, v) -> x.most(v), ALL);
        outside("30 most: without", Due.BEYOND, (x, v) -> x.most(v), Due.LEAST, -2, -1, ALL + 1, ALL + 2, Due.MOST);
        inside("32 many: a", (x, v) -> x.many(v, ALL), 1, 2, ALL - 1, ALL);
        inside("32 many: b", (x, v) -> x.many(ALL, v), 1, 2, ALL - 1, ALL);
        outside("32 many: a", Due.NONE, (x, v) -> x.many(v, ALL), 0);
        outside("32 many: b", Due.NONE, (x, v) -> x.many(ALL, v), 0);
        outside("32 many: a", Due.BEYOND, (x, v) -> x.many(v, ALL), Due.LEAST, -2, -1, ALL + 1, ALL + 2, Due.MOST);
        outside("32 many: b", Due.BEYOND, (x, v) -> x.many(ALL, v), Due.LEAST, -2, -1, ALL + 1, ALL + 2, Due.MOST);
    }

    private static void draws() {
        any("34 seed: v", (x, v) -> x.seed(v));
        any("34 seed: what it was", (x, v) -> x.seed(v) == 1 && x.seed(7) == v && x.seed(1) == 7 ? 1 : x.count(9));
        any("46 count: z", (x, v) -> x.seed(v) == 1 && x.count(8) == v ? 1 : x.count(9));
        limits("35 sample: n", 1, 99, (x, v) -> x.sample(v));
    }

    private static void spots() {
        limits("36 hold: spot", 0, 9, (x, v) -> x.hold(v, 0));
        limits("36 hold: spot, nothing", 0, 9, (x, v) -> x.hold(v, -1));
        limits("36 hold: name", -1, NAMES - 1, (x, v) -> x.hold(0, v));
        limits("37 as: spot", 0, 9, (x, v) -> x.as(v, 0));
        // Spot 7 holds a HALF.
        inside("37 as: kind", (x, v) -> x.as(7, v), 0, 7);
        outside("37 as: kind", Due.BEYOND, (x, v) -> x.as(7, v), Due.LEAST, -2, -1, 8, 9, Due.MOST);
    }

    private static void sheets() {
        limits("38 sheet: s", 0, 3, (x, v) -> x.sheet(v, 8, 1));
        limits("38 sheet: s without bits", 0, 3, (x, v) -> x.sheet(v, 0, 0));
        limits("39 write: s", 0, 3, (x, v) -> x.write(v, 0, 0));
        limits("39 write: i", 0, NUMBERS - 1, (x, v) -> x.write(0, v, 0));
        limits("41 load: s", 0, 3, (x, v) -> x.load(v));
        limits("42 judge: s", 0, 3, (x, v) -> x.judge(v));
    }

    private static void bitsOfSheets() {
        for (int bits : new int[] {0, 8, 16, 32}) {
            String sheet = "38 sheet of " + bits + " bits: n";
            inside(sheet, (x, v) -> x.sheet(0, bits, v), 0, 1, 39, 40);
            outside(sheet, Due.BEYOND, (x, v) -> x.sheet(0, bits, v), 41, 42, Due.MOST);
            outside(sheet, Due.SIZE, (x, v) -> x.sheet(0, bits, v), -1, -2, Due.LEAST);
            due.is("38 sheet of " + bits + " bits", some().sheet(3, bits, 40), bits == 0 ? 0 : 40);
            if (bits > 0) {
                any("39 write of " + bits + " bits: v", (x, v) -> x.sheet(1, bits, 1) + x.write(1, 0, v));
            }
        }
        for (int bits = -33; bits <= 65; bits++) {
            if (bits != 0 && bits != 8 && bits != 16 && bits != 32) {
                outside("38 sheet: bits", Due.BEYOND, (x, v) -> x.sheet(0, v, 3), bits);
            }
        }
        outside("38 sheet: bits", Due.BEYOND, (x, v) -> x.sheet(0, v, 3), Due.LEAST, Due.MOST);
    }

    private static void copies() {
        limits("40 copy: s", 0, 3, (x, v) -> x.copy(v, 0, 1, 0, 1));
        limits("40 copy: t", 0, 3, (x, v) -> x.copy(1, 0, v, 0, 1));
        limits("40 copy: s and t", 0, 3, (x, v) -> x.copy(v, 0, v, 1, 5));
        for (int n = 0; n <= NUMBERS; n++) {
            int size = n;
            limits("40 copy of " + n + ": from", 0, NUMBERS - n, (x, v) -> x.copy(0, v, 1, 0, size));
            limits("40 copy of " + n + ": to", 0, NUMBERS - n, (x, v) -> x.copy(0, 0, 1, v, size));
            limits("40 copy from " + n + ": n", 0, NUMBERS - n, (x, v) -> x.copy(0, size, 1, 0, v));
            limits("40 copy to " + n + ": n", 0, NUMBERS - n, (x, v) -> x.copy(0, 0, 1, size, v));
        }
    }

    private static void images() {
        limits("46 count: what", 0, 8, (x, v) -> x.count(v));
        limits("47 status: which, that it tells 0", -1, 6, (x, v) -> x.status(v));
    }

    private static void namesOfAllCalls() {
        int last = NAMES - 1;
        limits("3 nameOf: name", 0, last, (x, v) -> x.nameOf(v, 0));
        limits("4 change: name", 0, last, (x, v) -> x.change(v, 1, 7));
        limits("5 shut: name", 0, last, (x, v) -> x.shut(v, true));
        limits("5 shut: name, not", 0, last, (x, v) -> x.shut(v, false));
        limits("7 speaks: name", 0, last, (x, v) -> x.speaks(v, 0));
        limits("8 next: name", 0, last, (x, v) -> x.next(v, 0));
        limits("10 say: name", 0, last, (x, v) -> x.say(v, 0));
        limits("13 sign: name", 0, last, (x, v) -> x.sign(v, 0));
        limits("14 hours: name", 0, last, (x, v) -> x.hours(v));
        limits("18 score: name", 0, last, (x, v) -> x.score(0, v));
        limits("23 asked: name", 0, last, (x, v) -> x.asked(v));
        limits("25 group: name", 0, last, (x, v) -> x.group(v, 0, 1, 0));
        limits("33 sold: name", 0, last, (x, v) -> x.sold(v));
    }

    /** Of two names the other one is now above, now below; one and the same is beyond. */
    private static void namesOfTwo() {
        int last = NAMES - 1;
        limits("24 together: a, below", 0, last - 1, (x, v) -> x.together(v, last, 0));
        limits("24 together: b, below", 0, last - 1, (x, v) -> x.together(last, v, 0));
        limits("24 together: a, above", 1, last, (x, v) -> x.together(v, 0, 0));
        limits("24 together: b, above", 1, last, (x, v) -> x.together(0, v, 0));
        limits("28 apart: a, below", 0, last - 1, (x, v) -> x.apart(v, last));
        limits("28 apart: b, below", 0, last - 1, (x, v) -> x.apart(last, v));
        limits("28 apart: a, above", 1, last, (x, v) -> x.apart(v, 0));
        limits("28 apart: b, above", 1, last, (x, v) -> x.apart(0, v));
    }
}
