/** All that can be had at once: 14 names, 200 words, 6 texts of 80 bytes, 4 sheets of 40 numbers. */
public final class FullTest {
    private static final Due due = new Due("FullTest");
    private static final int ALL = (1 << 14) - 1;

    public static void main(String[] args) {
        AwakeBoard x = full();
        names(x);
        texts(x);
        together(x);
        counts(x);
        sheets(x);
        due.is("no finding but those asked for", x.status(-1), x.status(1));
        due.end();
    }

    /** All names speak in seconds 0 to 13; names 0 to 3 have one word more, names 4 to 13 have lost theirs. */
    private static AwakeBoard full() {
        AwakeBoard x = new AwakeBoard();
        for (int i = 0; i < 14; i++) {
            x.name(i % 2, 1);
            x.change(i, 5, i % 10);
        }
        for (int i = 0; i < 6; i++) {
            Due.feed(x, "w*" + i);
            for (int blanks = 0; blanks < 18; blanks++) {
                x.feed(0x20202020, 4);
            }
            x.feed(0x202020, 3);
            x.feed('+' << 8 | 'n', 2);
            due.is("17 text of 80 bytes", x.text(), i);
        }
        due.is("9 go", x.go(15), 15);
        return x;
    }

    private static void names(AwakeBoard x) {
        due.is("2 full", x.name(0, 1), Due.FULL);
        due.is("10 full", x.say(13, 9), Due.FULL);
        due.is("46 words", x.count(2), 200);
        due.is("46 lost", x.count(3), 10);
        due.is("11 word 199", x.wordOf(199, 1), 3);
        due.is("11 it follows", x.wordOf(199, 3), 195);
        due.is("13 w of 3", x.sign(3, 0), 15);
        due.is("13 w of 13", x.sign(13, 0), 14);
        due.is("12 below 199", x.below(199), 0);
        // The latest of a second is followed by all but itself, which follows the one ahead of it.
        due.is("12 below 12", x.below(12), 1 + x.below(14 + 13));
    }

    private static void texts(AwakeBoard x) {
        due.is("18 score(5, 13)", x.score(5, 13), 14 * 5 + 13);
        due.is("19 found", x.found(0, 7, 0), ALL & ~127);
        due.is("19 wronged", x.found(0, 7, 1), 0x2a80);
        due.is("19 missed", x.found(0, 7, 2), 0x55);
        due.is("20 the line", x.line(0, 99, 1, 0), 14);
        due.is("20 its sum", x.line(0, 99, 1, 1), 7);
        due.is("22 ask", x.ask(0, 9999), 13);
        due.is("43 image", x.image(), 1);
        due.is("21 shut all", x.shutAll(0, 0), 14);
        due.is("6 object", x.object(), 7);
        due.is("44 undo", x.undo(), 15);
        due.is("46 none is shut", x.count(6), 0);
        due.is("46 texts", x.count(4), 6);
        due.is("18 score(5, 0)", x.score(5, 0), 75);
    }

    private static void together(AwakeBoard x) {
        due.is("24 in one second", x.together(13, 0, 0), 14);
        due.is("24 with one that was lost", x.together(0, 13, 0), 14);
        due.is("24 a second off", x.together(0, 13, 1), 15);
        due.is("25 group", x.group(13, 0, 14, 2), ALL);
        due.is("25 by 15", x.group(13, 1, 15, 2), ALL);
        due.is("25 by 15 in one second", x.group(13, 0, 15, 2), 1 << 13);
        due.is("26 groups by 15 in one second", x.groups(0, 15), 11);
        due.is("27 club", x.club(14, 99), 15);
        due.is("28 apart", x.apart(0, 13), 0);
    }

    private static void counts(AwakeBoard x) {
        due.is("29 without 13", x.counts(-1, 1 << 13), 186);
        due.is("29 of 3", x.counts(3, 0), 29);
        due.is("30 most", x.most(0), 0);
        due.is("30 without 0 to 12", x.most(ALL >> 1), 3);
        due.is("31 first", x.first(9), 9);
        due.is("32 many", x.many(ALL, 1 << 13), 14);
        due.is("33 sold", x.sold(13), 1);
        x.seed(1);
        int machines = x.sample(99);
        due.is("35 sample", machines > 30 && machines < 70 ? 1 : 0, 1);
    }

    private static void sheets(AwakeBoard x) {
        for (int s = 0; s < 4; s++) {
            due.is("38 sheet", x.sheet(s, 32, 40), 40);
            for (int i = 0; i < 40; i++) {
                x.write(s, i, i % 14);
            }
            due.is("42 all 40, but there are 200 words", x.judge(s), 41);
            due.is("41 no room", x.load(s), 0);
        }
        due.is("40 all", x.copy(0, 0, 3, 0, 40), 40);
        due.is("40 over itself", x.copy(3, 0, 3, 1, 39), 39);
        due.is("42 number 1 is wrong", x.judge(3), 2);
        due.is("36 spot 9", x.hold(9, 13), 1);
        due.is("37 spot 9", x.as(9, 1), 13);
    }
}
