/** Promises 15 to 23: texts. */
public final class TextsTest {
    private static final Due due = new Due("TextsTest");

    public static void main(String[] args) {
        feedAndWipe();
        text();
        faults();
        openOnes();
        textsAndTape();
        score();
        scoreOfSigns();
        scoreLikeFinding();
        found();
        line();
        shutAll();
        ask();
        asked();
        due.end();
    }

    private static void feedAndWipe() {
        AwakeBoard x = new AwakeBoard();
        due.is("15 n 0", x.feed(1, 0), Due.BEYOND);
        due.is("15 n 5", x.feed(1, 5), Due.BEYOND);
        due.is("15 n least", x.feed(1, Due.LEAST), Due.BEYOND);
        due.is("16 nothing", x.wipe(), 0);
        for (int i = 1; i <= 19; i++) {
            due.is("15 four", x.feed(0x20202020, 4), 4 * i);
        }
        due.is("15 two", x.feed(0x2020, 2), 78);
        due.is("15 three are too many", x.feed(0x202020, 3), Due.FULL);
        due.is("15 beyond ahead of full", x.feed(0, 9), Due.BEYOND);
        due.is("15 one", x.feed(32, 1), 79);
        due.is("15 the last", x.feed('7', 1), 80);
        due.is("15 full", x.feed(32, 1), Due.FULL);
        due.is("15 count", x.count(5), 80);
        due.is("17 80 bytes", x.text(), 0);
        due.is("17 tape is empty", x.count(5), 0);
        x.name(0, 1);
        due.is("18 of 80 bytes", x.score(0, 0), 7);
        due.is("15 the highest first", x.feed('1' << 16 | '2' << 8 | '3', 3), 3);
        due.is("15 its lowest bytes", x.feed(0x55555500 | '4', 1), 4);
        x.text();
        due.is("18 1234", x.score(1, 0), 1234);
        x.feed('w', 1);
        due.is("16 one byte", x.wipe(), 1);
        due.is("16 none", x.count(5), 0);
        due.is("15 of four bytes", x.feed('1' << 24 | '+' << 16 | '4' << 8 | '2', 4), 4);
        x.text();
        due.is("18 1+42", x.score(2, 0), 43);
    }

    private static void text() {
        String[] good = {"w", "9999", "0009999", " w ", "w+g-l*h/f", "w<g", "w=g", "(w<g)+(g=w)*2",
            "-w", "w--g", "2 - - 3", "(w)", "((1<2)=(2<3))", "w*-g", "00000000000000000000000000001"};
        for (String one : good) {
            due.is("17 good " + one, Due.text(new AwakeBoard(), one), 0);
        }
    }

    private static void faults() {
        Object[][] bad = {
            {"", 0}, {"   ", 3}, {"w+", 2}, {"w+ ", 3}, {"w g", 2}, {"wg", 1}, {"x", 0}, {"w+x", 2},
            {"W", 0}, {"10000", 0}, {"1+99999999999999999999", 2}, {"12 34", 3}, {"w<g<l", 3}, {"w=g<l", 3},
            {"(w", 2}, {"(w ", 3}, {"w)", 1}, {"()", 1}, {")", 0}, {"+w", 0}, {"*", 0}, {"w**g", 2}, {"w*/g", 2},
            {"w+*", 2}, {"w<", 2}, {"<w", 0}, {"w<=g", 2}, {"(w g)", 3}, {"(w<g=l)", 4}, {"w(g)", 1}, {"3w", 1},
            {"w$", 1}, {"$", 0}, {"w.5", 1}, {"w,g", 1}, {"1\t", 1}, {"w g $", 2}, {"w+10000x", 2},
            {"-", 1}, {"--", 2}, {"w-", 2}, {"w\u0000", 1}, {"\u00ff", 0}, {"\u0003", 0}, {"\u0002", 0},
            {"w 10000", 2}, {"(1<2<3)", 4}, {"((w)", 4}, {"(w))", 3},
        };
        for (Object[] one : bad) {
            AwakeBoard x = new AwakeBoard();
            int fault = (Integer) one[1];
            due.is("17 fault of '" + one[0] + "'", Due.text(x, (String) one[0]), -1 - fault);
            due.is("17 tape is empty", x.count(5), 0);
            due.is("17 no text", x.count(4), 0);
            due.is("17 no finding", x.status(-1), 0);
        }
    }

    private static void openOnes() {
        due.is("17 six (", Due.text(new AwakeBoard(), "((((((w))))))"), 0);
        due.is("17 seven (", Due.text(new AwakeBoard(), "(((((((w)))))))"), -7);
        due.is("17 six -", Due.text(new AwakeBoard(), "------w"), 0);
        due.is("17 seven -", Due.text(new AwakeBoard(), "-------w"), -7);
        due.is("17 six of both", Due.text(new AwakeBoard(), "-(-(-(w)))"), 0);
        due.is("17 - in six of both", Due.text(new AwakeBoard(), "-(-(-(-w)))"), -7);
        due.is("17 - between isn't open", Due.text(new AwakeBoard(), "((((((w-w-w))))))"), 0);
        due.is("17 closed ones aren't open", Due.text(new AwakeBoard(), "((((((w))))))-((((((w))))))"), 0);
        due.is("17 - ends with its one", Due.text(new AwakeBoard(), "-w*------w"), 0);
        due.is("17 seven behind a closed one", Due.text(new AwakeBoard(), "(w)*(((((((w"), -11);
        due.is("17 blanks ahead of the seventh", Due.text(new AwakeBoard(), "------ -w"), -8);
    }

    private static void textsAndTape() {
        AwakeBoard x = new AwakeBoard();
        for (int i = 0; i < 6; i++) {
            due.is("17 text " + i, Due.text(x, "" + i), i);
        }
        Due.feed(x, "$");
        due.is("17 full ahead of a fault", x.text(), Due.FULL);
        due.is("17 the tape stays", x.count(5), 1);
        due.is("17 count", x.count(4), 6);
        x.name(0, 1);
        for (int i = 0; i < 6; i++) {
            due.is("18 text " + i, x.score(i, 0), i);
        }
    }

    private static void reckon(String text, int want) {
        AwakeBoard x = new AwakeBoard();
        x.name(0, 1);
        due.is("17 " + text, Due.text(x, text), 0);
        due.is("18 " + text, x.score(0, 0), want);
    }

    private static void score() {
        reckon("2+3*4", 14);
        reckon("(2+3)*4", 20);
        reckon("10-3-2", 5);
        reckon("100/7/2", 7);
        reckon("7/2*2", 6);
        reckon("-7/2", -3);
        reckon("7/-2", -3);
        reckon("5/0", 0);
        reckon("5/(3-3)+1", 1);
        reckon("1<2", 1);
        reckon("2<2", 0);
        reckon("3<2", 0);
        reckon("2=2", 1);
        reckon("2=3", 0);
        reckon("1+1=2", 1);
        reckon("(1<2)+(2<1)*10+5", 6);
        reckon("-3*-4", 12);
        reckon("--5", 5);
        reckon("---5", -5);
        reckon("-(2-5)", 3);
        reckon("2--3", 5);
        reckon("  1  +  2  ", 3);
        reckon("9999*9999*9999", 9999 * 9999 * 9999);
        reckon("(9999*9999*21+4999*9999+9999*6+4999)/-1", -(9999 * 9999 * 21 + 4999 * 9999 + 9999 * 6 + 4999));
        reckon("(8192*8192*32)/-1", Integer.MIN_VALUE);
        reckon("(8192*8192*32)<0", 1);
        reckon("1-2<0", 1);
    }

    private static void scoreOfSigns() {
        AwakeBoard x = new AwakeBoard();
        x.name(0, 7);
        x.name(3, 9);
        x.name(2, 50);
        x.go(120);
        String letters = "wglhfqt";
        x.image();
        for (int what = 0; what < 7; what++) {
            x.undo();
            int text = Due.text(x, letters.substring(what, what + 1));
            for (int name = 0; name < 3; name++) {
                due.is("18 " + letters.charAt(what), x.score(text, name), x.sign(name, what));
            }
        }
        AwakeBoard y = new AwakeBoard();
        due.is("18 no text", y.score(0, 0), Due.BEYOND);
        y.name(3, 4);
        y.name(0, 7);
        y.go(30);
        Due.text(y, "n*10+t");
        due.is("18 n and t of 0", y.score(0, 0), 3);
        due.is("18 n and t of 1", y.score(0, 1), 11);
        due.is("18 text 1", y.score(1, 0), Due.BEYOND);
        due.is("18 text -1", y.score(-1, 0), Due.BEYOND);
        due.is("18 name 2", y.score(0, 2), Due.BEYOND);
        due.is("18 name -1", y.score(0, -1), Due.BEYOND);
        due.is("18 status", y.status(0), 5);
    }

    private static void scoreLikeFinding() {
        AwakeBoard x = new AwakeBoard();
        x.name(0, 1);
        Due.text(x, "-1000*1000-4");
        due.is("18 a number like a finding", x.score(0, 0), Due.NONE);
        due.is("18 that is none", x.status(-1), 0);
    }

    /** Kinds 0 to 7 as names 0 to 7; their scores by text 0 are their numbers. */
    private static AwakeBoard eight() {
        AwakeBoard x = new AwakeBoard();
        for (int kind = 0; kind <= 7; kind++) {
            x.name(kind, 10);
        }
        Due.text(x, "n");
        return x;
    }

    private static void found() {
        AwakeBoard x = eight();
        due.is("19 found from 3 on", x.found(0, 3, 0), 0xf8);
        due.is("19 wronged", x.found(0, 3, 1), 1 << 3 | 1 << 6);
        due.is("19 missed", x.found(0, 3, 2), 1 | 1 << 2);
        due.is("19 all", x.found(0, Due.LEAST, 0), 255);
        due.is("19 all people", x.found(0, Due.LEAST, 1), 74);
        due.is("19 none missed", x.found(0, Due.LEAST, 2), 0);
        due.is("19 none", x.found(0, Due.MOST, 0), 0);
        due.is("19 all machines missed", x.found(0, Due.MOST, 2), 181);
        x.shut(7, true);
        due.is("19 a shut one, too", x.found(0, 7, 0), 128);
        due.is("19 what 3", x.found(0, 3, 3), Due.BEYOND);
        due.is("19 what -1", x.found(0, 3, -1), Due.BEYOND);
        due.is("19 text 1", x.found(1, 3, 0), Due.BEYOND);
        due.is("19 text -1", x.found(-1, 3, 0), Due.BEYOND);
        due.is("19 nobody", empty().found(0, 0, 2), 0);
    }

    private static AwakeBoard empty() {
        AwakeBoard x = new AwakeBoard();
        Due.text(x, "n");
        return x;
    }

    private static void line() {
        AwakeBoard x = eight();
        // With bar 7 no one is wronged, and 0, 2, 4, 5 are missed.
        due.is("20 people are dear", x.line(0, 99, 1, 0), 7);
        due.is("20 their sum", x.line(0, 99, 1, 1), 4);
        due.is("20 machines are dear", x.line(0, 1, 99, 0), -200);
        due.is("20 their sum", x.line(0, 1, 99, 1), 3);
        // Bar 4: 0 and 2 are missed (4), 6 is wronged (3); bar 2: 2 and 6; bar 7: 8 and 0; bar -200: 0 and 9.
        due.is("20 between", x.line(0, 3, 2, 0), 4);
        due.is("20 their sum", x.line(0, 3, 2, 1), 7);
        due.is("20 nothing costs", x.line(0, 0, 0, 0), -200);
        due.is("20 people cost nothing", x.line(0, 0, 5, 0), -200);
        due.is("20 machines cost nothing", x.line(0, 5, 0, 0), 7);
        due.is("20 a 100", x.line(0, 100, 1, 0), Due.BEYOND);
        due.is("20 a -1", x.line(0, -1, 1, 0), Due.BEYOND);
        due.is("20 b 100", x.line(0, 1, 100, 0), Due.BEYOND);
        due.is("20 b -1", x.line(0, 1, -1, 0), Due.BEYOND);
        due.is("20 what 2", x.line(0, 1, 1, 2), Due.BEYOND);
        due.is("20 what -1", x.line(0, 1, 1, -1), Due.BEYOND);
        due.is("20 text 1", x.line(1, 1, 1, 0), Due.BEYOND);
        due.is("20 text -1", x.line(-1, 1, 1, 0), Due.BEYOND);
        due.is("20 nobody", empty().line(0, 9, 9, 1), 0);
        AwakeBoard far = new AwakeBoard();
        far.name(1, 1);
        Due.text(far, "199");
        Due.text(far, "200");
        Due.text(far, "-200");
        due.is("20 just above 199", far.line(0, 1, 1, 0), 200);
        due.is("20 none is above 200", far.line(1, 1, 1, 0), -200);
        due.is("20 who can't be cleared", far.line(1, 7, 1, 1), 7);
        due.is("20 just above -200", far.line(2, 1, 1, 0), -199);
    }

    private static void shutAll() {
        AwakeBoard x = eight();
        x.shut(6, true);
        due.is("21 three of four", x.shutAll(0, 4), 3);
        due.is("21 count", x.count(6), 4);
        due.is("21 none more", x.shutAll(0, 4), 0);
        due.is("21 text 1", x.shutAll(1, 0), Due.BEYOND);
        due.is("21 text -1", x.shutAll(-1, 0), Due.BEYOND);
        due.is("21 not 3", x.nameOf(3, 6), 0);
        due.is("21 4", x.nameOf(4, 6), 1);
        due.is("21 the others", x.shutAll(0, Due.LEAST), 4);
    }

    private static void ask() {
        AwakeBoard x = eight();
        due.is("22 nearest to 3", x.ask(0, 3), 3);
        due.is("22 nearest to 99", x.ask(0, 99), 7);
        due.is("22 nearest to -9999", x.ask(0, -9999), 0);
        x.asked(3);
        due.is("22 the least of two", x.ask(0, 3), 2);
        x.asked(2);
        due.is("22 from above", x.ask(0, 3), 4);
        due.is("22 bar 9999", x.ask(0, 9999), 7);
        due.is("22 bar 10000", x.ask(0, 10000), Due.BEYOND);
        due.is("22 bar -10000", x.ask(0, -10000), Due.BEYOND);
        due.is("22 text 1", x.ask(1, 0), Due.BEYOND);
        due.is("22 text -1", x.ask(-1, 0), Due.BEYOND);
        for (int name = 0; name <= 7; name++) {
            x.asked(name);
        }
        due.is("22 all are asked", x.ask(0, 3), Due.NONE);
        due.is("22 beyond ahead of none", x.ask(0, 10000), Due.BEYOND);
        AwakeBoard y = new AwakeBoard();
        y.name(0, 1);
        y.name(0, 1);
        Due.text(y, "(n=0)*8192*8192*32+(n=1)*9999");
        // Name 0 scores the least int: from 9999 it is far only in longs.
        due.is("22 in longs", y.ask(0, 9999), 1);
        due.is("22 in longs, from 1", y.ask(0, 1), 1);
    }

    private static void asked() {
        AwakeBoard x = eight();
        due.is("23 name 8", x.asked(8), Due.BEYOND);
        due.is("23 name -1", x.asked(-1), Due.BEYOND);
        due.is("23 one", x.asked(5), 1);
        due.is("23 two", x.asked(0), 2);
        due.is("23 again", x.asked(5), Due.STATE);
        due.is("23 count", x.count(7), 2);
    }
}
