/** What the document's Terms 2 say at their edges: signs in texts, tokens, faults, scores; and promises 15 to 23. */
public final class EdgesOfTextsTest {
    private static final Due due = new Due("EdgesOfTextsTest");

    public static void main(String[] args) {
        tapeOfEighty();
        tapeByBytes();
        eachByteAlone();
        eachByteBehindALetter();
        eachByteAheadOfALetter();
        numbersAtTheirMost();
        tokensAsLongAsCanBe();
        blanks();
        tooEarly();
        openOnes();
        theFirstFault();
        textsAtMost();
        faultsKeepTexts();
        whatIsCut();
        whatWraps();
        comparing();
        foundAtTheBar();
        foundByFarScores();
        wrongedAndMissed();
        lineAtItsEnds();
        shutAllAtTheBar();
        askEitherWay();
        askedAll();
        due.end();
    }

    private static String times(String one, int n) {
        return one.repeat(n);
    }

    private static void fault(String text, int place) {
        due.is("17 FAULT of '" + text + "'", Due.text(new AwakeBoard(), text), -1 - place);
    }

    private static void good(String text) {
        due.is("17 no FAULT: '" + text + "'", Due.text(new AwakeBoard(), text), 0);
    }

    private static void score(String text, int want) {
        AwakeBoard x = new AwakeBoard();
        x.name(0, 1);
        due.is("17 '" + text + "'", Due.text(x, text), 0);
        due.is("18 SCORE of '" + text + "'", x.score(0, 0), want);
    }

    private static void tapeOfEighty() {
        for (int n = 1; n <= 4; n++) {
            for (int had = 74; had <= 80; had++) {
                AwakeBoard x = new AwakeBoard();
                Due.feed(x, times(" ", had));
                due.is("15 " + n + " bytes behind " + had, x.feed(0x31323334, n), had + n <= 80 ? had + n : Due.FULL);
                due.is("46 bytes of THE TAPE", x.count(5), had + n <= 80 ? had + n : had);
                due.is("16 how many it had", x.wipe(), had + n <= 80 ? had + n : had);
                due.is("16 it is empty", x.wipe(), 0);
                due.is("15 from its begin on", x.feed(0, n), n);
            }
        }
    }

    private static void tapeByBytes() {
        AwakeBoard x = new AwakeBoard();
        x.name(0, 1);
        int[] want = {4, 34, 234, 1234};
        for (int n = 1; n <= 4; n++) {
            due.is("15 the n lowest bytes", x.feed(0x31323334, n), n);
            due.is("17 text", x.text(), n - 1);
            due.is("15 the highest of these first", x.score(n - 1, 0), want[n - 1]);
        }
        due.is("15 a byte above 127", x.feed(0xffffffb7, 1), 1);
        due.is("17 it begins no TOKEN", x.text(), -1);
        due.is("15 four of them", x.feed(0xb1b2b3b4, 4), 4);
        due.is("17 they begin no TOKEN", x.text(), -1);
        due.is("15 a byte 0", x.feed(0x7700, 2), 2);
        due.is("17 it begins no TOKEN", x.text(), -2);
    }

    private static void eachByteAlone() {
        for (int b = 0; b < 256; b++) {
            char c = (char) b;
            boolean isOne = "wglhfqtn0123456789".indexOf(c) >= 0;
            boolean isTooEarly = " -(".indexOf(c) >= 0;
            AwakeBoard x = new AwakeBoard();
            due.is("17 byte " + b, Due.text(x, "" + c), isOne ? 0 : isTooEarly ? -2 : -1);
            due.is("17 TEXTS", x.count(4), isOne ? 1 : 0);
            due.is("17 THE TAPE is empty", x.count(5), 0);
            due.is("17 a FAULT is no finding", x.status(-1), 0);
        }
    }

    private static void eachByteBehindALetter() {
        for (int b = 0; b < 256; b++) {
            char c = (char) b;
            boolean isTooEarly = "+-*/<=".indexOf(c) >= 0;
            int want = c == ' ' ? 0 : isTooEarly ? -3 : -2;
            due.is("17 w and byte " + b, Due.text(new AwakeBoard(), "w" + c), want);
            int open = c == ')' ? 0 : c == ' ' || isTooEarly ? -4 : -3;
            due.is("17 (w and byte " + b, Due.text(new AwakeBoard(), "(w" + c), open);
        }
    }

    private static void eachByteAheadOfALetter() {
        for (int b = 0; b < 256; b++) {
            char c = (char) b;
            int want = c == ' ' || c == '-' ? 0 : c == '(' ? -3 : "wglhfqtn0123456789".indexOf(c) >= 0 ? -2 : -1;
            if (c == '(') {
                fault("(w", 2);
            } else {
                due.is("17 byte " + b + " and w", Due.text(new AwakeBoard(), c + "w"), want);
            }
            // Ahead of a ONE within a TERM the same bytes may stand as at the begin.
            int within = want == 0 ? 0 : c == '(' ? -5 : want - 2;
            due.is("17 w* and byte " + b + " and w", Due.text(new AwakeBoard(), "w*" + c + "w"), within);
        }
    }

    private static void numbersAtTheirMost() {
        score("0", 0);
        score("9999", 9999);
        score("09999", 9999);
        score("0000", 0);
        score(times("0", 80), 0);
        score(times("0", 76) + "9999", 9999);
        fault("10000", 0);
        fault("010000", 0);
        fault(times("0", 75) + "10000", 0);
        fault(times("9", 80), 0);
        fault("w+10000", 2);
        fault("w + 10000 ", 4);
        fault("4294967297", 0);
        fault("18446744073709551617", 0);
        fault("w*10000*x", 2);
    }

    private static void tokensAsLongAsCanBe() {
        score("12", 12);
        fault("1 2", 2);
        fault("12 34", 3);
        fault("99 99", 3);
        fault("w12", 1);
        fault("12w", 2);
        fault("wg", 1);
        fault("ww", 1);
        fault("w g", 2);
        fault("1(2)", 1);
        fault("(1)2", 3);
        fault("(1)(2)", 3);
        fault("<=1", 0);
        fault("1<=2", 2);
        fault("1==2", 2);
        fault("1*+2", 2);
        fault("1++2", 2);
        fault("1//2", 2);
        good("1--2");
        good("1*-2");
        good("1/-2");
        good("1<-2");
        good("1=-2");
    }

    private static void blanks() {
        score("  7  ", 7);
        score(" ( 1 + 2 ) * - 3 < 4 ", 1);
        score("1" + times(" ", 78) + " ", 1);
        score(times(" ", 79) + "5", 5);
        fault(times(" ", 80), 80);
        fault("1\t", 1);
        fault("\n1", 0);
        fault("1\u00a0", 1);
        fault("1\u0000", 1);
    }

    private static void tooEarly() {
        fault("", 0);
        fault(" ", 1);
        fault("-", 1);
        fault("(", 1);
        fault("w+", 2);
        fault("w-", 2);
        fault("w*", 2);
        fault("w/", 2);
        fault("w<", 2);
        fault("w=", 2);
        fault("(w", 2);
        fault("(w<g", 4);
        fault("((w)", 4);
        fault("w+  ", 4);
        fault("(w   ", 5);
        fault("w" + times(" ", 78) + "+", 80);
        fault("(" + times(" ", 78) + "w", 80);
    }

    private static void openOnes() {
        for (int open = 1; open <= 9; open++) {
            String of = times("(", open) + "w" + times(")", open);
            String minus = times("-", open) + "w";
            if (open <= 6) {
                good(of);
                good(minus);
                good("g*" + minus + "-" + minus);
                good("(" + times("-", open - 1) + "w)");
                good(times("-(", open / 2) + "w" + times(")", open / 2));
            } else {
                fault(of, 6);
                fault(minus, 6);
                fault("g* " + minus, 9);
                fault("(" + times("-", open - 1) + "w)", 6);
            }
        }
        good("((((((w-w+w*w/w<w))))))");
        good("((((((w))))))*((((((w))))))");
        good("-w-(-w)*(-w)+------w");
        fault("((((((-w))))))", 6);
        fault("((((((w*-w))))))", 8);
        fault("((((((w+(w)))))))", 8);
        fault("((((((w<-w))))))", 8);
        fault("------(w)", 6);
        good("-----(w)");
        fault("-----(-w)", 6);
        fault("-----((w))", 6);
        fault("(((((((", 6);
        fault("-------", 6);
        fault("((((((", 6);
        fault("(((((( )", 7);
        fault("((((((10000", 6);
        fault("(((((  (  (", 10);
    }

    /** Of several faults the one that comes first in the text. */
    private static void theFirstFault() {
        fault("w x y", 2);
        fault("(10000", 1);
        fault("w)10000", 1);
        fault("w+)$", 2);
        fault("((((((w))))))) (((((((", 13);
        fault("1<2<3", 3);
        fault("1=2=3", 3);
        fault("1<2=3", 3);
        fault("1=2<3", 3);
        fault("(1<2<3)", 4);
        good("(1<2)<3");
        good("1<(2<3)");
        good("((1<2)=(2<3))<1");
        fault(")", 0);
        fault("()", 1);
        fault("w()", 1);
        fault("(w))", 3);
        fault("W", 0);
        fault("a", 0);
        fault("w+G", 2);
        fault("1.5", 1);
        fault("1>2", 1);
        fault("1%2", 1);
    }

    private static void textsAtMost() {
        AwakeBoard x = new AwakeBoard();
        x.name(0, 1);
        for (int i = 0; i < 5; i++) {
            due.is("17 TEXT " + i, Due.text(x, times(" ", 79) + i), i);
        }
        due.is("18 the 6th isn't there", x.score(5, 0), Due.BEYOND);
        due.is("17 a FAULT makes none", Due.text(x, "w+"), -3);
        due.is("46 TEXTS", x.count(4), 5);
        due.is("17 the 6th", Due.text(x, "5"), 5);
        Due.feed(x, "6");
        due.is("17 the 7th", x.text(), Due.FULL);
        due.is("17 THE TAPE stays", x.count(5), 1);
        due.is("15 behind it", x.feed('+', 1), 2);
        due.is("46 TEXTS", x.count(4), 6);
        for (int i = 0; i < 6; i++) {
            due.is("18 TEXT " + i + " of 80 bytes", x.score(i, 0), i);
        }
        due.is("18 no 7th", x.score(6, 0), Due.BEYOND);
    }

    private static void faultsKeepTexts() {
        AwakeBoard x = new AwakeBoard();
        x.name(0, 1);
        Due.text(x, "3");
        due.is("17 FAULT", Due.text(x, "4+$"), -3);
        due.is("18 TEXT 0 stays", x.score(0, 0), 3);
        due.is("18 no TEXT 1", x.score(1, 0), Due.BEYOND);
        due.is("17 the next one", Due.text(x, "5"), 1);
        due.is("18 TEXT 1", x.score(1, 0), 5);
        due.is("18 TEXT 0 stays", x.score(0, 0), 3);
    }

    private static void whatIsCut() {
        score("7/2", 3);
        score("-7/2", -3);
        score("7/-2", -3);
        score("(-7)/(-2)", 3);
        score("(0-7)/2", -3);
        score("1/2", 0);
        score("-1/2", 0);
        score("0/5", 0);
        score("5/0", 0);
        score("-5/0", 0);
        score("0/0", 0);
        score("5/(1-1)*9+1", 1);
        score("9/2*2", 8);
        score("9*2/4", 4);
        score("100/10/3", 3);
        score("10-4-3", 3);
        score("10-4+3", 9);
        score("2+3*4-5", 9);
        score("-2*3", -6);
        score("-(2+3)", -5);
        score("--2", 2);
    }

    private static void whatWraps() {
        // 8192 * 8192 * 32 is one above the most int.
        String least = "8192*8192*32";
        score(least, Due.LEAST);
        score(least + "-1", Due.MOST);
        score("-(" + least + ")", Due.LEAST);
        score("(" + least + ")/-1", Due.LEAST);
        score("(" + least + "-1)/-1", -Due.MOST);
        score("(" + least + ")*-1", Due.LEAST);
        score(least + "+" + least, 0);
        score("8192*8192*64", 0);
        score(least + "-1+1", Due.LEAST);
        score("0-" + least, Due.LEAST);
        score(least + "<0", 1);
        score(least + "-1<0", 0);
        score("0<" + least, 0);
        score("9999*9999*9999", 9999 * 9999 * 9999);
        score("9999*9999*9999/9999", 9999 * 9999 * 9999 / 9999);
    }

    private static void comparing() {
        score("1<2", 1);
        score("2<2", 0);
        score("2<1", 0);
        score("1=2", 0);
        score("2=2", 1);
        score("2=1", 0);
        score("0-1<0", 1);
        score("1+1<3-0", 1);
        score("(1<2)*5", 5);
        score("(2=3)-5", -5);
        score("(1<2)<(1<2)", 0);
        score("(1<2)=(3=3)", 1);
    }

    private static void foundAtTheBar() {
        AwakeBoard x = new AwakeBoard();
        x.name(0, 1);
        Due.text(x, "50");
        Due.text(x, "0-50");
        for (int text = 0; text < 2; text++) {
            int is = text == 0 ? 50 : -50;
            due.is("19 the bar is the SCORE", x.found(text, is, 0), 1);
            due.is("19 a bar one below", x.found(text, is - 1, 0), 1);
            due.is("19 a bar one above", x.found(text, is + 1, 0), 0);
            due.is("19 MISSED at the SCORE", x.found(text, is, 2), 0);
            due.is("19 MISSED one above", x.found(text, is + 1, 2), 1);
        }
        AwakeBoard none = new AwakeBoard();
        Due.text(none, "50");
        for (int what = 0; what <= 2; what++) {
            due.is("19 without NAMES", none.found(0, Due.LEAST, what), 0);
        }
    }

    private static void foundByFarScores() {
        AwakeBoard x = new AwakeBoard();
        x.name(0, 1);
        Due.text(x, "8192*8192*32");
        Due.text(x, "8192*8192*32-1");
        due.is("19 the least SCORE by the least bar", x.found(0, Due.LEAST, 0), 1);
        due.is("19 the least SCORE one above", x.found(0, Due.LEAST + 1, 0), 0);
        due.is("19 the least SCORE by the most bar", x.found(0, Due.MOST, 0), 0);
        due.is("19 the most SCORE by the most bar", x.found(1, Due.MOST, 0), 1);
        due.is("19 the most SCORE by the least bar", x.found(1, Due.LEAST, 0), 1);
        due.is("21 the most bar", x.shutAll(0, Due.MOST), 0);
        due.is("21 the least bar", x.shutAll(0, Due.LEAST), 1);
    }

    private static AwakeBoard fourteen(String text) {
        AwakeBoard x = new AwakeBoard();
        for (int i = 0; i < 14; i++) {
            x.name(i % 8, 5);
        }
        Due.text(x, text);
        return x;
    }

    private static void wrongedAndMissed() {
        AwakeBoard x = fourteen("n");
        int people = 1 << 1 | 1 << 3 | 1 << 6 | 1 << 9 | 1 << 11;
        int all = (1 << 14) - 1;
        for (int bar = -1; bar <= 14; bar++) {
            int found = bar < 0 ? all : all & ~((1 << bar) - 1);
            due.is("19 FOUND by " + bar, x.found(0, bar, 0), found);
            due.is("19 WRONGED by " + bar, x.found(0, bar, 1), found & people);
            due.is("19 MISSED by " + bar, x.found(0, bar, 2), all & ~people & ~found);
        }
    }

    /** One PERSON or one MACHINE with a SCORE at the ends of the bars. */
    private static void oneLine(int kind, String text, int bar, int sum) {
        AwakeBoard x = new AwakeBoard();
        x.name(kind, 5);
        Due.text(x, text);
        due.is("20 kind " + kind + " with " + text + ": the bar", x.line(0, 3, 2, 0), bar);
        due.is("20 kind " + kind + " with " + text + ": the sum", x.line(0, 3, 2, 1), sum);
    }

    private static void lineAtItsEnds() {
        oneLine(1, "198", 199, 0);
        oneLine(1, "199", 200, 0);
        oneLine(1, "200", -200, 3);
        oneLine(1, "-200", -199, 0);
        oneLine(1, "-201", -200, 0);
        oneLine(0, "200", -200, 0);
        oneLine(0, "-199", -200, 0);
        oneLine(0, "-200", -200, 0);
        oneLine(0, "-201", -200, 2);
        oneLine(0, "9999", -200, 0);
        AwakeBoard x = fourteen("n");
        due.is("20 of several the least", x.line(0, 0, 0, 0), -200);
        due.is("20 all bars alike", x.line(0, 0, 0, 1), 0);
        // With bar 12 none of 5 PEOPLE is WRONGED, and 7 of 9 MACHINES are MISSED.
        due.is("20 a 99, b 0", x.line(0, 99, 0, 0), 12);
        due.is("20 a 99, b 1", x.line(0, 99, 1, 1), 7);
        due.is("20 a 0, b 99", x.line(0, 0, 99, 0), -200);
        due.is("20 a 1, b 99", x.line(0, 1, 99, 1), 5);
        due.is("20 a 99, b 99", x.line(0, 99, 99, 1), 99 * 5);
        // Bars up to 0, and bar 2 as well, have 5 in all: WRONGED and MISSED together.
        due.is("20 a 99, b 99: the least of these", x.line(0, 99, 99, 0), -200);
        AwakeBoard none = new AwakeBoard();
        Due.text(none, "n");
        due.is("20 without NAMES", none.line(0, 99, 99, 0), -200);
        due.is("20 without NAMES, the sum", none.line(0, 99, 99, 1), 0);
    }

    private static void shutAllAtTheBar() {
        AwakeBoard x = fourteen("n");
        due.is("21 none", x.shutAll(0, 14), 0);
        due.is("21 the one at the bar", x.shutAll(0, 13), 1);
        due.is("21 it was", x.shutAll(0, 13), 0);
        due.is("21 one more", x.shutAll(0, 12), 1);
        due.is("46 SHUT", x.count(6), 2);
        due.is("3 12 is", x.nameOf(12, 6), 1);
        due.is("3 11 isn't", x.nameOf(11, 6), 0);
        due.is("21 all others", x.shutAll(0, 0), 12);
        due.is("46 SHUT", x.count(6), 14);
        due.is("6 the PEOPLE object", x.object(), 5);
        due.is("21 these again", x.shutAll(0, 0), 5);
    }

    private static void askEitherWay() {
        AwakeBoard x = fourteen("n*10");
        due.is("22 just so", x.ask(0, 50), 5);
        due.is("22 nearer above", x.ask(0, 46), 5);
        due.is("22 nearer below", x.ask(0, 54), 5);
        due.is("22 between two, the least", x.ask(0, 55), 5);
        due.is("22 below all", x.ask(0, -9999), 0);
        due.is("22 above all", x.ask(0, 9999), 13);
        x.asked(5);
        due.is("22 ASKED ones don't count", x.ask(0, 50), 4);
        x.asked(4);
        due.is("22 nor two", x.ask(0, 50), 6);
        AwakeBoard far = new AwakeBoard();
        far.name(0, 1);
        far.name(0, 1);
        // Scores: the least int and 0, then the most int and 0; bars of the other sign.
        Due.text(far, "(n=0)*8192*8192*32");
        Due.text(far, "(n=0)*(8192*8192*32-1)");
        due.is("22 in longs, the least int", far.ask(0, 9999), 1);
        due.is("22 in longs, the most int", far.ask(1, -9999), 1);
        far.asked(1);
        due.is("22 the farthest one is asked at last", far.ask(0, 9999), 0);
        due.is("22 the farthest one is asked at last", far.ask(1, -9999), 0);
    }

    private static void askedAll() {
        AwakeBoard x = fourteen("n");
        for (int i = 13; i >= 0; i--) {
            due.is("22 the last one that isn't ASKED", x.ask(0, 9999), i);
            due.is("23 how many are", x.asked(i), 14 - i);
            due.is("23 it is", x.asked(i), Due.STATE);
            due.is("46 ASKED", x.count(7), 14 - i);
        }
        due.is("22 all are", x.ask(0, 0), Due.NONE);
        AwakeBoard none = new AwakeBoard();
        Due.text(none, "n");
        due.is("22 without NAMES", none.ask(0, 0), Due.NONE);
        due.is("46 none is ASKED", none.count(7), 0);
    }
}
