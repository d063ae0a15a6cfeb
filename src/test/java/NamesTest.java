/** Promises 1 to 8: a new object, and names. */
public final class NamesTest {
    private static final Due due = new Due("NamesTest");

    public static void main(String[] args) {
        newObject();
        name();
        nameOf();
        change();
        shutAndObject();
        speaksAsName();
        speaksAsClock();
        speaksAsOthers();
        speaksBehindLeader();
        speaksAsHalf();
        speaksFindings();
        next();
        due.end();
    }

    private static void newObject() {
        AwakeBoard x = new AwakeBoard();
        for (int what = 0; what <= 7; what++) {
            due.is("1 count(" + what + ")", x.count(what), 0);
        }
        due.is("1 z", x.count(8), 1);
        for (int which = -1; which <= 6; which++) {
            due.is("1 status(" + which + ")", x.status(which), 0);
        }
        due.is("1 no image", x.undo(), Due.NONE);
        due.is("1 no image to tear", x.tear(), 0);
        for (int s = 0; s < 4; s++) {
            due.is("1 sheet missing", x.load(s), Due.MISSING);
        }
        for (int spot = 0; spot < 10; spot++) {
            due.is("1 spot holds nothing", x.as(spot, 0), Due.MISSING);
        }
        due.is("1 no text", x.score(0, 0), Due.BEYOND);
        due.is("1 no word", x.below(0), Due.BEYOND);
    }

    private static void name() {
        AwakeBoard x = new AwakeBoard();
        due.is("2 kind -1", x.name(-1, 5), Due.BEYOND);
        due.is("2 kind 8", x.name(8, 5), Due.BEYOND);
        due.is("2 gap 0", x.name(0, 0), Due.BEYOND);
        due.is("2 gap 1000", x.name(0, 1000), Due.BEYOND);
        due.is("2 least", x.name(Due.LEAST, Due.MOST), Due.BEYOND);
        due.is("2 none came", x.count(0), 0);
        for (int i = 0; i < 14; i++) {
            due.is("2 name " + i, x.name(i % 8, i == 0 ? 1 : 999), i);
        }
        due.is("2 beyond ahead of full", x.name(8, 1), Due.BEYOND);
        due.is("2 full", x.name(0, 1), Due.FULL);
        due.is("2 count", x.count(0), 14);
        due.is("2 status", x.status(0), 6);
        due.is("2 status full", x.status(1), 1);
    }

    private static void nameOf() {
        AwakeBoard x = new AwakeBoard();
        int[] people = {0, 1, 0, 1, 0, 0, 1, 0};
        for (int kind = 0; kind <= 7; kind++) {
            x.name(kind, 10 + kind);
            int[] want = {kind, 10 + kind, 1023, 0, -1, 0, 0, people[kind]};
            for (int what = 0; what <= 7; what++) {
                due.is("3 nameOf(" + kind + ", " + what + ")", x.nameOf(kind, what), want[what]);
            }
        }
        x.shut(5, true);
        due.is("3 shut", x.nameOf(5, 6), 1);
        due.is("3 what 8", x.nameOf(0, 8), Due.BEYOND);
        due.is("3 what -1", x.nameOf(0, -1), Due.BEYOND);
        due.is("3 name 8", x.nameOf(8, 0), Due.BEYOND);
        due.is("3 name -1", x.nameOf(-1, 0), Due.BEYOND);
        due.is("3 most", x.nameOf(Due.MOST, Due.LEAST), Due.BEYOND);
    }

    private static void change() {
        AwakeBoard x = new AwakeBoard();
        x.name(0, 30);
        x.name(1, 40);
        int[] least = {0, 1, 1, 0, -1, 0};
        int[] most = {0, 999, 1023, 99, 1, 9};
        int[] was = {0, 30, 1023, 0, -1, 0};
        for (int what = 1; what <= 5; what++) {
            due.is("4 below " + what, x.change(0, what, least[what] - 1), Due.BEYOND);
            due.is("4 above " + what, x.change(0, what, most[what] + 1), Due.BEYOND);
            due.is("4 stays " + what, x.nameOf(0, what), was[what]);
            due.is("4 least " + what, x.change(0, what, least[what]), was[what]);
            due.is("4 most " + what, x.change(0, what, most[what]), least[what]);
            due.is("4 is " + what, x.nameOf(0, what), most[what]);
            due.is("4 another stays " + what, x.nameOf(1, what), what == 1 ? 40 : was[what]);
        }
        due.is("4 itself leads", x.change(0, 4, 0), Due.BEYOND);
        due.is("4 no leader", x.change(0, 4, -1), 1);
        due.is("4 kind", x.change(0, 0, 1), Due.BEYOND);
        due.is("4 shut", x.change(0, 6, 1), Due.BEYOND);
        due.is("4 what -1", x.change(0, -1, 1), Due.BEYOND);
        due.is("4 name 2", x.change(2, 1, 1), Due.BEYOND);
        due.is("4 name -1", x.change(-1, 1, 1), Due.BEYOND);
        due.is("4 least", x.change(0, 1, Due.LEAST), Due.BEYOND);
    }

    private static void shutAndObject() {
        AwakeBoard x = new AwakeBoard();
        due.is("5 no name", x.shut(0, true), Due.BEYOND);
        due.is("6 nobody", x.object(), 0);
        for (int kind = 0; kind <= 7; kind++) {
            x.name(kind, 10);
        }
        due.is("5 name -1", x.shut(-1, true), Due.BEYOND);
        due.is("5 name 8", x.shut(8, false), Due.BEYOND);
        due.is("5 wasn't", x.shut(1, false), 0);
        for (int name = 0; name <= 7; name++) {
            due.is("5 shut", x.shut(name, true), 0);
        }
        due.is("5 was", x.shut(0, true), 1);
        due.is("5 count", x.count(6), 8);
        due.is("5 opened", x.shut(6, false), 1);
        due.is("6 people object", x.object(), 2);
        due.is("6 machines stay", x.count(6), 5);
        due.is("6 person", x.nameOf(1, 6), 0);
        due.is("6 handed", x.nameOf(5, 6), 1);
        due.is("6 again", x.object(), 0);
    }

    private static void speaksAsName() {
        AwakeBoard x = new AwakeBoard();
        x.name(0, 30);
        x.name(1, 50);
        x.name(3, 50);
        due.is("7 at 0", x.speaks(0, 0), 1);
        due.is("7 at 29", x.speaks(0, 29), 0);
        due.is("7 at 30", x.speaks(0, 30), 1);
        due.is("7 at 29970", x.speaks(0, 29970), 1);
        x.change(0, 2, 2);
        due.is("7 a name has no hours", x.speaks(0, 30), 1);
        for (int name = 1; name <= 2; name++) {
            x.change(name, 2, 2);
            due.is("7 out of hours", x.speaks(name, 50), 0);
            due.is("7 in hours", x.speaks(name, 100), 1);
            due.is("7 in hours, not now", x.speaks(name, 101), 0);
            due.is("7 in hours of day 3", x.speaks(name, 3150), 1);
            due.is("7 out of hours of day 3", x.speaks(name, 3200), 0);
        }
        x.shut(0, true);
        due.is("7 shut", x.speaks(0, 30), 1);
    }

    private static void speaksAsClock() {
        AwakeBoard x = new AwakeBoard();
        x.name(0, 30);
        x.name(0, 30);
        x.name(2, 40);
        x.name(4, 40);
        due.is("7 no jitter", x.speaks(2, 80), 1);
        x.change(2, 3, 12);
        // Turn 2 of name 2: 14 + 6 = 20, by 13 the rest is 7.
        due.is("7 clock at 80", x.speaks(2, 80), 0);
        due.is("7 clock at 87", x.speaks(2, 87), 1);
        x.change(2, 1, 5);
        // Turn 4 of name 2: 28 + 6 = 34, by 13 the rest is 8, but a gap of 5 ends at 4.
        due.is("7 clock late at most gap less 1", x.speaks(2, 24), 1);
        due.is("7 clock not else", x.speaks(2, 23), 0);
        x.change(2, 2, 1);
        due.is("7 a clock has no hours", x.speaks(2, 24), 1);
        x.change(3, 3, 12);
        x.change(3, 2, 1022);
        // Turn 2 of name 3: 14 + 9 = 23, rest 10; turn 3: 21 + 9 = 30, rest 4.
        due.is("7 sleeper sleeps", x.speaks(3, 90), 0);
        due.is("7 sleeper awake", x.speaks(3, 124), 1);
        due.is("7 sleeper not then", x.speaks(3, 120), 0);
    }

    private static void speaksAsOthers() {
        AwakeBoard x = new AwakeBoard();
        for (int i = 0; i < 6; i++) {
            x.name(5, 7);
        }
        due.is("7 handed ahead of its time", x.speaks(5, 3), 0);
        due.is("7 handed at 9", x.speaks(5, 9), 0);
        due.is("7 handed at 10", x.speaks(5, 10), 1);
        due.is("7 handed at 17", x.speaks(5, 17), 1);
        due.is("7 handed at 14", x.speaks(5, 14), 0);
        x.change(5, 2, 2);
        due.is("7 handed has no hours", x.speaks(5, 10), 1);
        due.is("7 handed 0", x.speaks(0, 0), 1);
    }

    private static void speaksBehindLeader() {
        AwakeBoard x = new AwakeBoard();
        x.name(0, 30);
        x.name(6, 50);
        x.change(1, 2, 1022);
        x.say(0, 3);
        due.is("7 clubbed without leader", x.speaks(1, 1), 0);
        x.change(1, 4, 0);
        due.is("7 clubbed behind its leader", x.speaks(1, 1), 1);
        due.is("7 clubbed in that second", x.speaks(1, 0), 0);
        due.is("7 clubbed later", x.speaks(1, 2), 0);
        due.is("7 clubbed as a person", x.speaks(1, 100), 1);
        due.is("7 clubbed as a person out of hours", x.speaks(1, 50), 0);
        x.shut(0, true);
        x.go(5);
        x.say(1, 0);
        due.is("7 its own word doesn't lead", x.speaks(1, 6), 0);
    }

    private static void speaksAsHalf() {
        AwakeBoard x = new AwakeBoard();
        x.name(0, 30);
        x.name(7, 40);
        x.change(1, 3, 12);
        // Day 6 and day 13 as a clock; turn 151: 1057 + 3 = 1060, by 13 the rest is 7.
        due.is("7 half on day 5", x.speaks(1, 5960), 1);
        due.is("7 half on day 6 as a name", x.speaks(1, 6040), 0);
        due.is("7 half on day 6 as a clock", x.speaks(1, 6047), 1);
        due.is("7 half on day 7", x.speaks(1, 7000), 1);
        // Turn 326: 2282 + 3 = 2285, by 13 the rest is 10.
        due.is("7 half on day 13", x.speaks(1, 13050), 1);
        x.change(1, 2, 2);
        due.is("7 half out of hours as a name", x.speaks(1, 5960), 0);
        due.is("7 half out of hours as a clock", x.speaks(1, 6047), 0);
        due.is("7 half in hours as a name", x.speaks(1, 5160), 1);
        // Turn 154: 1078 + 3 = 1081, by 13 the rest is 2.
        due.is("7 half in hours as a clock", x.speaks(1, 6162), 1);
    }

    private static void speaksFindings() {
        AwakeBoard x = new AwakeBoard();
        due.is("7 no name", x.speaks(0, 0), Due.BEYOND);
        x.name(0, 1);
        due.is("7 last second", x.speaks(0, 29999), 1);
        due.is("7 second 30000", x.speaks(0, 30000), Due.BEYOND);
        due.is("7 second -1", x.speaks(0, -1), Due.BEYOND);
        due.is("7 name 1", x.speaks(1, 0), Due.BEYOND);
        due.is("7 name -1", x.speaks(-1, 0), Due.BEYOND);
        due.is("7 least", x.speaks(0, Due.LEAST), Due.BEYOND);
    }

    private static void next() {
        AwakeBoard x = new AwakeBoard();
        due.is("8 no name", x.next(0, 0), Due.BEYOND);
        x.name(0, 30);
        x.name(1, 999);
        due.is("8 that second itself", x.next(0, 30), 30);
        due.is("8 the one after", x.next(0, 31), 60);
        due.is("8 at the end", x.next(0, 29970), 29970);
        due.is("8 none is left", x.next(0, 29971), Due.NONE);
        due.is("8 from -1", x.next(0, -1), Due.BEYOND);
        due.is("8 from 30000", x.next(0, 30000), Due.BEYOND);
        due.is("8 name 2", x.next(2, 0), Due.BEYOND);
        due.is("8 most", x.next(0, Due.MOST), Due.BEYOND);
        x.shut(0, true);
        due.is("8 shut", x.next(0, 1), 30);
        x.change(1, 2, 512);
        due.is("8 in hours", x.next(1, 1), 999);
        x.change(1, 2, 1);
        // Up to the last second 999 and its like are all in hour 9.
        due.is("8 none in 2000", x.next(1, 1), Due.NONE);
        due.is("8 status", x.status(3), 2);
        justInReach();
    }

    private static void justInReach() {
        AwakeBoard x = new AwakeBoard();
        x.name(6, 999);
        x.name(0, 999);
        x.change(0, 2, 1);
        x.change(0, 4, 1);
        for (int i = 0; i < 5; i++) {
            x.go(450);
        }
        x.say(1, 0);
        // The leader's words: 0, 999, 1998 by itself, and 2250 by hand.
        due.is("8 behind 0", x.next(0, 1), 1);
        due.is("8 behind 999", x.next(0, 2), 1000);
        due.is("8 behind 2250", x.next(0, 2000), 2251);
        due.is("8 nothing from there", x.next(0, 2252), Due.NONE);
        AwakeBoard y = new AwakeBoard();
        y.name(6, 998);
        y.name(0, 998);
        y.change(0, 2, 1);
        y.change(0, 4, 1);
        y.shut(1, true);
        y.go(999);
        y.go(999);
        y.go(99);
        y.say(1, 0);
        // Its leader's one word is in 2097, so it speaks in 2098: the 2000th from 99 on.
        due.is("8 the 2000th", y.next(0, 99), 2098);
        due.is("8 not the 2001st", y.next(0, 98), Due.NONE);
    }
}
