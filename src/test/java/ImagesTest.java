/** Promises 43 to 47: images, counts, status. */
public final class ImagesTest {
    private static final Due due = new Due("ImagesTest");

    public static void main(String[] args) {
        undoOfAll();
        undoKeepsTapeAndSheets();
        imageAgain();
        undoOfTexts();
        undoOfNames();
        undoOfWords();
        undoOfLost();
        tear();
        count();
        status();
        due.end();
    }

    private static void undoOfAll() {
        AwakeBoard x = new AwakeBoard();
        due.is("44 nothing is kept", x.undo(), Due.NONE);
        x.name(0, 30);
        x.name(6, 40);
        x.go(7);
        x.asked(0);
        x.hold(3, 1);
        x.shut(1, true);
        x.seed(99);
        due.is("43 image", x.image(), 1);
        x.name(1, 5);
        x.change(0, 1, 3);
        x.change(1, 4, 0);
        x.shut(1, false);
        x.shut(0, true);
        x.asked(1);
        x.hold(3, -1);
        x.hold(4, 0);
        x.seed(5);
        x.say(0, 8);
        x.go(999);
        due.is("44 undo", x.undo(), 7);
        int[] want = {2, 7, 2, 0, 0, 0, 1, 1, 99};
        for (int what = 0; what <= 8; what++) {
            due.is("44 count(" + what + ")", x.count(what), want[what]);
        }
        due.is("44 gap", x.nameOf(0, 1), 30);
        due.is("44 leader", x.nameOf(1, 4), -1);
        due.is("44 shut", x.nameOf(1, 6), 1);
        due.is("44 asked", x.asked(0), Due.STATE);
        due.is("44 spot 3", x.as(3, 6), 1);
        due.is("44 spot 4", x.as(4, 0), Due.MISSING);
        due.is("44 status stays", x.status(-1), 3);
        due.is("44 no name 2", x.nameOf(2, 0), Due.BEYOND);
        due.is("44 word 1", x.wordOf(1, 1), 1);
        due.is("44 no word 2", x.wordOf(2, 0), Due.BEYOND);
    }

    private static void undoKeepsTapeAndSheets() {
        AwakeBoard x = new AwakeBoard();
        x.name(0, 30);
        x.feed('w', 1);
        x.sheet(0, 8, 2);
        x.image();
        x.feed('+', 1);
        x.feed('1', 1);
        x.sheet(0, 0, 0);
        x.sheet(1, 16, 4);
        x.undo();
        due.is("44 the tape stays", x.count(5), 3);
        due.is("44 sheet 0 stays missing", x.load(0), Due.MISSING);
        due.is("44 sheet 1 stays", x.load(1), 2);
        due.is("44 text", x.text(), 0);
        due.is("44 score", x.score(0, 0), 3);
    }

    private static void imageAgain() {
        AwakeBoard x = new AwakeBoard();
        x.name(0, 30);
        x.image();
        x.go(5);
        x.image();
        x.go(5);
        due.is("44 the latest", x.undo(), 5);
        x.go(3);
        due.is("44 it stays", x.undo(), 5);
        x.change(0, 5, 4);
        x.say(0, 9);
        x.hold(0, 0);
        due.is("44 what is kept doesn't change", x.undo(), 5);
        due.is("44 topic", x.nameOf(0, 5), 0);
        due.is("44 words", x.count(2), 1);
        due.is("44 spot", x.as(0, 0), Due.MISSING);
    }

    private static void undoOfTexts() {
        AwakeBoard x = new AwakeBoard();
        x.name(0, 30);
        Due.text(x, "1+1");
        x.image();
        Due.text(x, "2+2");
        due.is("44 two texts", x.count(4), 2);
        x.undo();
        due.is("44 one text", x.count(4), 1);
        due.is("44 no text 1", x.score(1, 0), Due.BEYOND);
        Due.text(x, "33");
        due.is("44 another text 1", x.score(1, 0), 33);
        due.is("44 text 0", x.score(0, 0), 2);
    }

    /** A name that comes again where another one was undone is all as at first. */
    private static void undoOfNames() {
        AwakeBoard x = new AwakeBoard();
        x.image();
        for (int name = 0; name < 2; name++) {
            x.name(2, 30);
        }
        int[] other = {0, 77, 5, 66, 0, 9};
        for (int what = 1; what <= 5; what++) {
            x.change(1, what, other[what]);
        }
        x.shut(1, true);
        x.asked(1);
        x.undo();
        due.is("44 no names", x.count(0), 0);
        x.name(2, 30);
        x.name(4, 31);
        int[] want = {4, 31, 1023, 0, -1, 0, 0, 0};
        for (int what = 0; what <= 7; what++) {
            due.is("2 as at first, " + what, x.nameOf(1, what), want[what]);
        }
        due.is("2 not asked", x.asked(1), 1);
    }

    private static void undoOfWords() {
        AwakeBoard x = new AwakeBoard();
        x.name(0, 999);
        x.name(0, 999);
        x.shut(0, true);
        x.shut(1, true);
        x.say(0, 4);
        x.image();
        x.go(3);
        x.say(1, 5);
        x.undo();
        x.go(5);
        x.say(1, 6);
        x.image();
        x.go(2);
        x.say(0, 7);
        x.undo();
        int[][] want = {{0, 0, 4, -1}, {5, 1, 6, 0}};
        for (int word = 0; word < 2; word++) {
            for (int what = 0; what <= 3; what++) {
                due.is("44 wordOf(" + word + ", " + what + ")", x.wordOf(word, what), want[word][what]);
            }
        }
        due.is("44 words", x.count(2), 2);
    }

    private static void undoOfLost() {
        AwakeBoard x = new AwakeBoard();
        x.name(0, 1);
        x.go(203);
        x.image();
        x.go(10);
        due.is("46 lost", x.count(3), 13);
        x.undo();
        due.is("44 lost ones, too", x.count(3), 3);
    }

    private static void tear() {
        AwakeBoard x = new AwakeBoard();
        due.is("45 nothing", x.tear(), 0);
        x.image();
        x.go(4);
        due.is("45 something", x.tear(), 1);
        due.is("45 nothing more", x.tear(), 0);
        due.is("44 nothing is kept", x.undo(), Due.NONE);
        due.is("45 NOW stays", x.count(1), 4);
        x.image();
        x.go(1);
        due.is("44 kept again", x.undo(), 4);
    }

    private static void count() {
        AwakeBoard x = new AwakeBoard();
        x.name(0, 1);
        x.name(0, 1);
        x.name(1, 500);
        x.go(101);
        x.shut(2, true);
        x.asked(0);
        x.asked(1);
        Due.text(x, "w");
        x.feed(0, 4);
        x.seed(-77);
        int[] want = {3, 101, 200, 3, 1, 4, 1, 2, -77};
        for (int what = 0; what <= 8; what++) {
            due.is("46 count(" + what + ")", x.count(what), want[what]);
        }
        due.is("46 what 9", x.count(9), Due.BEYOND);
        due.is("46 what -1", x.count(-1), Due.BEYOND);
        due.is("46 most", x.count(Due.MOST), Due.BEYOND);
        x.seed(Due.FULL);
        due.is("46 z like a finding", x.count(8), Due.FULL);
        due.is("46 that is none", x.status(-1), 3);
    }

    private static void status() {
        AwakeBoard x = new AwakeBoard();
        x.go(0);
        for (int i = 0; i < 27; i++) {
            x.feed(0, 3);
        }
        x.name(0, 1);
        x.hold(0, 0);
        x.as(0, 7);
        x.as(0, 1);
        x.as(0, 5);
        x.first(0);
        x.first(1);
        x.asked(0);
        x.asked(0);
        x.load(0);
        x.load(1);
        x.load(2);
        x.load(3);
        x.sheet(0, 8, -1);
        x.sheet(0, 8, -1);
        int[] want = {1, 1, 3, 2, 1, 4, 2};
        for (int which = 0; which <= 6; which++) {
            due.is("47 status(" + which + ")", x.status(which), want[which]);
        }
        due.is("47 all", x.status(-1), 14);
        due.is("47 which 7", x.status(7), Due.BEYOND);
        due.is("47 counted from then on", x.status(0), 2);
        due.is("47 which -2", x.status(-2), Due.BEYOND);
        due.is("47 all", x.status(-1), 16);
        x.image();
        x.go(0);
        x.undo();
        due.is("47 undo takes none back", x.status(-1), 17);
    }
}
