/** Promises 36 to 42: spots and sheets. */
public final class SheetsTest {
    private static final Due due = new Due("SheetsTest");

    public static void main(String[] args) {
        hold();
        as();
        sheet();
        write();
        copy();
        copyFindings();
        load();
        loadUntilFull();
        judge();
        due.end();
    }

    private static void hold() {
        AwakeBoard x = new AwakeBoard();
        due.is("36 no name", x.hold(0, 0), Due.BEYOND);
        x.name(0, 1);
        due.is("36 spot 9", x.hold(9, 0), 1);
        due.is("36 spot 10", x.hold(10, 0), Due.BEYOND);
        due.is("36 spot -1", x.hold(-1, 0), Due.BEYOND);
        due.is("36 name 1", x.hold(0, 1), Due.BEYOND);
        due.is("36 name -2", x.hold(0, -2), Due.BEYOND);
        due.is("37 held", x.as(9, 0), 0);
        due.is("36 nothing", x.hold(9, -1), 1);
        due.is("37 nothing", x.as(9, 0), Due.MISSING);
    }

    private static void as() {
        AwakeBoard x = new AwakeBoard();
        boolean[][] isOf = new boolean[8][8];
        int[][] lines = {{0}, {1, 0}, {2, 0}, {3, 1, 0}, {4, 2, 0}, {5, 0}, {6, 1, 0}, {7, 4, 2, 0}};
        for (int kind = 0; kind < 8; kind++) {
            x.name(kind, 5);
            x.hold(kind, kind);
            for (int above : lines[kind]) {
                isOf[kind][above] = true;
            }
        }
        for (int spot = 0; spot < 8; spot++) {
            for (int kind = 0; kind < 8; kind++) {
                int want = isOf[spot][kind] ? spot : Due.KIND;
                due.is("37 as(" + spot + ", " + kind + ")", x.as(spot, kind), want);
            }
        }
        due.is("37 spot 10", x.as(10, 0), Due.BEYOND);
        due.is("37 spot -1", x.as(-1, 0), Due.BEYOND);
        due.is("37 kind 8", x.as(0, 8), Due.BEYOND);
        due.is("37 kind -1", x.as(0, -1), Due.BEYOND);
        due.is("37 beyond ahead of missing", x.as(8, 8), Due.BEYOND);
        due.is("37 missing", x.as(8, 7), Due.MISSING);
        x.hold(2, 7);
        due.is("37 the number of the name", x.as(2, 4), 7);
    }

    private static void sheet() {
        AwakeBoard x = new AwakeBoard();
        due.is("38 8 bits", x.sheet(0, 8, 40), 40);
        due.is("38 16 bits", x.sheet(1, 16, 1), 1);
        due.is("38 32 bits", x.sheet(3, 32, 0), 0);
        due.is("38 sheet 4", x.sheet(4, 8, 1), Due.BEYOND);
        due.is("38 sheet -1", x.sheet(-1, 8, 1), Due.BEYOND);
        due.is("38 64 bits", x.sheet(0, 64, 1), Due.BEYOND);
        due.is("38 -8 bits", x.sheet(0, -8, 1), Due.BEYOND);
        due.is("38 bits ahead of size", x.sheet(0, 7, -1), Due.BEYOND);
        due.is("38 n -1", x.sheet(0, 8, -1), Due.SIZE);
        due.is("38 n least", x.sheet(0, 32, Due.LEAST), Due.SIZE);
        due.is("38 n -1 without bits", x.sheet(0, 0, -1), Due.SIZE);
        due.is("38 n 41", x.sheet(0, 8, 41), Due.BEYOND);
        due.is("38 n 41 without bits", x.sheet(0, 0, 41), Due.BEYOND);
        due.is("38 it stays", x.write(0, 39, 1), 1);
        due.is("38 missing", x.sheet(0, 0, 40), 0);
        due.is("38 it is missing", x.write(0, 0, 1), Due.MISSING);
        due.is("38 an empty one isn't missing", x.judge(3), 0);
        due.is("38 sizes", x.status(6), 3);
        allZero();
    }

    /** A sheet that is made anew is all 0, though it had other numbers. */
    private static void allZero() {
        AwakeBoard x = new AwakeBoard();
        x.name(0, 999);
        x.sheet(0, 8, 4);
        for (int i = 0; i < 4; i++) {
            x.write(0, i, 5);
        }
        x.sheet(0, 8, 2);
        x.sheet(0, 8, 4);
        due.is("38 all 0", x.load(0), 2);
        due.is("38 tells 0", x.wordOf(1, 2), 0);
    }

    /** What a sheet's number is, by the names that it stands for: 1 more than its place if it is right. */
    private static void write() {
        AwakeBoard x = new AwakeBoard();
        x.name(0, 999);
        x.name(0, 999);
        due.is("39 sheet 4", x.write(4, 0, 0), Due.BEYOND);
        due.is("39 sheet -1", x.write(-1, 0, 0), Due.BEYOND);
        due.is("39 missing ahead of beyond", x.write(0, 99, 0), Due.MISSING);
        int[] bits = {8, 16, 32};
        int[] turn = {256, 65536, 0};
        for (int s = 0; s < 3; s++) {
            x.sheet(s, bits[s], 2);
            due.is("39 number 2", x.write(s, 2, 0), Due.BEYOND);
            due.is("39 number -1", x.write(s, -1, 0), Due.BEYOND);
            due.is("39 write", x.write(s, 0, turn[s] + 1), 1);
            due.is("39 write", x.write(s, 1, turn[s] * 3 + 9), 1);
            due.is("41 its lowest bits", x.load(s), 1);
            due.is("41 name", x.wordOf(s, 1), 1);
            due.is("41 topic", x.wordOf(s, 2), 9);
            due.is("39 below 0", x.write(s, 0, -1), 1);
            due.is("41 no name", x.load(s), 0);
        }
        x.sheet(0, 8, 2);
        x.write(0, 0, 255);
        due.is("39 255 of 8 bits is -1", x.load(0), 0);
        x.sheet(2, 32, 2);
        x.write(2, 0, 256);
        due.is("39 256 of 32 bits stays", x.load(2), 0);
        x.sheet(1, 16, 2);
        x.write(1, 0, 256);
        due.is("39 256 of 16 bits stays", x.load(1), 0);
        x.sheet(3, 8, 0);
        due.is("39 an empty one has none", x.write(3, 0, 1), Due.BEYOND);
    }

    /** Names 0 to 9; sheet 0 has 0 to 9 as far as it goes. */
    private static AwakeBoard ten() {
        AwakeBoard x = new AwakeBoard();
        x.sheet(0, 8, 10);
        for (int i = 0; i < 10; i++) {
            x.name(0, 999);
            x.write(0, i, i);
        }
        return x;
    }

    private static void numbersAre(AwakeBoard x, int s, int... want) {
        x.image();
        for (int name : want) {
            x.say(name, 0);
        }
        due.is("40 numbers of sheet " + s, x.judge(s), 0);
        x.undo();
        x.tear();
    }

    private static void copy() {
        AwakeBoard x = ten();
        numbersAre(x, 0, 0, 1, 2, 3, 4, 5, 6, 7, 8, 9);
        due.is("40 up over itself", x.copy(0, 0, 0, 1, 4), 4);
        numbersAre(x, 0, 0, 0, 1, 2, 3, 5, 6, 7, 8, 9);
        due.is("40 down over itself", x.copy(0, 5, 0, 4, 5), 5);
        numbersAre(x, 0, 0, 0, 1, 2, 5, 6, 7, 8, 9, 9);
        x.sheet(1, 8, 4);
        due.is("40 to another", x.copy(0, 6, 1, 1, 3), 3);
        numbersAre(x, 1, 0, 7, 8, 9);
        due.is("40 none", x.copy(0, 10, 1, 4, 0), 0);
        due.is("40 all", x.copy(1, 0, 0, 0, 4), 4);
        numbersAre(x, 0, 0, 7, 8, 9, 5, 6, 7, 8, 9, 9);
    }

    private static void copyFindings() {
        AwakeBoard x = ten();
        x.sheet(1, 8, 4);
        x.sheet(2, 16, 4);
        due.is("40 sheet 4", x.copy(4, 0, 0, 0, 1), Due.BEYOND);
        due.is("40 to sheet 4", x.copy(0, 0, 4, 0, 1), Due.BEYOND);
        due.is("40 sheet -1", x.copy(-1, 0, 3, 0, 1), Due.BEYOND);
        due.is("40 to sheet -1", x.copy(3, 0, -1, 0, 1), Due.BEYOND);
        due.is("40 to a missing one", x.copy(0, 0, 3, 0, -1), Due.MISSING);
        due.is("40 from a missing one", x.copy(3, 0, 0, 0, -1), Due.MISSING);
        due.is("40 other bits", x.copy(0, 0, 2, 0, -1), Due.KIND);
        due.is("40 too many to", x.copy(0, 0, 1, 0, 5), Due.BEYOND);
        due.is("40 too many from", x.copy(1, 0, 0, 0, 5), Due.BEYOND);
        due.is("40 too far from", x.copy(1, 2, 0, 0, 3), Due.BEYOND);
        due.is("40 too far to", x.copy(0, 0, 1, 2, 3), Due.BEYOND);
        due.is("40 from -1", x.copy(0, -1, 1, 0, 1), Due.BEYOND);
        due.is("40 to -1", x.copy(0, 0, 1, -1, 1), Due.BEYOND);
        due.is("40 n -1", x.copy(0, 0, 1, 0, -1), Due.BEYOND);
        due.is("40 wraps", x.copy(0, Due.MOST, 1, 0, Due.MOST), Due.BEYOND);
        due.is("40 wraps", x.copy(0, 1, 1, 1, Due.MOST), Due.BEYOND);
        due.is("40 none from above", x.copy(0, 11, 1, 0, 0), Due.BEYOND);
        numbersAre(x, 1, 0, 0, 0, 0);
    }

    private static void load() {
        AwakeBoard x = ten();
        x.go(3);
        x.wipe();
        int before = x.count(2);
        due.is("41 sheet 4", x.load(4), Due.BEYOND);
        due.is("41 sheet -1", x.load(-1), Due.BEYOND);
        due.is("41 missing", x.load(1), Due.MISSING);
        due.is("41 all", x.load(0), 5);
        due.is("41 words", x.count(2), before + 5);
        for (int i = 0; i < 5; i++) {
            due.is("41 second", x.wordOf(before + i, 0), 3);
            due.is("41 name", x.wordOf(before + i, 1), 2 * i);
            due.is("41 topic", x.wordOf(before + i, 2), 2 * i + 1);
        }
        x.sheet(1, 8, 5);
        due.is("41 the last isn't whole", x.load(1), 2);
        x.write(1, 0, 10);
        due.is("41 no such name", x.load(1), 0);
        x.write(1, 0, 9);
        x.write(1, 3, 10);
        due.is("41 no such topic", x.load(1), 1);
        x.write(1, 3, -1);
        due.is("41 topic -1", x.load(1), 1);
        x.write(1, 3, 9);
        x.write(1, 2, -1);
        due.is("41 name -1", x.load(1), 1);
        x.sheet(1, 8, 1);
        due.is("41 one number", x.load(1), 0);
        x.shut(0, true);
        x.sheet(1, 8, 2);
        due.is("41 shut", x.load(1), 1);
    }

    private static void loadUntilFull() {
        AwakeBoard x = new AwakeBoard();
        x.name(0, 1);
        x.sheet(0, 32, 40);
        x.go(195);
        due.is("41 no room", x.load(0), 5);
        due.is("41 full", x.load(0), 0);
        due.is("41 none is lost", x.count(3), 0);
        due.is("41 no finding", x.status(-1), 0);
    }

    private static void judge() {
        AwakeBoard x = ten();
        due.is("42 sheet 4", x.judge(4), Due.BEYOND);
        due.is("42 sheet -1", x.judge(-1), Due.BEYOND);
        due.is("42 missing", x.judge(1), Due.MISSING);
        due.is("42 no words", x.judge(0), 1);
        x.sheet(1, 8, 0);
        due.is("42 nothing is right of nothing", x.judge(1), 0);
        x.say(0, 4);
        due.is("42 nothing of one word", x.judge(1), 1);
        due.is("42 one of ten", x.judge(0), 2);
        for (int i = 1; i < 10; i++) {
            x.say(i, 0);
        }
        due.is("42 all", x.judge(0), 0);
        x.say(0, 0);
        due.is("42 all, but there are more words", x.judge(0), 11);
        x.write(0, 4, 5);
        due.is("42 number 4 is wrong", x.judge(0), 5);
        x.write(0, 0, -1);
        due.is("42 number 0 is wrong", x.judge(0), 1);
    }
}
