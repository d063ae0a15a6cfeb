/**
 * Where two findings could be told, the one that the document asks first; each call is made on a board
 * on which the later finding could be told as well, which is asked behind it.
 */
public final class OrderTest {
    private static final Due due = new Due("OrderTest");

    public static void main(String[] args) {
        beyondAheadOfFull();
        fullAheadOfFault();
        beyondAheadOfNone();
        beyondAheadOfState();
        spots();
        sheet();
        write();
        copy();
        loadAndJudge();
        due.end();
    }

    private static AwakeBoard names(int names) {
        AwakeBoard x = new AwakeBoard();
        for (int i = 0; i < names; i++) {
            x.name(0, 1);
        }
        return x;
    }

    private static void beyondAheadOfFull() {
        AwakeBoard x = names(14);
        due.is("2 name: kind ahead of FULL", x.name(8, 1), Due.BEYOND);
        due.is("2 name: gap ahead of FULL", x.name(0, 0), Due.BEYOND);
        due.is("2 name: kind and gap", x.name(-1, 1000), Due.BEYOND);
        due.is("2 name: FULL", x.name(0, 1), Due.FULL);
        x.go(15);
        due.is("10 say: name ahead of FULL", x.say(14, 0), Due.BEYOND);
        due.is("10 say: topic ahead of FULL", x.say(0, 10), Due.BEYOND);
        due.is("10 say: FULL", x.say(0, 9), Due.FULL);
        for (int i = 0; i < 20; i++) {
            x.feed(0, 4);
        }
        due.is("15 feed: n 0 ahead of FULL", x.feed(0, 0), Due.BEYOND);
        due.is("15 feed: n 5 ahead of FULL", x.feed(0, 5), Due.BEYOND);
        due.is("15 feed: FULL", x.feed(0, 1), Due.FULL);
        due.is("47 BEYOND", x.status(0), 7);
        due.is("47 FULL", x.status(1), 3);
    }

    private static void fullAheadOfFault() {
        AwakeBoard x = new AwakeBoard();
        for (int i = 0; i < 6; i++) {
            Due.text(x, "w");
        }
        due.is("17 text: FULL ahead of the FAULT of nothing", x.text(), Due.FULL);
        x.feed('$', 1);
        due.is("17 text: FULL ahead of a FAULT", x.text(), Due.FULL);
        due.is("17 text: THE TAPE stays", x.wipe(), 1);
        x.feed('w', 1);
        due.is("17 text: FULL", x.text(), Due.FULL);
        due.is("17 text: THE TAPE stays", x.count(5), 1);
    }

    private static void beyondAheadOfNone() {
        AwakeBoard x = new AwakeBoard();
        Due.text(x, "w");
        due.is("22 ask: text ahead of NONE", x.ask(1, 0), Due.BEYOND);
        due.is("22 ask: bar ahead of NONE", x.ask(0, 10000), Due.BEYOND);
        due.is("22 ask: NONE", x.ask(0, 9999), Due.NONE);
        due.is("30 most: a set ahead of NONE", x.most(1), Due.BEYOND);
        due.is("30 most: NONE", x.most(0), Due.NONE);
        due.is("31 first: topic ahead of NONE", x.first(10), Due.BEYOND);
        due.is("31 first: NONE", x.first(9), Due.NONE);
        due.is("32 many: a ahead of NONE", x.many(1, 0), Due.BEYOND);
        due.is("32 many: b ahead of NONE", x.many(0, 1), Due.BEYOND);
        due.is("32 many: NONE", x.many(0, 0), Due.NONE);
        due.is("35 sample: n 0 ahead of NONE", x.sample(0), Due.BEYOND);
        due.is("35 sample: n 100 ahead of NONE", x.sample(100), Due.BEYOND);
        due.is("35 sample: NONE", x.sample(99), Due.NONE);
        AwakeBoard y = names(1);
        y.change(0, 1, 999);
        due.is("8 next: from ahead of NONE", y.next(0, 30000), Due.BEYOND);
        due.is("8 next: NONE", y.next(0, 29999), Due.NONE);
        due.is("33 sold: name ahead of NONE", y.sold(1), Due.BEYOND);
        due.is("33 sold: NONE", y.sold(0), Due.NONE);
    }

    private static void beyondAheadOfState() {
        AwakeBoard x = names(1);
        Due.goTo(x, 29000);
        due.is("9 go: n 1000 ahead of STATE", x.go(1000), Due.BEYOND);
        due.is("9 go: n most ahead of STATE", x.go(Due.MOST), Due.BEYOND);
        due.is("9 go: to the end", x.go(999), 29999);
        due.is("9 go: n 0 at the end", x.go(0), Due.BEYOND);
        due.is("9 go: STATE", x.go(1), Due.STATE);
        due.is("9 go: STATE", x.go(999), Due.STATE);
        x.asked(0);
        due.is("23 asked: name ahead of STATE", x.asked(1), Due.BEYOND);
        due.is("23 asked: STATE", x.asked(0), Due.STATE);
    }

    private static void spots() {
        AwakeBoard x = names(1);
        due.is("36 hold: spot and name", x.hold(10, 1), Due.BEYOND);
        due.is("37 as: spot ahead of MISSING", x.as(10, 0), Due.BEYOND);
        due.is("37 as: kind ahead of MISSING", x.as(0, 8), Due.BEYOND);
        due.is("37 as: MISSING, whatever kind", x.as(0, 7), Due.MISSING);
        x.hold(0, 0);
        due.is("37 as: kind ahead of KIND", x.as(0, -1), Due.BEYOND);
        due.is("37 as: KIND", x.as(0, 7), Due.KIND);
        due.is("37 as: it is", x.as(0, 0), 0);
    }

    private static void sheet() {
        AwakeBoard x = new AwakeBoard();
        for (int n : new int[] {-1, Due.LEAST}) {
            due.is("38 sheet: s ahead of SIZE", x.sheet(4, 8, n), Due.BEYOND);
            due.is("38 sheet: s ahead of SIZE, without bits", x.sheet(-1, 0, n), Due.BEYOND);
            due.is("38 sheet: bits ahead of SIZE", x.sheet(0, 9, n), Due.BEYOND);
            due.is("38 sheet: SIZE", x.sheet(0, 32, n), Due.SIZE);
            due.is("38 sheet: SIZE, also with bits 0", x.sheet(0, 0, n), Due.SIZE);
        }
        due.is("38 sheet: n above 40", x.sheet(0, 32, 41), Due.BEYOND);
        due.is("38 sheet: n above 40, also with bits 0", x.sheet(0, 0, 41), Due.BEYOND);
        due.is("47 SIZE", x.status(6), 4);
        due.is("47 BEYOND", x.status(0), 8);
    }

    private static void write() {
        AwakeBoard x = new AwakeBoard();
        due.is("39 write: no such sheet ahead of no such number", x.write(4, 40, 0), Due.BEYOND);
        due.is("39 write: MISSING ahead of no such number", x.write(0, 40, 0), Due.MISSING);
        due.is("39 write: MISSING ahead of a number below 0", x.write(0, -1, 0), Due.MISSING);
        x.sheet(0, 8, 40);
        due.is("39 write: no such number", x.write(0, 40, 0), Due.BEYOND);
        due.is("47 MISSING", x.status(5), 2);
    }

    private static void copy() {
        AwakeBoard x = new AwakeBoard();
        due.is("40 copy: s ahead of MISSING", x.copy(4, 0, 0, 0, 0), Due.BEYOND);
        due.is("40 copy: t ahead of MISSING", x.copy(0, 0, 4, 0, 0), Due.BEYOND);
        x.sheet(0, 8, 4);
        x.sheet(1, 16, 4);
        due.is("40 copy: t ahead of KIND", x.copy(0, 0, -1, 0, 1), Due.BEYOND);
        due.is("40 copy: s ahead of MISSING t", x.copy(-1, 0, 2, 0, 1), Due.BEYOND);
        for (int bad : new int[] {-1, 5, Due.LEAST, Due.MOST}) {
            due.is("40 copy: MISSING s ahead of from " + bad, x.copy(2, bad, 0, 0, 1), Due.MISSING);
            due.is("40 copy: MISSING t ahead of to " + bad, x.copy(0, 0, 2, bad, 1), Due.MISSING);
            due.is("40 copy: MISSING both ahead of n " + bad, x.copy(2, 0, 3, 0, bad), Due.MISSING);
            due.is("40 copy: KIND ahead of from " + bad, x.copy(0, bad, 1, 0, 1), Due.KIND);
            due.is("40 copy: KIND ahead of to " + bad, x.copy(1, 0, 0, bad, 1), Due.KIND);
            due.is("40 copy: KIND ahead of n " + bad, x.copy(0, 0, 1, 0, bad), Due.KIND);
        }
        x.sheet(1, 8, 4);
        due.is("40 copy: not so many", x.copy(0, 0, 1, 0, 5), Due.BEYOND);
        due.is("47 MISSING", x.status(5), 12);
        due.is("47 KIND", x.status(2), 12);
    }

    private static void loadAndJudge() {
        AwakeBoard x = names(14);
        x.go(15);
        due.is("41 load: no such sheet ahead of MISSING", x.load(4), Due.BEYOND);
        due.is("41 load: MISSING, though there is no room", x.load(3), Due.MISSING);
        due.is("42 judge: no such sheet ahead of MISSING", x.judge(-1), Due.BEYOND);
        due.is("42 judge: MISSING", x.judge(3), Due.MISSING);
        x.sheet(3, 8, 2);
        due.is("41 load: no room is no finding", x.load(3), 0);
        due.is("47 all", x.status(-1), 4);
    }
}
