import com.sun.management.ThreadMXBean;
import java.lang.management.ManagementFactory;

/** What a run makes is counted: a board is made once, and its calls make nothing. */
public final class RoomTest {
    private static final Due due = new Due("RoomTest");
    private static final int BOARDS = 200;

    public static void main(String[] args) {
        ThreadMXBean threads = (ThreadMXBean) ManagementFactory.getThreadMXBean();
        long me = Thread.currentThread().getId();
        AwakeBoard[] boards = new AwakeBoard[BOARDS];
        callAll(new AwakeBoard());
        threads.getThreadAllocatedBytes(me);
        long before = threads.getThreadAllocatedBytes(me);
        for (int i = 0; i < BOARDS; i++) {
            boards[i] = new AwakeBoard();
        }
        long made = threads.getThreadAllocatedBytes(me);
        for (int i = 0; i < BOARDS; i++) {
            callAll(boards[i]);
        }
        long called = threads.getThreadAllocatedBytes(me);
        System.out.println("RoomTest: bytes a board " + (made - before) / BOARDS + ", bytes its calls " + (called - made) / BOARDS);
        due.is("a board is small", (made - before) / BOARDS < 24000 ? 1 : 0, 1);
        due.is("calls make nothing", (called - made) / BOARDS < 64 ? 1 : 0, 1);
        due.end();
    }

    private static void callAll(AwakeBoard x) {
        for (int i = 0; i < 15; i++) {
            x.name(i % 8, 5 + i);
            x.change(i, 4, i - 1);
        }
        x.go(200);
        feed(x);
        x.text();
        feed(x);
        x.wipe();
        for (int name = -1; name < 15; name++) {
            x.nameOf(name, 7);
            x.speaks(name, 500);
            x.next(name, 100);
            x.sign(name, 4);
            x.hours(name);
            x.score(0, name);
            x.together(name, 0, 9);
            x.group(name, 3, 4, 2);
            x.apart(name, 3);
            x.sold(name);
            x.hold(name, name);
            x.as(name, 2);
            x.below(name);
            x.wordOf(name, 3);
        }
        x.found(0, 4, 1);
        x.line(0, 3, 4, 0);
        x.shutAll(0, 30);
        x.shut(0, false);
        x.object();
        x.ask(0, 9);
        x.asked(3);
        x.groups(3, 2);
        x.club(40, 9);
        x.counts(3, 5);
        x.most(1);
        x.first(4);
        x.many(7, 14);
        x.seed(3);
        x.sample(99);
        x.image();
        x.say(0, 0);
        x.sheet(0, 8, 40);
        x.sheet(1, 8, 40);
        x.write(0, 3, 7);
        x.copy(0, 0, 1, 1, 30);
        x.load(0);
        x.judge(1);
        x.undo();
        x.tear();
        x.count(4);
        x.status(-1);
    }

    private static void feed(AwakeBoard x) {
        x.feed('w', 1);
        x.feed('*' << 24 | '(' << 16 | 'g' << 8 | '-', 4);
        x.feed('1' << 8 | '2', 2);
        x.feed(')', 1);
    }
}
