/** Promises 9 to 14: the board. */
public final class BoardTest {
    private static final Due due = new Due("BoardTest");

    public static void main(String[] args) {
        go();
        goWithShutOnes();
        goUntilFull();
        say();
        tellsAsSteady();
        tellsAsClubbed();
        followsInOrder();
        wordOf();
        below();
        signs();
        signFindings();
        hours();
        due.end();
    }

    private static void go() {
        AwakeBoard x = new AwakeBoard();
        x.name(0, 10);
        x.name(5, 10);
        due.is("9 n 0", x.go(0), Due.BEYOND);
        due.is("9 n 1000", x.go(1000), Due.BEYOND);
        due.is("9 n least", x.go(Due.LEAST), Due.BEYOND);
        due.is("9 NOW stays", x.count(1), 0);
        due.is("9 one second", x.go(1), 1);
        due.is("9 second 0 went by", x.count(2), 1);
        due.is("9 to 10", x.go(9), 10);
        due.is("9 second 10 has not gone by", x.count(2), 2);
        due.is("9 word 1 second", x.wordOf(1, 0), 2);
        due.is("9 word 1 name", x.wordOf(1, 1), 1);
        due.is("9 most", x.go(999), 1009);
        AwakeBoard y = new AwakeBoard();
        for (int i = 0; i < 30; i++) {
            due.is("9 on and on", y.go(999), 999 * (i + 1));
        }
        due.is("9 above 29999", y.go(30), Due.STATE);
        due.is("9 beyond ahead of state", y.go(1000), Due.BEYOND);
        due.is("9 to 29999", y.go(29), 29999);
        due.is("9 not one more", y.go(1), Due.STATE);
        due.is("9 stays", y.count(1), 29999);
        due.is("9 status", y.status(4), 2);
    }

    private static void goWithShutOnes() {
        AwakeBoard x = new AwakeBoard();
        x.name(0, 10);
        x.name(0, 10);
        x.name(0, 10);
        x.shut(1, true);
        x.go(1);
        due.is("9 shut ones say nothing", x.count(2), 2);
        due.is("9 by numbers", x.wordOf(0, 1), 0);
        due.is("9 by numbers, behind the shut one", x.wordOf(1, 1), 2);
        due.is("9 nothing is lost", x.count(3), 0);
    }

    private static void goUntilFull() {
        AwakeBoard x = new AwakeBoard();
        x.name(0, 1);
        x.name(2, 2);
        x.go(133);
        due.is("9 199 and 1", x.count(2), 200);
        due.is("9 none lost yet", x.count(3), 0);
        due.is("10 full", x.say(0, 1), Due.FULL);
        due.is("10 beyond ahead of full", x.say(0, 10), Due.BEYOND);
        due.is("10 by hand none is lost", x.count(3), 0);
        due.is("9 goes on", x.go(3), 136);
        due.is("9 lost", x.count(3), 4);
        due.is("9 no more words", x.count(2), 200);
    }

    private static void say() {
        AwakeBoard x = new AwakeBoard();
        due.is("10 no name", x.say(0, 0), Due.BEYOND);
        x.name(0, 7);
        x.name(1, 7);
        x.shut(1, true);
        due.is("10 topic 10", x.say(0, 10), Due.BEYOND);
        due.is("10 topic -1", x.say(0, -1), Due.BEYOND);
        due.is("10 name 2", x.say(2, 0), Due.BEYOND);
        due.is("10 name -1", x.say(-1, 0), Due.BEYOND);
        due.is("10 none came", x.count(2), 0);
        x.go(3);
        due.is("10 by hand", x.say(0, 9), 1);
        due.is("10 shut", x.say(1, 0), 2);
        due.is("10 NOW", x.wordOf(1, 0), 3);
        due.is("10 topic", x.wordOf(1, 2), 9);
        due.is("10 name", x.wordOf(2, 1), 1);
        due.is("10 NOW stays", x.count(1), 3);
    }

    private static void tellsAsSteady() {
        AwakeBoard x = new AwakeBoard();
        x.name(3, 5);
        x.name(4, 5);
        x.change(0, 5, 8);
        x.change(1, 5, 6);
        x.go(21);
        int[] steady = {8, 9, 0, 8, 9};
        for (int i = 0; i < 5; i++) {
            due.is("9 steady tells " + i, x.wordOf(2 * i, 2), steady[i]);
            due.is("9 sleeper tells " + i, x.wordOf(2 * i + 1, 2), 6);
        }
        x.say(0, 1);
        x.go(5);
        due.is("9 words by hand count", x.wordOf(11, 2), 8);
    }

    private static void tellsAsClubbed() {
        AwakeBoard x = new AwakeBoard();
        x.name(6, 4);
        x.name(0, 4);
        x.change(0, 5, 7);
        x.change(1, 5, 2);
        x.go(1);
        due.is("9 clubbed without a leader", x.wordOf(0, 2), 7);
        x.change(0, 4, 1);
        x.say(1, 5);
        x.go(1);
        // The words: 0 clubbed, 1 leader (both in 0), 2 leader by hand in 1, 3 clubbed in 1.
        due.is("9 behind its leader", x.wordOf(3, 1), 0);
        due.is("9 tells what its leader told", x.wordOf(3, 2), 5);
        AwakeBoard y = new AwakeBoard();
        y.name(6, 4);
        y.name(0, 999);
        y.change(0, 4, 1);
        y.change(0, 5, 7);
        y.change(1, 5, 2);
        y.go(1);
        due.is("9 a leader without words as a person", y.wordOf(0, 2), 7);
        y.go(1);
        due.is("9 speaks in second 1", y.wordOf(2, 0), 1);
        due.is("9 the leader's topic", y.wordOf(2, 2), 2);
        tellsBehindNameZero();
    }

    private static void tellsBehindNameZero() {
        AwakeBoard x = new AwakeBoard();
        x.name(0, 999);
        x.name(6, 999);
        x.name(1, 999);
        x.change(0, 5, 3);
        x.change(1, 4, 0);
        x.change(2, 4, 0);
        x.change(2, 5, 8);
        x.go(2);
        // In second 0 all three, in second 1 the clubbed one, which is behind its leader.
        due.is("9 words", x.count(2), 4);
        due.is("9 a leader's word of the same second", x.wordOf(1, 2), 3);
        due.is("9 a leader leads the clubbed alone", x.wordOf(2, 2), 8);
        due.is("9 word 0 is the leader's latest", x.wordOf(3, 2), 3);
        x.say(0, 6);
        x.say(2, 1);
        x.go(2);
        due.is("9 its leader's latest by hand", x.wordOf(6, 2), 6);
        AwakeBoard y = new AwakeBoard();
        y.name(0, 999);
        y.name(6, 999);
        y.name(0, 999);
        y.shut(2, true);
        y.change(0, 5, 4);
        y.change(1, 4, 2);
        y.change(1, 5, 7);
        y.go(1);
        due.is("9 another one's words don't lead", y.wordOf(1, 2), 7);
    }

    private static void followsInOrder() {
        AwakeBoard x = new AwakeBoard();
        for (int i = 0; i < 4; i++) {
            x.name(0, 999);
            x.shut(i, true);
        }
        x.say(0, 0);
        x.say(1, 0);
        due.is("11 none in the same second", x.wordOf(1, 3), -1);
        x.go(9);
        x.say(2, 0);
        due.is("11 9 seconds earlier, the latest", x.wordOf(2, 3), 1);
        x.say(1, 0);
        due.is("11 another name", x.wordOf(3, 3), 0);
        x.go(1);
        x.say(0, 0);
        due.is("11 1 second earlier, the latest in order", x.wordOf(4, 3), 3);
        x.say(1, 0);
        due.is("11 not its own", x.wordOf(5, 3), 2);
        x.go(10);
        x.say(3, 0);
        due.is("11 10 seconds are too long", x.wordOf(6, 3), -1);
    }

    private static void wordOf() {
        AwakeBoard x = new AwakeBoard();
        x.name(0, 999);
        due.is("11 no word", x.wordOf(0, 0), Due.BEYOND);
        x.say(0, 4);
        due.is("11 second", x.wordOf(0, 0), 0);
        due.is("11 name", x.wordOf(0, 1), 0);
        due.is("11 topic", x.wordOf(0, 2), 4);
        due.is("11 follows", x.wordOf(0, 3), -1);
        due.is("11 what 4", x.wordOf(0, 4), Due.BEYOND);
        due.is("11 what -1", x.wordOf(0, -1), Due.BEYOND);
        due.is("11 word 1", x.wordOf(1, 0), Due.BEYOND);
        due.is("11 word -1", x.wordOf(-1, 0), Due.BEYOND);
        due.is("11 most", x.wordOf(Due.MOST, 0), Due.BEYOND);
    }

    private static void below() {
        AwakeBoard x = new AwakeBoard();
        x.name(0, 999);
        x.name(0, 999);
        x.name(0, 999);
        x.shut(0, true);
        x.shut(1, true);
        x.shut(2, true);
        // 0 (of 0) <- 1 (of 1) <- 2, 3 (of 0 and 2); 4 (of 1) stands alone.
        x.say(0, 0);
        x.go(5);
        x.say(1, 0);
        x.go(5);
        x.say(0, 0);
        x.say(2, 0);
        x.go(20);
        x.say(1, 0);
        due.is("12 below 0", x.below(0), 3);
        due.is("12 below 1", x.below(1), 2);
        due.is("12 below 2", x.below(2), 0);
        due.is("12 below 4", x.below(4), 0);
        due.is("12 below 0 again", x.below(0), 3);
        due.is("12 word 5", x.below(5), Due.BEYOND);
        due.is("12 word -1", x.below(-1), Due.BEYOND);
        due.is("12 least", x.below(Due.LEAST), Due.BEYOND);
        // A branch beside the one that is asked for is not below it.
        x.go(1);
        x.say(0, 0);
        x.say(2, 0);
        x.go(1);
        x.say(1, 0);
        due.is("12 below 4", x.below(4), 3);
        due.is("12 below 5", x.below(5), 0);
        due.is("12 below 6", x.below(6), 1);
    }

    private static void signs() {
        AwakeBoard x = new AwakeBoard();
        for (int i = 0; i < 4; i++) {
            x.name(0, 999);
            x.shut(i, true);
        }
        x.say(0, 3);
        x.go(4);
        x.say(1, 0);
        x.go(3);
        x.say(0, 5);
        x.go(200);
        x.say(0, 5);
        x.go(2);
        x.say(1, 0);
        x.go(999);
        x.say(2, 0);
        // Name 0 in 0, 7, 207; name 1 in 4, 209; name 2 in 1208.
        int[][] want = {
            {3, 103, 7, 2, 1, 3, 2},
            {2, 205, 205, 2, 2, 2, 1},
            {1, 0, 0, 1, 0, 99, 1},
            {0, 0, 0, 0, 0, 99, 0},
        };
        for (int name = 0; name < 4; name++) {
            for (int what = 0; what <= 6; what++) {
                due.is("13 sign(" + name + ", " + what + ")", x.sign(name, what), want[name][what]);
            }
        }
        x.say(2, 1);
        due.is("13 a gap of 0", x.sign(2, 2), 0);
        due.is("13 the first thing told counts", x.sign(0, 6), 2);
        due.is("13 hours go round", x.hours(2), 4);
    }

    private static void signFindings() {
        AwakeBoard x = new AwakeBoard();
        due.is("13 no name", x.sign(0, 0), Due.BEYOND);
        x.name(0, 5);
        due.is("13 what 7", x.sign(0, 7), Due.BEYOND);
        due.is("13 what -1", x.sign(0, -1), Due.BEYOND);
        due.is("13 name 1", x.sign(1, 0), Due.BEYOND);
        due.is("13 name -1", x.sign(-1, 0), Due.BEYOND);
    }

    private static void hours() {
        AwakeBoard x = new AwakeBoard();
        due.is("14 no name", x.hours(0), Due.BEYOND);
        x.name(0, 400);
        x.name(1, 100);
        due.is("14 no words", x.hours(0), 0);
        x.go(999);
        due.is("14 hours 0, 4, 8", x.hours(0), 273);
        due.is("14 all hours", x.hours(1), 1023);
        due.is("14 name 2", x.hours(2), Due.BEYOND);
        due.is("14 name -1", x.hours(-1), Due.BEYOND);
        x.go(250);
        due.is("14 hour 2 of day 1", x.hours(0), 277);
    }
}
