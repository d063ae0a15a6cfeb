/** What the document's Terms 1 say at their edges: seconds, hours, days, kinds, the board; and promises 2 to 14. */
public final class EdgesOfBoardTest {
    private static final Due due = new Due("EdgesOfBoardTest");
    private static final int PERSON = 1;
    private static final int CLOCK = 2;
    private static final int STEADY = 3;
    private static final int SLEEPER = 4;
    private static final int HANDED = 5;
    private static final int CLUBBED = 6;
    private static final int HALF = 7;
    private static final int GAP = 1;
    private static final int HOURS = 2;
    private static final int JITTER = 3;
    private static final int LEADER = 4;
    private static final int TOPIC = 5;

    public static void main(String[] args) {
        hourIsAHundredth();
        hoursOfEachKind();
        dayIsAThousandth();
        nameByGap();
        clockByFormula();
        clockAtItsEdges();
        sleeperByFormula();
        handedAtTwiceItsNumber();
        clubbedBehindItsLeader();
        clubbedAtTheEnds();
        lostWordsLeadNoOne();
        tells();
        steadyTells();
        clubbedTells();
        follows();
        followsTheLatest();
        wordsAtMost();
        lostOnes();
        eachSecondAsItGoesBy();
        theLastSecond();
        namesAtMost();
        traitsOfFourteen();
        peopleObject();
        nextInTwoThousand();
        belowAChain();
        signsOfFewWords();
        signsOfFollowing();
        hoursAsASet();
        due.end();
    }

    private static AwakeBoard one(int kind, int gap) {
        AwakeBoard x = new AwakeBoard();
        x.name(kind, gap);
        return x;
    }

    private static void hourIsAHundredth() {
        AwakeBoard x = one(PERSON, 1);
        for (int hour = 0; hour < 10; hour++) {
            x.change(0, HOURS, 1 << hour);
            for (int day : new int[] {0, 1, 29}) {
                int begin = 1000 * day + 100 * hour;
                due.is("1 HOUR begins in " + begin, x.speaks(0, begin), 1);
                due.is("1 HOUR ends in " + (begin + 99), x.speaks(0, begin + 99), 1);
                due.is("1 HOUR ahead of " + begin, begin == 0 ? 0 : x.speaks(0, begin - 1), 0);
                due.is("1 HOUR behind " + (begin + 99), begin == 29900 ? 0 : x.speaks(0, begin + 100), 0);
            }
        }
        x.change(0, HOURS, 1022);
        due.is("1 all HOURS but 0: in 0", x.speaks(0, 0), 0);
        due.is("1 all HOURS but 0: in 999", x.speaks(0, 999), 1);
        due.is("1 all HOURS but 0: in 1000", x.speaks(0, 1000), 0);
    }

    private static void hoursOfEachKind() {
        int[] heedsHours = {0, 1, 0, 1, 1, 0, 1, 1};
        for (int kind = 0; kind <= 7; kind++) {
            AwakeBoard x = one(kind, 1);
            x.change(0, HOURS, 1 << 4);
            due.is("1 kind " + kind + " in its HOURS", x.speaks(0, 450), 1);
            due.is("1 kind " + kind + " out of its HOURS", x.speaks(0, 399), 1 - heedsHours[kind]);
            due.is("1 kind " + kind + " out of its HOURS", x.speaks(0, 500), 1 - heedsHours[kind]);
            due.is("1 kind " + kind + " out of its HOURS on day 6", x.speaks(0, 6500), 1 - heedsHours[kind]);
            due.is("1 kind " + kind + " in its HOURS on day 6", x.speaks(0, 6499), 1);
        }
    }

    /** GAP 2 and JITTER 1: a clock of number n is late by 1 if (s by 2) and n together are odd. */
    private static void dayIsAThousandth() {
        AwakeBoard x = new AwakeBoard();
        x.name(HALF, 2);
        x.name(HALF, 2);
        x.change(0, JITTER, 1);
        x.change(1, JITTER, 1);
        for (int day = 0; day < 30; day++) {
            boolean isClock = day == 6 || day == 13 || day == 20 || day == 27;
            int begin = 1000 * day;
            // In the day's first two seconds number 1 is late as a clock, in its last two number 0 is.
            due.is("1 HALF: day " + day + " begins", x.speaks(1, begin), isClock ? 0 : 1);
            due.is("1 HALF: day " + day + " begins, late", x.speaks(1, begin + 1), isClock ? 1 : 0);
            due.is("1 HALF: day " + day + " ends", x.speaks(0, begin + 998), isClock ? 0 : 1);
            due.is("1 HALF: day " + day + " ends, late", x.speaks(0, begin + 999), isClock ? 1 : 0);
        }
    }

    private static void nameByGap() {
        AwakeBoard x = one(0, 999);
        due.is("1 NAME: in 0", x.speaks(0, 0), 1);
        due.is("1 NAME: in 998", x.speaks(0, 998), 0);
        due.is("1 NAME: in 999", x.speaks(0, 999), 1);
        due.is("1 NAME: in 1000", x.speaks(0, 1000), 0);
        due.is("1 NAME: in 29970", x.speaks(0, 29970), 1);
        x.change(0, GAP, 1);
        due.is("1 NAME: GAP 1 in 1000", x.speaks(0, 1000), 1);
        due.is("1 NAME: GAP 1 in 29999", x.speaks(0, 29999), 1);
        x.change(0, JITTER, 99);
        x.change(0, GAP, 7);
        due.is("1 NAME: no JITTER", x.speaks(0, 7 * 9), 1);
    }

    private static int late(int gap, int number, int jitter, int turn) {
        int rest = (7 * turn + 3 * number) % (jitter + 1);
        return rest < gap - 1 ? rest : gap - 1;
    }

    private static void clockByFormula() {
        int[][] cases = {{7, 0, 99}, {7, 13, 99}, {999, 13, 99}, {5, 3, 4}, {5, 3, 5}, {2, 1, 1}, {99, 12, 98}, {100, 5, 99}};
        for (int[] one : cases) {
            AwakeBoard x = new AwakeBoard();
            for (int i = 0; i <= one[1]; i++) {
                x.name(CLOCK, one[0]);
            }
            x.change(one[1], JITTER, one[2]);
            for (int turn = 0; turn < 29; turn++) {
                int then = turn * one[0] + late(one[0], one[1], one[2], turn);
                due.is("1 CLOCK: turn " + turn + " of gap " + one[0], x.next(one[1], turn * one[0]), then);
                int first = turn * one[0];
                int last = first + one[0] - 1;
                due.is("1 CLOCK: once a turn", x.speaks(one[1], first), first == then ? 1 : 0);
                due.is("1 CLOCK: once a turn", x.speaks(one[1], last), last == then ? 1 : 0);
            }
        }
    }

    private static void clockAtItsEdges() {
        AwakeBoard x = one(CLOCK, 1);
        x.change(0, JITTER, 99);
        for (int second : new int[] {0, 1, 2, 57, 29999}) {
            due.is("1 CLOCK: GAP 1 always", x.speaks(0, second), 1);
        }
        x.change(0, GAP, 40);
        x.change(0, JITTER, 0);
        due.is("1 CLOCK: JITTER 0", x.next(0, 41), 80);
        x.change(0, JITTER, 1);
        due.is("1 CLOCK: JITTER 1", x.next(0, 1), 41);
        x.change(0, GAP, 8);
        x.change(0, JITTER, 99);
        // Turn 1 is late by 7, which is GAP less 1; turn 2 would be late by 14.
        due.is("1 CLOCK: late by GAP less 1", x.next(0, 8), 15);
        due.is("1 CLOCK: late by GAP less 1, not by more", x.next(0, 16), 23);
        x.change(0, GAP, 9);
        due.is("1 CLOCK: late by less than GAP less 1", x.next(0, 9), 16);
    }

    private static void sleeperByFormula() {
        AwakeBoard x = new AwakeBoard();
        x.name(0, 1);
        x.name(SLEEPER, 37);
        x.change(1, JITTER, 30);
        x.change(1, HOURS, 0x2a5);
        for (int turn = 0; turn < 60; turn++) {
            int second = turn * 37 + late(37, 1, 30, turn);
            int isAwake = 0x2a5 >> second / 100 % 10 & 1;
            due.is("1 SLEEPER: in " + second, x.speaks(1, second), isAwake);
            due.is("1 SLEEPER: behind " + second, x.speaks(1, second + 1), 0);
        }
    }

    private static void handedAtTwiceItsNumber() {
        AwakeBoard x = new AwakeBoard();
        for (int n = 0; n < 14; n++) {
            x.name(HANDED, 5);
        }
        for (int n = 0; n < 14; n++) {
            due.is("1 HANDED: ahead of twice " + n, n == 0 ? 0 : x.speaks(n, 2 * n - 1), 0);
            due.is("1 HANDED: a GAP ahead of twice " + n, n < 3 ? 0 : x.speaks(n, 2 * n - 5), 0);
            due.is("1 HANDED: twice " + n, x.speaks(n, 2 * n), 1);
            due.is("1 HANDED: behind twice " + n, x.speaks(n, 2 * n + 1), 0);
            due.is("1 HANDED: a GAP behind twice " + n, x.speaks(n, 2 * n + 5), 1);
        }
        due.is("1 HANDED: in 0", x.speaks(13, 0), 0);
        x.change(13, GAP, 999);
        due.is("1 HANDED: first", x.next(13, 0), 26);
        due.is("1 HANDED: then", x.next(13, 27), 1025);
    }

    private static void clubbedBehindItsLeader() {
        AwakeBoard x = Due.quiet(2);
        x.name(CLUBBED, 999);
        x.shut(2, true);
        x.change(2, HOURS, 512);
        x.change(2, LEADER, 1);
        x.go(10);
        x.say(0, 0);
        due.is("1 CLUBBED: another one's WORD leads no one", x.speaks(2, 11), 0);
        x.say(1, 0);
        x.say(1, 0);
        x.say(0, 0);
        for (int second = 8; second <= 13; second++) {
            due.is("1 CLUBBED: in " + second, x.speaks(2, second), second == 11 ? 1 : 0);
        }
        x.change(2, LEADER, 0);
        due.is("1 CLUBBED: another LEADER", x.speaks(2, 11), 1);
        x.change(2, LEADER, -1);
        due.is("1 CLUBBED: no LEADER", x.speaks(2, 11), 0);
        due.is("1 CLUBBED: as a PERSON", x.speaks(2, 999), 1);
        due.is("1 CLUBBED: as a PERSON, out of HOURS", x.speaks(2, 0), 0);
        AwakeBoard y = Due.quiet(1);
        y.name(CLUBBED, 999);
        y.shut(1, true);
        y.change(1, HOURS, 512);
        y.go(3);
        y.say(1, 0);
        due.is("1 CLUBBED: without a LEADER its own WORD leads not", y.speaks(1, 4), 0);
    }

    private static void clubbedAtTheEnds() {
        AwakeBoard x = Due.quiet(1);
        x.name(CLUBBED, 999);
        x.shut(1, true);
        x.change(1, HOURS, 512);
        x.change(1, LEADER, 0);
        due.is("1 CLUBBED: nothing is ahead of 0", x.speaks(1, 0), 0);
        x.say(0, 0);
        due.is("1 CLUBBED: a WORD in 0 isn't ahead of it", x.speaks(1, 0), 0);
        due.is("1 CLUBBED: behind 0", x.speaks(1, 1), 1);
        Due.goTo(x, 29998);
        x.say(0, 0);
        due.is("1 CLUBBED: in 29999", x.speaks(1, 29999), 1);
        x.go(1);
        x.say(0, 0);
        due.is("1 CLUBBED: in 29999 still", x.speaks(1, 29999), 1);
        due.is("1 CLUBBED: in 29998", x.speaks(1, 29998), 0);
    }

    private static void lostWordsLeadNoOne() {
        AwakeBoard x = new AwakeBoard();
        x.name(0, 1);
        x.name(CLUBBED, 999);
        x.change(1, HOURS, 512);
        x.change(1, LEADER, 0);
        x.change(1, TOPIC, 5);
        x.go(300);
        due.is("1 WORDS are at most 200", x.count(2), 200);
        // The leader's first is in 0, then both speak in each second; the last for which there is room is its one in 100.
        due.is("1 the last WORD's SECOND", x.wordOf(199, 0), 100);
        due.is("1 CLUBBED: behind the last WORD of its LEADER", x.speaks(1, 101), 1);
        due.is("1 CLUBBED: a LOST WORD leads no one", x.speaks(1, 102), 0);
        due.is("1 LOST: 199 of the leader, and those behind it in 100 and 101", x.count(3), 199 + 2);
    }

    private static void tells() {
        for (int kind = 0; kind <= 7; kind++) {
            AwakeBoard x = one(kind, 1);
            x.go(1);
            due.is("1 kind " + kind + " TELLS its TOPIC at first", x.wordOf(0, 2), 0);
            AwakeBoard y = one(kind, 1);
            y.change(0, TOPIC, 9);
            y.go(1);
            due.is("1 kind " + kind + " TELLS its TOPIC", y.wordOf(0, 2), 9);
            due.is("1 kind " + kind + ": its second WORD", y.go(1) == 2 ? y.wordOf(1, 2) : -1, kind == STEADY ? 0 : 9);
        }
    }

    private static void steadyTells() {
        AwakeBoard x = one(STEADY, 1);
        for (int topic = 0; topic <= 9; topic++) {
            x.change(0, TOPIC, topic);
            int words = x.count(2);
            x.go(4);
            for (int i = 0; i < 4; i++) {
                int want = (topic + (words + i) % 3) % 10;
                due.is("1 STEADY: TOPIC " + topic + " and " + (words + i) + " WORDS", x.wordOf(words + i, 2), want);
            }
        }
        AwakeBoard y = new AwakeBoard();
        y.name(STEADY, 999);
        y.name(0, 999);
        y.go(1);
        y.say(1, 3);
        y.say(0, 3);
        Due.goTo(y, 1000);
        // Its words: in 0, by hand, and in 999; the other one's don't count.
        due.is("1 STEADY: how many WORDS it has itself", y.wordOf(4, 2), 2);
    }

    private static void clubbedTells() {
        AwakeBoard x = new AwakeBoard();
        x.name(CLUBBED, 1);
        x.name(0, 999);
        x.shut(1, true);
        x.change(0, TOPIC, 7);
        x.change(0, LEADER, 1);
        x.go(1);
        due.is("1 CLUBBED: its LEADER has no WORD", x.wordOf(0, 2), 7);
        x.say(1, 0);
        x.go(1);
        due.is("1 CLUBBED: what its LEADER's WORD tells, 0", x.wordOf(2, 2), 0);
        x.say(1, 4);
        x.say(1, 9);
        x.go(1);
        due.is("1 CLUBBED: what its LEADER's latest WORD tells", x.wordOf(5, 2), 9);
        x.change(0, LEADER, -1);
        x.go(1);
        due.is("1 CLUBBED: no LEADER", x.wordOf(6, 2), 7);
        x.change(0, LEADER, 1);
        Due.goTo(x, 100);
        due.is("1 CLUBBED: however long ago", x.wordOf(x.count(2) - 1, 2), 9);
        // By hand it tells what it is bidden.
        due.is("10 by hand it tells something else", x.wordOf(x.say(0, 2), 2), 2);
    }

    private static void follows() {
        for (int later = 0; later <= 12; later++) {
            AwakeBoard x = Due.quiet(2);
            x.say(0, 0);
            Due.goTo(x, later);
            x.say(1, 0);
            x.say(0, 0);
            boolean is = later >= 1 && later <= 9;
            due.is("1 FOLLOWS " + later + " SECONDS later", x.wordOf(1, 3), is ? 0 : -1);
            due.is("13 f of " + later, x.sign(1, 4), is ? 1 : 0);
            due.is("13 q of " + later, x.sign(1, 5), is ? later : 99);
            due.is("1 FOLLOWS: not its own, " + later, x.wordOf(2, 3), -1);
            due.is("12 BELOW " + later, x.below(0), is ? 1 : 0);
        }
    }

    private static void followsTheLatest() {
        AwakeBoard x = Due.quiet(3);
        x.say(0, 0);
        x.say(1, 0);
        x.go(1);
        x.say(2, 0);
        x.go(8);
        x.say(1, 0);
        x.say(2, 0);
        due.is("1 FOLLOWS: the latest in order, not of the same SECOND", x.wordOf(3, 3), 2);
        due.is("1 FOLLOWS: of another NAME, 9 SECONDS earlier", x.wordOf(4, 3), 1);
        x.say(0, 0);
        due.is("1 FOLLOWS: 8 SECONDS earlier", x.wordOf(5, 3), 2);
        x.go(1);
        x.say(2, 0);
        due.is("1 FOLLOWS: the latest in order of those of one SECOND", x.wordOf(6, 3), 5);
        due.is("1 FOLLOWS: the first WORD follows none", x.wordOf(0, 3), -1);
        due.is("1 FOLLOWS: the second one of SECOND 0 neither", x.wordOf(1, 3), -1);
    }

    private static void wordsAtMost() {
        AwakeBoard x = Due.quiet(1);
        for (int i = 0; i < 200; i++) {
            due.is("10 WORD " + i, x.say(0, i % 10), i);
        }
        due.is("10 FULL", x.say(0, 0), Due.FULL);
        due.is("46 WORDS", x.count(2), 200);
        due.is("46 by hand none is LOST", x.count(3), 0);
        due.is("11 the last one", x.wordOf(199, 2), 9);
        due.is("11 none behind it", x.wordOf(200, 2), Due.BEYOND);
    }

    private static void lostOnes() {
        AwakeBoard x = new AwakeBoard();
        for (int i = 0; i < 14; i++) {
            x.name(0, 1);
        }
        due.is("9 a second of 14 WORDS", x.go(14), 14);
        due.is("46 WORDS", x.count(2), 196);
        due.is("46 LOST", x.count(3), 0);
        x.go(1);
        due.is("46 WORDS", x.count(2), 200);
        due.is("46 LOST: the rest of that SECOND", x.count(3), 10);
        due.is("1 by numbers", x.wordOf(199, 1), 3);
        due.is("9 to the end", Due.goTo(x, 29999), 29999);
        due.is("46 LOST: all that came", x.count(3), 14 * 29999 - 200);
        x.shut(0, true);
        due.is("9 none is LOST by a finding", x.go(1), Due.STATE);
        due.is("46 LOST", x.count(3), 14 * 29999 - 200);
    }

    private static void eachSecondAsItGoesBy() {
        AwakeBoard x = new AwakeBoard();
        x.name(0, 2);
        x.name(0, 3);
        x.name(0, 1);
        x.shut(2, true);
        x.go(7);
        int[][] want = {{0, 0}, {0, 1}, {2, 0}, {3, 1}, {4, 0}, {6, 0}, {6, 1}};
        due.is("9 WORDS", x.count(2), want.length);
        for (int i = 0; i < want.length; i++) {
            due.is("9 SECOND of " + i, x.wordOf(i, 0), want[i][0]);
            due.is("9 NAME of " + i, x.wordOf(i, 1), want[i][1]);
        }
        AwakeBoard y = new AwakeBoard();
        due.is("9 a SECOND goes by without NAMES", y.go(1), 1);
        due.is("9 no WORDS", y.count(2), 0);
        y.name(0, 1);
        y.say(0, 3);
        y.go(1);
        due.is("9 WORDS by hand are ahead of those of the SECOND", y.wordOf(0, 2) * 10 + y.wordOf(1, 2), 30);
        due.is("9 both are of one SECOND", y.wordOf(0, 0) * 10 + y.wordOf(1, 0), 11);
    }

    private static void theLastSecond() {
        AwakeBoard x = one(0, 1);
        x.shut(0, true);
        Due.goTo(x, 29998);
        due.is("9 STATE: it would be 30000", x.go(2), Due.STATE);
        due.is("9 NOW stays", x.count(1), 29998);
        x.shut(0, false);
        due.is("9 29999", x.go(1), 29999);
        due.is("9 it went by", x.count(2), 1);
        due.is("10 a WORD in 29999", x.wordOf(x.say(0, 7), 0), 29999);
        due.is("14 HOUR 9", x.hours(0), 512);
        due.is("27 from 29999 on", x.club(29999, 99), 1);
        due.is("27 in 29998 alone", x.club(29998, 0), 1);
        due.is("27 till 29997", x.club(29900, 97), 0);
        due.is("8 in 29999", x.next(0, 29999), 29999);
    }

    private static void namesAtMost() {
        for (int kind = 0; kind <= 7; kind++) {
            AwakeBoard x = new AwakeBoard();
            for (int i = 0; i < 13; i++) {
                x.name(kind, 999);
            }
            due.is("2 the 14th of kind " + kind, x.name(kind, 1), 13);
            due.is("2 the 15th of kind " + kind, x.name(kind, 1), Due.FULL);
            due.is("46 NAMES", x.count(0), 14);
            due.is("3 GAP of the 14th", x.nameOf(13, GAP), 1);
            due.is("3 KIND of the 14th", x.nameOf(13, 0), kind);
        }
    }

    /** What each of 14 NAMES has is its own. */
    private static void traitsOfFourteen() {
        AwakeBoard x = new AwakeBoard();
        for (int i = 0; i < 14; i++) {
            x.name(i % 8, 100 + i);
        }
        for (int i = 0; i < 14; i++) {
            due.is("4 GAP was", x.change(i, GAP, 500 + i), 100 + i);
            due.is("4 HOURS were", x.change(i, HOURS, 1 + i), 1023);
            due.is("4 JITTER was", x.change(i, JITTER, 20 + i), 0);
            due.is("4 LEADER was", x.change(i, LEADER, (i + 1) % 14), -1);
            due.is("4 TOPIC was", x.change(i, TOPIC, i % 10), 0);
        }
        for (int i = 0; i < 14; i++) {
            int[] want = {i % 8, 500 + i, 1 + i, 20 + i, (i + 1) % 14, i % 10, 0};
            for (int what = 0; what <= 6; what++) {
                due.is("3 nameOf(" + i + ", " + what + ")", x.nameOf(i, what), want[what]);
            }
        }
    }

    private static void peopleObject() {
        AwakeBoard x = new AwakeBoard();
        int[] people = {PERSON, STEADY, CLUBBED};
        for (int i = 0; i < 14; i++) {
            x.name(people[i % 3], 5);
        }
        due.is("6 none is SHUT", x.object(), 0);
        for (int i = 0; i < 14; i++) {
            due.is("5 it wasn't", x.shut(i, true), 0);
            due.is("5 it was", x.shut(i, true), 1);
        }
        due.is("46 all are SHUT", x.count(6), 14);
        due.is("6 all object", x.object(), 14);
        due.is("46 none is SHUT", x.count(6), 0);
        AwakeBoard y = new AwakeBoard();
        int[] machines = {0, CLOCK, SLEEPER, HANDED, HALF};
        for (int i = 0; i < 14; i++) {
            y.name(machines[i % 5], 5);
            y.shut(i, true);
        }
        due.is("6 no PEOPLE", y.object(), 0);
        due.is("46 all stay SHUT", y.count(6), 14);
        due.is("5 open", y.shut(13, false), 1);
        due.is("46 SHUT", y.count(6), 13);
    }

    private static void nextInTwoThousand() {
        AwakeBoard x = one(0, 999);
        due.is("8 from 0", x.next(0, 0), 0);
        due.is("8 from 999", x.next(0, 999), 999);
        due.is("8 from 1000", x.next(0, 1000), 1998);
        due.is("8 the last one", x.next(0, 29970), 29970);
        due.is("8 none behind it", x.next(0, 29971), Due.NONE);
        due.is("8 none in 29999", x.next(0, 29999), Due.NONE);
        AwakeBoard y = one(PERSON, 667);
        y.change(0, HOURS, 1);
        // It speaks in 0, then in 2001 (667 is in HOUR 6, 1334 in 3), which is the 2000th from 2 on.
        due.is("8 the 2000th", y.next(0, 2), 2001);
        due.is("8 the 2001st isn't looked at", y.next(0, 1), Due.NONE);
    }

    /** Two names by turns, a second each: each WORD FOLLOWS the one ahead of it. */
    private static void belowAChain() {
        AwakeBoard x = Due.quiet(2);
        for (int i = 0; i < 200; i++) {
            x.say(i % 2, 0);
            x.go(1);
        }
        due.is("12 all are BELOW the first", x.below(0), 199);
        due.is("12 BELOW 1", x.below(1), 198);
        due.is("12 BELOW 198", x.below(198), 1);
        due.is("12 none is BELOW the last", x.below(199), 0);
        due.is("12 WORD 200", x.below(200), Due.BEYOND);
        due.is("13 f of 0", x.sign(0, 4), 99);
        due.is("13 f of 1", x.sign(1, 4), 100);
    }

    private static void signsOfFewWords() {
        AwakeBoard x = Due.quiet(1);
        int[][] want = {{0, 0, 0, 0, 0, 99, 0}, {1, 0, 0, 1, 0, 99, 1}, {2, 5, 5, 1, 0, 99, 1}, {3, 2, 0, 1, 0, 99, 2}};
        int[] gap = {0, 0, 5, 0};
        int[] topic = {0, 0, 0, 9};
        for (int words = 0; words < 4; words++) {
            if (words > 0) {
                Due.goTo(x, x.count(1) + gap[words]);
                x.say(0, topic[words]);
            }
            for (int what = 0; what <= 6; what++) {
                due.is("13 sign " + what + " of " + words + " WORDS", x.sign(0, what), want[words][what]);
            }
        }
        AwakeBoard far = Due.quiet(1);
        far.say(0, 0);
        Due.goTo(far, 29999);
        far.say(0, 0);
        due.is("13 the greatest g", far.sign(0, 1), 29999);
        due.is("13 the greatest l", far.sign(0, 2), 29999);
        AwakeBoard all = Due.quiet(1);
        for (int i = 0; i < 10; i++) {
            all.say(0, i);
            Due.goTo(all, 100 * (i + 1));
        }
        due.is("13 all HOURS", all.sign(0, 3), 10);
        due.is("13 all that can be told", all.sign(0, 6), 10);
    }

    private static void signsOfFollowing() {
        AwakeBoard x = Due.quiet(2);
        x.say(0, 0);
        x.go(9);
        x.say(1, 0);
        due.is("13 q 9", x.sign(1, 5), 9);
        x.go(2);
        x.say(0, 0);
        x.go(1);
        x.say(1, 0);
        due.is("13 q is the least", x.sign(1, 5), 1);
        due.is("13 q of the other one", x.sign(0, 5), 2);
        due.is("13 f counts its own", x.sign(1, 4), 2);
        due.is("13 f of the other one", x.sign(0, 4), 1);
        x.go(20);
        x.say(1, 0);
        due.is("13 f stays", x.sign(1, 4), 2);
        due.is("13 q stays", x.sign(1, 5), 1);
        due.is("13 g is cut", x.sign(1, 1), (3 + 20) / 2);
        due.is("13 l is the least", x.sign(1, 2), 3);
    }

    private static void hoursAsASet() {
        AwakeBoard x = Due.quiet(2);
        for (int hour = 0; hour < 10; hour++) {
            Due.goTo(x, 100 * hour);
            x.say(0, 0);
            due.is("14 from HOUR 0 to " + hour, x.hours(0), (2 << hour) - 1);
            Due.goTo(x, 100 * hour + 99);
            x.say(1, 0);
            due.is("14 at the end of HOUR " + hour, x.hours(1), (2 << hour) - 1);
        }
        Due.goTo(x, 1000);
        x.say(0, 0);
        due.is("14 HOUR 0 again", x.hours(0), 1023);
        due.is("13 10 HOURS", x.sign(0, 3), 10);
    }
}
