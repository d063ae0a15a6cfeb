/** What the document's Terms 3 say at their edges: together, groups, sold, draws, spots, sheets, images; and promises 24 to 47. */
public final class EdgesOfCountsTest {
    private static final Due due = new Due("EdgesOfCountsTest");
    private static final int ALL = (1 << 14) - 1;

    public static void main(String[] args) {
        togetherByT();
        togetherCountsTheOne();
        groupByN();
        groupByNinetyNine();
        groupsByOthersBetween();
        groupsEmptyAndFull();
        clubFromTo();
        apartFromNoneToAll();
        countsOfAllAndNone();
        mostOfSeveral();
        firstOfSeveral();
        manyIsCut();
        soldOfFew();
        soldAtItsEnds();
        drawsWrap();
        sampleOfAllKinds();
        tenSpots();
        bitsOfNumbers();
        numbersOfSheets();
        emptySheets();
        copyAsTheyAllWere();
        loadAtItsEnd();
        loadWithoutRoom();
        judgeAtItsEnds();
        imageOfNothing();
        imageOfAll();
        imageKeepsNoTape();
        tornImages();
        countsAtTheirMost();
        statusOfEach();
        due.end();
    }

    private static void togetherByT() {
        for (int off : new int[] {0, 1, 2, 98, 99, 100}) {
            AwakeBoard x = Due.quiet(2);
            x.say(0, 0);
            Due.goTo(x, off);
            x.say(1, 0);
            for (int t : new int[] {0, 1, 2, 97, 98, 99}) {
                int want = off <= t ? 1 : 0;
                due.is("24 later by " + off + ", t " + t, x.together(0, 1, t), want);
                due.is("24 earlier by " + off + ", t " + t, x.together(1, 0, t), want);
                due.is("25 later by " + off + ", t " + t, x.group(1, t, 1, 0), 1 - want);
                due.is("26 later by " + off + ", t " + t, x.groups(t, 1), 2 - want);
            }
        }
    }

    private static void togetherCountsTheOne() {
        AwakeBoard x = Due.quiet(3);
        for (int i = 0; i < 3; i++) {
            x.say(0, 0);
        }
        x.say(1, 0);
        due.is("24 three WORDS of the one", x.together(0, 1, 0), 3);
        due.is("24 one WORD of the other", x.together(1, 0, 0), 1);
        due.is("24 none of a silent one", x.together(2, 0, 99), 0);
        due.is("24 none with a silent one", x.together(0, 2, 99), 0);
        due.is("24 both silent", Due.quiet(2).together(0, 1, 99), 0);
        Due.goTo(x, 29999);
        x.say(0, 0);
        x.say(2, 0);
        due.is("24 at the end", x.together(2, 0, 99), 1);
        due.is("24 at the end, of four", x.together(0, 2, 99), 1);
    }

    private static void groupByN() {
        AwakeBoard x = Due.quiet(2);
        x.say(1, 0);
        for (int n = 1; n <= 5; n++) {
            x.say(0, 0);
            // The one has n WORDS together with the other one, which has one.
            due.is("25 just n", x.group(1, 0, n, 0), 0);
            due.is("25 n and one more", x.group(1, 0, n + 1, 0), 1);
            due.is("25 a set", x.group(0, 0, n, 2), 3);
            due.is("25 a set of one", x.group(0, 0, n + 1, 2), 1);
            due.is("25 how many", x.group(0, 0, n, 1) * 10 + x.group(0, 0, n + 1, 1), 21);
            due.is("26 GROUPS", x.groups(0, n) * 10 + x.groups(0, n + 1), 12);
        }
    }

    private static void groupByNinetyNine() {
        AwakeBoard x = Due.quiet(2);
        x.say(0, 0);
        for (int i = 0; i < 98; i++) {
            x.say(1, 0);
        }
        due.is("25 by 98", x.group(1, 0, 98, 0), 0);
        due.is("25 by 99 not", x.group(1, 0, 99, 0), 1);
        x.say(1, 0);
        due.is("25 by 99", x.group(1, 0, 99, 0), 0);
        due.is("26 by 99", x.groups(99, 99), 1);
    }

    /** 13 with 12, 12 with 11, and so on to 0: each two have a second of their own. */
    private static void groupsByOthersBetween() {
        AwakeBoard x = Due.quiet(14);
        for (int i = 13; i > 0; i--) {
            x.say(i, 0);
            x.say(i - 1, 0);
            x.go(101);
            due.is("26 GROUPS, joined down to " + (i - 1), x.groups(0, 1), i);
            due.is("25 the least of 13's", x.group(13, 0, 1, 0), i - 1);
            due.is("25 how many are in it", x.group(13, 0, 1, 1), 15 - i);
            due.is("25 0 is by itself yet", x.group(0, 0, 1, 2), i == 1 ? ALL : 1);
        }
        due.is("25 by 2 none is joined", x.group(7, 0, 2, 2), 1 << 7);
        due.is("26 by 2 none is joined", x.groups(0, 2), 14);
        due.is("26 by 99 SECONDS still none", x.groups(99, 2), 14);
    }

    private static void groupsEmptyAndFull() {
        due.is("26 no NAMES", new AwakeBoard().groups(99, 1), 0);
        due.is("26 one NAME", Due.quiet(1).groups(0, 1), 1);
        due.is("25 one NAME", Due.quiet(1).group(0, 0, 1, 2), 1);
        AwakeBoard x = Due.quiet(14);
        due.is("26 silent ones are by themselves", x.groups(99, 1), 14);
        for (int i = 0; i < 14; i++) {
            x.say(i, 0);
        }
        for (int i = 0; i < 14; i++) {
            due.is("25 all in one", x.group(i, 0, 1, 2), ALL);
            due.is("25 14 of them", x.group(i, 0, 1, 1), 14);
            due.is("25 the least", x.group(i, 0, 1, 0), 0);
        }
        due.is("26 one", x.groups(0, 1), 1);
    }

    private static void clubFromTo() {
        AwakeBoard x = Due.quiet(3);
        Due.goTo(x, 500);
        x.say(1, 0);
        Due.goTo(x, 599);
        x.say(2, 0);
        int[][] cases = {{499, 0, 0}, {500, 0, 2}, {501, 0, 0}, {499, 1, 2}, {401, 98, 0}, {401, 99, 2}, {400, 99, 0},
            {500, 98, 2}, {500, 99, 6}, {501, 98, 4}, {599, 0, 4}, {600, 99, 0}, {0, 99, 0}};
        for (int[] one : cases) {
            due.is("27 club(" + one[0] + ", " + one[1] + ")", x.club(one[0], one[1]), one[2]);
        }
        due.is("27 an empty board", Due.quiet(1).club(0, 99), 0);
        AwakeBoard y = Due.quiet(14);
        for (int i = 0; i < 14; i++) {
            y.say(i, 0);
        }
        due.is("27 all in 0", y.club(0, 0), ALL);
        due.is("27 none from 1 on", y.club(1, 99), 0);
    }

    private static void apartFromNoneToAll() {
        AwakeBoard x = Due.quiet(3);
        due.is("28 both silent", x.apart(0, 1), 0);
        for (int hour = 0; hour < 10; hour++) {
            Due.goTo(x, 100 * hour);
            x.say(0, 0);
            due.is("28 only one", x.apart(0, 2), hour + 1);
            due.is("28 only the other", x.apart(2, 0), hour + 1);
            Due.goTo(x, 100 * hour + 99);
            due.is("28 this HOUR", x.apart(0, 1), 1);
            x.say(1, 0);
            due.is("28 both", x.apart(0, 1), 0);
        }
    }

    private static void countsOfAllAndNone() {
        AwakeBoard x = Due.quiet(14);
        due.is("29 no WORDS", x.counts(-1, 0), 0);
        due.is("29 no WORDS, without all", x.counts(-1, ALL), 0);
        for (int i = 0; i < 200; i++) {
            x.say(i % 14, i % 10);
        }
        due.is("29 anything", x.counts(-1, 0), 200);
        due.is("29 0", x.counts(0, 0), 20);
        due.is("29 9", x.counts(9, 0), 20);
        due.is("29 anything, without 0", x.counts(-1, 1), 185);
        due.is("29 anything, without 13", x.counts(-1, 1 << 13), 186);
        due.is("29 anything, without all but 13", x.counts(-1, ALL >> 1), 14);
        due.is("29 anything, without all", x.counts(-1, ALL), 0);
        due.is("29 0, without all", x.counts(0, ALL), 0);
        due.is("29 without no NAMES there are", new AwakeBoard().counts(-1, 0), 0);
        due.is("29 a set of no such NAME", new AwakeBoard().counts(-1, 1), Due.BEYOND);
        due.is("29 a set with a NAME and none such", Due.quiet(1).counts(-1, 3), Due.BEYOND);
        due.is("30 a set with a NAME and none such", Due.quiet(1).most(3), Due.BEYOND);
    }

    private static void mostOfSeveral() {
        AwakeBoard x = Due.quiet(2);
        due.is("30 no WORDS", x.most(0), Due.NONE);
        for (int topic = 9; topic >= 0; topic--) {
            x.say(0, topic);
            due.is("30 of several the least", x.most(0), topic);
        }
        x.say(0, 9);
        due.is("30 two of 9", x.most(0), 9);
        x.say(1, 3);
        due.is("30 two of 3 and of 9", x.most(0), 3);
        due.is("30 without the other one", x.most(2), 9);
        due.is("30 without the one", x.most(1), 3);
        due.is("30 without all", x.most(3), Due.NONE);
    }

    private static void firstOfSeveral() {
        AwakeBoard x = Due.quiet(1);
        for (int topic = 0; topic <= 9; topic++) {
            due.is("31 none yet tells " + topic, x.first(topic), Due.NONE);
            x.say(0, topic);
            x.say(0, topic);
            due.is("31 the first one", x.first(topic), 2 * topic);
        }
        due.is("31 0 still", x.first(0), 0);
        AwakeBoard y = Due.quiet(1);
        for (int i = 0; i < 200; i++) {
            y.say(0, i == 199 ? 8 : 1);
        }
        due.is("31 the last WORD", y.first(8), 199);
    }

    private static void manyIsCut() {
        AwakeBoard x = Due.quiet(14);
        due.is("32 all by all", x.many(ALL, ALL), 14);
        due.is("32 all by one", x.many(ALL, 1 << 13), 14);
        due.is("32 one by itself", x.many(1, 1), 1);
        due.is("32 13 by 13, 12 in both", x.many(ALL >> 1, ALL & ~1), 169 / 12);
        due.is("32 7 by 8, one in both", x.many(127, ALL & ~63), 56);
        due.is("32 3 by 3, 2 in both", x.many(7, 14), 4);
        due.is("32 5 by 3, 2 in both", x.many(31, 56), 7);
        due.is("32 none in both", x.many(127, ALL & ~127), Due.NONE);
        due.is("32 an empty one", x.many(0, ALL), Due.NONE);
        due.is("32 both empty", x.many(0, 0), Due.NONE);
    }

    private static void soldOfFew() {
        AwakeBoard x = Due.quiet(2);
        due.is("33 no WORD", x.sold(0), Due.NONE);
        x.say(0, 0);
        due.is("33 one WORD", x.sold(0), Due.NONE);
        x.say(1, 0);
        due.is("33 one WORD of each", x.sold(0), Due.NONE);
        x.say(0, 0);
        due.is("33 two WORDS", x.sold(0), 1);
        due.is("33 the other one has one", x.sold(1), Due.NONE);
    }

    private static void soldAtItsEnds() {
        AwakeBoard x = Due.quiet(1);
        for (int i = 0; i < 199; i++) {
            x.say(0, 0);
        }
        Due.goTo(x, 900);
        x.say(0, 0);
        due.is("33 the last place", x.sold(0), 199);
        AwakeBoard y = Due.quiet(1);
        Due.goTo(y, 900);
        y.say(0, 0);
        Due.goTo(y, 1000);
        for (int i = 0; i < 199; i++) {
            y.say(0, 0);
        }
        due.is("33 the first place", y.sold(0), 1);
        AwakeBoard z = Due.quiet(1);
        Due.goTo(z, 900);
        for (int i = 0; i < 200; i++) {
            z.say(0, 0);
        }
        due.is("33 all alike, in HOUR 9", z.sold(0), 1);
        AwakeBoard zero = Due.quiet(1);
        for (int i = 0; i < 200; i++) {
            zero.say(0, 0);
        }
        due.is("33 all alike, in HOUR 0", zero.sold(0), 1);
    }

    private static void drawsWrap() {
        AwakeBoard x = Due.quiet(1);
        int z = 1;
        for (int i = 0; i < 40; i++) {
            due.is("35 one draw", x.sample(1), 1);
            z = (int) (z * 1103515245L + 12345L);
            due.is("46 z is an int", x.count(8), z);
        }
        for (int seed : new int[] {0, -1, Due.LEAST, Due.MOST}) {
            x.seed(seed);
            x.sample(99);
            long far = seed;
            for (int i = 0; i < 99; i++) {
                far = (int) (far * 1103515245L + 12345L);
            }
            due.is("46 z after 99 draws from " + seed, x.count(8), far);
            due.is("34 what it was", x.seed(1), far);
        }
    }

    /** Each draw gives z >>> 8, which is never below 0, and the NAME is its rest by how many there are. */
    private static void sampleOfAllKinds() {
        boolean[] isPeople = {false, true, false, true, false, false, true, false};
        for (int names = 1; names <= 14; names++) {
            AwakeBoard x = new AwakeBoard();
            for (int i = 0; i < names; i++) {
                x.name(i % 8, 5);
            }
            for (int seed : new int[] {1, 2, -3, 123456789, Due.LEAST}) {
                x.seed(seed);
                int z = seed;
                for (int i = 0; i < 6; i++) {
                    z = z * 1103515245 + 12345;
                    int name = (int) ((z & 0xffffffffL) / 256 % names);
                    due.is("35 draw " + i + " of " + names + " from " + seed, x.sample(1), isPeople[name % 8] ? 0 : 1);
                }
            }
        }
    }

    private static void tenSpots() {
        AwakeBoard x = Due.quiet(14);
        for (int spot = 0; spot <= 9; spot++) {
            due.is("37 nothing at first", x.as(spot, 0), Due.MISSING);
            due.is("36 nothing instead of nothing", x.hold(spot, -1), 1);
            due.is("36 a NAME", x.hold(spot, 13 - spot), 1);
        }
        for (int spot = 0; spot <= 9; spot++) {
            due.is("37 its own", x.as(spot, 0), 13 - spot);
        }
        due.is("36 the same NAME", x.hold(0, 4), 1);
        due.is("37 held twice", x.as(0, 0) * 100 + x.as(9, 0), 404);
        due.is("36 another one instead", x.hold(0, 0), 1);
        due.is("37 NAME 0", x.as(0, 0), 0);
        due.is("36 nothing instead", x.hold(0, -1), 1);
        due.is("37 nothing", x.as(0, 0), Due.MISSING);
        due.is("37 the next one stays", x.as(1, 0), 12);
    }

    /** Whether a number that is written is told again as `want`, a NAME: THE READER finds it right. */
    private static void isTold(int bits, int v, int want) {
        AwakeBoard x = Due.quiet(14);
        x.sheet(3, bits, 1);
        x.write(3, 0, v);
        x.say(Math.max(want, 0), 0);
        due.is("39 " + v + " of " + bits + " bits", x.judge(3), want < 0 ? 1 : 0);
    }

    private static void bitsOfNumbers() {
        for (int bits : new int[] {8, 16, 32}) {
            isTold(bits, 13, 13);
            isTold(bits, 0, 0);
            isTold(bits, -1, -1);
            isTold(bits, Due.MOST, -1);
            isTold(bits, Due.LEAST, bits == 32 ? -1 : 0);
        }
        isTold(8, 256 + 13, 13);
        isTold(8, -256, 0);
        isTold(8, -243, 13);
        isTold(8, 255, -1);
        isTold(8, 128, -1);
        isTold(8, 65536 + 7, 7);
        isTold(16, 256 + 13, -1);
        isTold(16, 65536 + 13, 13);
        isTold(16, -65536 + 5, 5);
        isTold(16, 65535, -1);
        isTold(16, 32768, -1);
        isTold(16, 32768 * 2, 0);
        isTold(32, 65536 + 13, -1);
        isTold(32, 256, -1);
        isTold(32, 65536, -1);
    }

    private static void numbersOfSheets() {
        for (int bits : new int[] {8, 16, 32}) {
            AwakeBoard x = Due.quiet(14);
            for (int s = 0; s < 4; s++) {
                due.is("38 40 numbers", x.sheet(s, bits, 40), 40);
                due.is("39 the last one", x.write(s, 39, s + 1), 1);
                due.is("39 none behind it", x.write(s, 40, 1), Due.BEYOND);
            }
            for (int i = 0; i < 39; i++) {
                x.say(0, 0);
            }
            for (int s = 0; s < 4; s++) {
                due.is("42 all 0 but the last", x.judge(s), 40);
            }
            x.say(3, 0);
            for (int s = 0; s < 4; s++) {
                due.is("42 each its own", x.judge(s), s == 2 ? 0 : 40);
            }
            due.is("38 made anew", x.sheet(2, bits, 40), 40);
            due.is("38 all 0", x.judge(2), 40);
        }
    }

    private static void emptySheets() {
        AwakeBoard x = Due.quiet(2);
        for (int bits : new int[] {8, 16, 32}) {
            due.is("38 no numbers", x.sheet(0, bits, 0), 0);
            due.is("39 no number 0", x.write(0, 0, 0), Due.BEYOND);
            due.is("41 nothing", x.load(0), 0);
            due.is("42 nothing", x.judge(0), 0);
            due.is("40 nothing to itself", x.copy(0, 0, 0, 0, 0), 0);
            due.is("40 one too many", x.copy(0, 0, 0, 0, 1), Due.BEYOND);
        }
        due.is("38 MISSING, told as 0", x.sheet(0, 0, 40), 0);
        due.is("38 MISSING again", x.sheet(0, 0, 0), 0);
        due.is("39 MISSING", x.write(0, 0, 0), Due.MISSING);
        due.is("40 MISSING", x.copy(0, 0, 0, 0, 0), Due.MISSING);
        due.is("41 MISSING", x.load(0), Due.MISSING);
        due.is("42 MISSING", x.judge(0), Due.MISSING);
        x.sheet(1, 8, 4);
        due.is("40 from a MISSING one", x.copy(0, 0, 1, 0, 0), Due.MISSING);
        due.is("40 to a MISSING one", x.copy(1, 0, 0, 0, 0), Due.MISSING);
    }

    /** Numbers 0, 1, .. in a sheet of 14; then n of them come from one place to another. */
    private static void copyAsTheyAllWere() {
        for (int from = 0; from <= 14; from += 2) {
            for (int to = 0; to <= 14; to++) {
                int n = 14 - Math.max(from, to);
                AwakeBoard x = Due.quiet(14);
                x.sheet(0, 16, 14);
                for (int i = 0; i < 14; i++) {
                    x.write(0, i, i);
                }
                due.is("40 one more", x.copy(0, from, 0, to, n + 1), Due.BEYOND);
                due.is("40 from " + from + " to " + to, x.copy(0, from, 0, to, n), n);
                for (int i = 0; i < 14; i++) {
                    x.say(i >= to && i < to + n ? from + i - to : i, 0);
                }
                due.is("40 from " + from + " to " + to + ", as they all were", x.judge(0), 0);
            }
        }
    }

    private static void loadAtItsEnd() {
        for (int n = 0; n <= 40; n++) {
            AwakeBoard x = Due.quiet(1);
            x.sheet(0, 8, n);
            due.is("41 of " + n + " numbers", x.load(0), n / 2);
            due.is("46 WORDS", x.count(2), n / 2);
        }
        int[][] wrong = {{0, -1}, {0, 14}, {1, -1}, {1, 10}, {0, 127}, {1, 127}};
        for (int[] one : wrong) {
            for (int pair = 0; pair < 4; pair++) {
                AwakeBoard x = Due.quiet(14);
                x.sheet(0, 8, 8);
                x.write(0, 2 * pair + one[0], one[1]);
                due.is("41 it ends at " + one[1], x.load(0), pair);
                due.is("46 WORDS", x.count(2), pair);
                due.is("47 that is no finding", x.status(-1), 0);
            }
        }
        AwakeBoard x = Due.quiet(14);
        x.sheet(0, 8, 4);
        x.write(0, 0, 13);
        x.write(0, 1, 9);
        x.go(5);
        due.is("41 the last NAME, the last TOPIC", x.load(0), 2);
        due.is("11 of WORD 0", x.wordOf(0, 0) * 1000 + x.wordOf(0, 1) * 10 + x.wordOf(0, 2), 5139);
        due.is("41 without NAMES", sheetAlone().load(0), 0);
    }

    private static AwakeBoard sheetAlone() {
        AwakeBoard x = new AwakeBoard();
        x.sheet(0, 8, 4);
        return x;
    }

    private static void loadWithoutRoom() {
        for (int words = 196; words <= 200; words++) {
            AwakeBoard x = Due.quiet(1);
            for (int i = 0; i < words; i++) {
                x.say(0, 0);
            }
            x.sheet(0, 8, 6);
            due.is("41 behind " + words + " WORDS", x.load(0), Math.min(3, 200 - words));
            due.is("46 WORDS", x.count(2), Math.min(200, words + 3));
            due.is("46 none is LOST", x.count(3), 0);
            due.is("47 that is no finding", x.status(-1), 0);
        }
    }

    private static void judgeAtItsEnds() {
        for (int words = 0; words <= 4; words++) {
            for (int numbers = 0; numbers <= 4; numbers++) {
                AwakeBoard x = Due.quiet(5);
                x.sheet(0, 8, numbers);
                for (int i = 0; i < words; i++) {
                    x.say(i + 1, 0);
                }
                for (int i = 0; i < numbers; i++) {
                    x.write(0, i, i + 1);
                }
                int want = words == numbers ? 0 : Math.min(words, numbers) + 1;
                due.is("42 " + numbers + " numbers of " + words + " WORDS", x.judge(0), want);
                for (int i = 0; i < Math.min(words, numbers); i++) {
                    x.write(0, i, 0);
                    due.is("42 number " + i + " is wrong", x.judge(0), i + 1);
                    x.write(0, i, i + 1);
                }
            }
        }
    }

    private static void imageOfNothing() {
        AwakeBoard x = new AwakeBoard();
        due.is("43 a new one", x.image(), 1);
        x.name(0, 1);
        x.go(300);
        Due.text(x, "w");
        x.asked(0);
        x.shut(0, true);
        x.hold(5, 0);
        x.seed(9);
        due.is("44 NOW", x.undo(), 0);
        int[] want = {0, 0, 0, 0, 0, 0, 0, 0, 1};
        for (int what = 0; what <= 8; what++) {
            due.is("46 count(" + what + ")", x.count(what), want[what]);
        }
        due.is("37 SPOT 5", x.as(5, 0), Due.MISSING);
        due.is("44 again", x.undo(), 0);
    }

    private static void imageOfAll() {
        AwakeBoard x = new AwakeBoard();
        for (int i = 0; i < 14; i++) {
            x.name(0, 1);
            x.asked(i);
            x.hold(i % 10, i);
        }
        for (int i = 0; i < 6; i++) {
            Due.text(x, "w+" + i);
        }
        x.go(20);
        x.shutAll(0, 0);
        x.seed(Due.LEAST);
        due.is("43 image", x.image(), 1);
        int[] before = new int[9];
        for (int what = 0; what <= 8; what++) {
            before[what] = x.count(what);
        }
        Due.goTo(x, 29999);
        x.seed(4);
        for (int i = 0; i < 14; i++) {
            x.shut(i, false);
            x.change(i, 5, 9);
            x.hold(i % 10, -1);
        }
        due.is("44 undo", x.undo(), 20);
        for (int what = 0; what <= 8; what++) {
            due.is("46 count(" + what + ")", x.count(what), before[what]);
        }
        for (int i = 0; i < 14; i++) {
            due.is("44 TOPIC", x.nameOf(i, 5), 0);
            due.is("44 SPOT", x.as(i % 10, 0), i < 4 ? i + 10 : i);
            due.is("44 SCORE", x.score(5, i), x.sign(i, 0) + 5);
        }
        due.is("44 WORD 199", x.wordOf(199, 0) * 100 + x.wordOf(199, 1), 1403);
    }

    private static void imageKeepsNoTape() {
        AwakeBoard x = Due.quiet(3);
        x.feed('1', 1);
        x.sheet(0, 8, 3);
        x.write(0, 0, 2);
        x.image();
        x.wipe();
        Due.feed(x, "23");
        x.sheet(1, 16, 2);
        x.write(0, 0, 1);
        x.say(1, 0);
        x.undo();
        due.is("44 THE TAPE stays as it is", x.count(5), 2);
        due.is("44 SHEET 1 stays as it is", x.write(1, 1, 0), 1);
        x.say(1, 0);
        due.is("44 SHEET 0 stays as it is", x.judge(0), 2);
        due.is("17 the TEXT of THE TAPE", x.text(), 0);
        due.is("18 it is 23", x.score(0, 0), 23);
        x.undo();
        due.is("44 the TEXT is undone", x.count(4), 0);
        due.is("44 THE TAPE stays empty", x.count(5), 0);
    }

    private static void tornImages() {
        AwakeBoard x = Due.quiet(1);
        due.is("45 nothing", x.tear(), 0);
        due.is("44 NONE", x.undo(), Due.NONE);
        x.image();
        x.go(5);
        x.image();
        x.go(5);
        due.is("44 the latest", x.undo(), 5);
        due.is("44 it stays", x.undo(), 5);
        due.is("45 something", x.tear(), 1);
        due.is("44 the one ahead of it isn't kept either", x.undo(), Due.NONE);
        due.is("45 nothing", x.tear(), 0);
        due.is("46 NOW stays", x.count(1), 5);
    }

    private static void countsAtTheirMost() {
        AwakeBoard x = new AwakeBoard();
        for (int i = 0; i < 14; i++) {
            x.name(0, 1);
            x.asked(i);
        }
        for (int i = 0; i < 6; i++) {
            Due.text(x, "w");
        }
        for (int i = 0; i < 20; i++) {
            x.feed(0, 4);
        }
        Due.goTo(x, 29999);
        for (int i = 0; i < 14; i++) {
            x.shut(i, true);
        }
        x.seed(Due.LEAST);
        int[] want = {14, 29999, 200, 14 * 29999 - 200, 6, 80, 14, 14, Due.LEAST};
        for (int what = 0; what <= 8; what++) {
            due.is("46 count(" + what + ")", x.count(what), want[what]);
        }
        x.seed(Due.MOST);
        due.is("46 z", x.count(8), Due.MOST);
    }

    private static void statusOfEach() {
        AwakeBoard x = Due.quiet(1);
        x.hold(0, 0);
        for (int n = 1; n <= 30; n++) {
            due.is("47 BEYOND", x.go(0), Due.BEYOND);
            due.is("47 KIND", x.as(0, 7), Due.KIND);
            due.is("47 SIZE", x.sheet(0, 8, -n), Due.SIZE);
            for (int which = 0; which <= 6; which++) {
                boolean isTold = which == 0 || which == 2 || which == 6;
                due.is("47 status(" + which + ")", x.status(which), isTold ? n : 0);
            }
            due.is("47 all", x.status(-1), 3 * n);
        }
        x.image();
        x.go(0);
        x.undo();
        due.is("47 undo() takes none back", x.status(-1), 91);
        for (int z : new int[] {Due.BEYOND, Due.FULL, Due.KIND, Due.NONE, Due.STATE, Due.MISSING, Due.SIZE, Due.LEAST}) {
            x.seed(z);
            due.is("46 z", x.count(8), z);
            due.is("34 z", x.seed(0), z);
        }
        due.is("47 z is no finding", x.status(-1), 91);
    }
}
