/** Promises 29 to 35: counts and draws. */
public final class CountsTest {
    private static final Due due = new Due("CountsTest");

    public static void main(String[] args) {
        counts();
        most();
        first();
        many();
        sold();
        soldExactly();
        seed();
        sample();
        due.end();
    }

    /** Names 0, 1, 2; told: 0: 5, 5, 7; 1: 7, 7, 7; 2: 2. */
    private static AwakeBoard three() {
        AwakeBoard x = new AwakeBoard();
        for (int i = 0; i < 3; i++) {
            x.name(0, 999);
            x.shut(i, true);
        }
        int[][] words = {{0, 5}, {0, 5}, {1, 7}, {0, 7}, {1, 7}, {2, 2}, {1, 7}};
        for (int[] word : words) {
            x.say(word[0], word[1]);
        }
        return x;
    }

    private static void counts() {
        AwakeBoard x = three();
        due.is("29 all", x.counts(-1, 0), 7);
        due.is("29 7", x.counts(7, 0), 4);
        due.is("29 7 without 1", x.counts(7, 2), 1);
        due.is("29 all without 0 and 2", x.counts(-1, 5), 3);
        due.is("29 without all", x.counts(-1, 7), 0);
        due.is("29 never told", x.counts(0, 0), 0);
        due.is("29 topic 9", x.counts(9, 0), 0);
        due.is("29 topic 10", x.counts(10, 0), Due.BEYOND);
        due.is("29 topic -2", x.counts(-2, 0), Due.BEYOND);
        due.is("29 no such name", x.counts(-1, 8), Due.BEYOND);
        due.is("29 set -1", x.counts(-1, -1), Due.BEYOND);
        due.is("29 set least", x.counts(-1, Due.LEAST), Due.BEYOND);
        due.is("29 no names", new AwakeBoard().counts(0, 1), Due.BEYOND);
    }

    private static void most() {
        AwakeBoard x = three();
        due.is("30 all", x.most(0), 7);
        due.is("30 without 1", x.most(2), 5);
        due.is("30 without 0 and 1", x.most(3), 2);
        due.is("30 without all", x.most(7), Due.NONE);
        due.is("30 no such name", x.most(8), Due.BEYOND);
        due.is("30 set -1", x.most(-1), Due.BEYOND);
        due.is("30 no words", new AwakeBoard().most(0), Due.NONE);
        AwakeBoard y = new AwakeBoard();
        y.name(0, 999);
        y.say(0, 9);
        y.say(0, 4);
        due.is("30 the least of two", y.most(0), 4);
        y.say(0, 9);
        due.is("30 the last topic", y.most(0), 9);
        AwakeBoard z = new AwakeBoard();
        z.name(0, 999);
        z.say(0, 0);
        due.is("30 topic 0", z.most(0), 0);
    }

    private static void first() {
        AwakeBoard x = three();
        due.is("31 5", x.first(5), 0);
        due.is("31 7", x.first(7), 2);
        due.is("31 2", x.first(2), 5);
        due.is("31 9", x.first(9), Due.NONE);
        due.is("31 10", x.first(10), Due.BEYOND);
        due.is("31 -1", x.first(-1), Due.BEYOND);
    }

    private static void many() {
        AwakeBoard x = new AwakeBoard();
        due.is("32 nobody", x.many(0, 0), Due.NONE);
        due.is("32 no such name", x.many(1, 1), Due.BEYOND);
        for (int i = 0; i < 5; i++) {
            x.name(0, 1);
        }
        due.is("32 3 by 3 by 1", x.many(7, 28), 9);
        due.is("32 cut", x.many(7, 30), 6);
        due.is("32 3 by 3 by 2", x.many(7, 14), 4);
        due.is("32 all", x.many(31, 31), 5);
        due.is("32 none in both", x.many(3, 12), Due.NONE);
        due.is("32 an empty catch", x.many(0, 31), Due.NONE);
        due.is("32 a 32", x.many(32, 1), Due.BEYOND);
        due.is("32 b 32", x.many(1, 32), Due.BEYOND);
        due.is("32 beyond ahead of none", x.many(0, 32), Due.BEYOND);
        due.is("32 a -1", x.many(-1, 1), Due.BEYOND);
        due.is("32 b -1", x.many(1, -1), Due.BEYOND);
    }

    /** Name 0 says a word in each of these hours, day by day; name 1 does so 3 hours later at most. */
    private static AwakeBoard inHours(int... hours) {
        AwakeBoard x = new AwakeBoard();
        x.name(0, 999);
        x.name(0, 999);
        x.shut(0, true);
        x.shut(1, true);
        int now = 0;
        for (int day = 0; day < hours.length; day++) {
            int then = 1000 * day + 100 * hours[day] + 5;
            for (int step = 0; now < then && step < 9; step++) {
                now = x.go(Math.min(then - now, 999));
            }
            x.say(0, day % 10);
            now = x.go(hours[day] < 7 ? 300 : 1);
            x.say(1, 0);
        }
        return x;
    }

    private static void sold() {
        due.is("33 from 1 to 8", inHours(1, 1, 1, 8, 8).sold(0), 3);
        due.is("33 from 8 to 1", inHours(8, 1, 1, 1, 1).sold(0), 1);
        due.is("33 at the end", inHours(2, 2, 2, 2, 9).sold(0), 4);
        due.is("33 of the same the least", inHours(3, 3, 3, 3).sold(0), 1);
        due.is("33 two", inHours(0, 0).sold(0), 1);
        due.is("33 one", inHours(4).sold(0), Due.NONE);
        due.is("33 none", inHours().sold(0), Due.NONE);
        AwakeBoard x = inHours(1, 2);
        due.is("33 name 2", x.sold(2), Due.BEYOND);
        due.is("33 name -1", x.sold(-1), Due.BEYOND);
        due.is("33 no finding else", x.status(-1), 2);
    }

    private static void soldExactly() {
        // 2, 0, 0, 1: k = 1: 4 + 1/3; k = 2: 2 + 1/2; k = 3: 4/3 + 1.
        due.is("33 the first", inHours(2, 0, 0, 1).sold(0), 1);
        // 1, 0, 1, 1: k = 1: 1 + 4/3; k = 2: 1/2 + 2, which is more; cut, both would tell 2.
        due.is("33 cut it would be 1", inHours(1, 0, 1, 1).sold(0), 2);
        // 0, 1, 0: k = 1: 1/2; k = 2: 1/2.
        due.is("33 two alike", inHours(0, 1, 0).sold(0), 1);
        // Name 1 has words in hours 9, 4, 4: k = 1: 81 + 32; k = 2: 169/2 + 16. Name 0 in 6, 1, 1.
        due.is("33 of the other one", inHours(6, 1, 1).sold(1), 1);
        // Name 0 in 0, 3, 6, 7: k = 2: 9/2 + 169/2; name 1 in 3, 6, 9, 7: k = 1: 9 + 484/3.
        due.is("33 its own words", inHours(0, 3, 6, 7).sold(1), 1);
        due.is("33 its own words", inHours(0, 3, 6, 7).sold(0), 2);
    }

    private static void seed() {
        AwakeBoard x = new AwakeBoard();
        due.is("34 at first", x.seed(7), 1);
        due.is("34 then", x.seed(Due.LEAST), 7);
        due.is("34 any", x.seed(Due.BEYOND), Due.LEAST);
        due.is("34 like a finding", x.seed(-5), Due.BEYOND);
        due.is("34 count", x.count(8), -5);
        due.is("34 no finding", x.status(-1), 0);
    }

    private static void sample() {
        AwakeBoard x = new AwakeBoard();
        due.is("35 nobody", x.sample(1), Due.NONE);
        due.is("35 beyond ahead of none", x.sample(100), Due.BEYOND);
        due.is("35 z stays", x.count(8), 1);
        int[] kinds = {1, 0, 3, 2, 6, 4, 5};
        for (int kind : kinds) {
            x.name(kind, 5);
        }
        due.is("35 n 0", x.sample(0), Due.BEYOND);
        due.is("35 n 100", x.sample(100), Due.BEYOND);
        due.is("35 z stays", x.count(8), 1);
        int z = 1;
        for (int n = 1; n <= 99; n += 14) {
            int machines = 0;
            for (int i = 0; i < n; i++) {
                z = z * 1103515245 + 12345;
                int kind = kinds[(z >>> 8) % 7];
                machines += kind == 1 || kind == 3 || kind == 6 ? 0 : 1;
            }
            due.is("35 sample(" + n + ")", x.sample(n), machines);
            due.is("35 z", x.count(8), z);
        }
    }
}
