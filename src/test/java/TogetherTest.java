/** Promises 24 to 28: together. */
public final class TogetherTest {
    private static final Due due = new Due("TogetherTest");

    public static void main(String[] args) {
        together();
        togetherFindings();
        group();
        groupByEither();
        groupFindings();
        club();
        apart();
        due.end();
    }

    private static void together() {
        AwakeBoard x = Due.quiet(3);
        x.say(0, 0);
        x.go(3);
        x.say(0, 0);
        x.go(2);
        x.say(1, 0);
        x.go(10);
        x.say(0, 0);
        // Name 0 in 0, 3, 15; name 1 in 5.
        due.is("24 0 seconds", x.together(0, 1, 0), 0);
        due.is("24 1 second", x.together(0, 1, 1), 0);
        due.is("24 2 seconds", x.together(0, 1, 2), 1);
        due.is("24 5 seconds", x.together(0, 1, 5), 2);
        due.is("24 9 seconds", x.together(0, 1, 9), 2);
        due.is("24 10 seconds, later", x.together(0, 1, 10), 3);
        due.is("24 the other way", x.together(1, 0, 10), 1);
        due.is("24 silent ones", x.together(0, 2, 99), 0);
        x.say(1, 0);
        due.is("24 in one second", x.together(0, 1, 0), 1);
    }

    private static void togetherFindings() {
        AwakeBoard x = Due.quiet(2);
        due.is("24 the same", x.together(1, 1, 0), Due.BEYOND);
        due.is("24 a 2", x.together(2, 1, 0), Due.BEYOND);
        due.is("24 b 2", x.together(1, 2, 0), Due.BEYOND);
        due.is("24 a -1", x.together(-1, 1, 0), Due.BEYOND);
        due.is("24 b -1", x.together(1, -1, 0), Due.BEYOND);
        due.is("24 t 100", x.together(0, 1, 100), Due.BEYOND);
        due.is("24 t -1", x.together(0, 1, -1), Due.BEYOND);
        due.is("24 t 99", x.together(0, 1, 99), 0);
    }

    private static void group() {
        AwakeBoard x = Due.quiet(6);
        // In pairs: 4 and 5, then 2 and 5, then 1 and 3; 0 alone.
        int[][] pairs = {{4, 5}, {5, 2}, {1, 3}, {0, 0}};
        for (int[] pair : pairs) {
            x.say(pair[0], 0);
            if (pair[0] != pair[1]) {
                x.say(pair[1], 0);
            }
            x.go(100);
        }
        int[] least = {0, 1, 2, 1, 2, 2};
        int[] size = {1, 2, 3, 2, 3, 3};
        int[] set = {1, 10, 52, 10, 52, 52};
        for (int name = 0; name < 6; name++) {
            due.is("25 least of " + name, x.group(name, 0, 1, 0), least[name]);
            due.is("25 size of " + name, x.group(name, 0, 1, 1), size[name]);
            due.is("25 set of " + name, x.group(name, 0, 1, 2), set[name]);
            due.is("25 alone by 2", x.group(name, 0, 2, 2), 1 << name);
        }
        due.is("26 groups", x.groups(0, 1), 3);
        due.is("26 groups by 2", x.groups(0, 2), 6);
        due.is("26 groups by 99 seconds", x.groups(99, 1), 3);
        due.is("26 nobody", new AwakeBoard().groups(0, 1), 0);
    }

    private static void groupByEither() {
        AwakeBoard x = Due.quiet(2);
        x.say(0, 0);
        x.say(1, 0);
        x.say(1, 0);
        due.is("25 0 with 1", x.together(0, 1, 0), 1);
        due.is("25 1 with 0", x.together(1, 0, 0), 2);
        due.is("25 by the greater one", x.group(0, 0, 2, 1), 2);
        due.is("25 from the other", x.group(1, 0, 2, 0), 0);
        due.is("25 by 3 not", x.group(1, 0, 3, 0), 1);
        AwakeBoard y = Due.quiet(2);
        y.say(1, 0);
        y.say(0, 0);
        y.say(0, 0);
        due.is("25 the lower one has more", y.group(0, 0, 2, 1), 2);
        AwakeBoard z = Due.quiet(2);
        z.say(0, 0);
        z.say(0, 0);
        z.say(1, 0);
        due.is("25 word 0 counts", z.group(0, 0, 2, 1), 2);
    }

    private static void groupFindings() {
        AwakeBoard x = Due.quiet(2);
        due.is("25 name 2", x.group(2, 0, 1, 0), Due.BEYOND);
        due.is("25 name -1", x.group(-1, 0, 1, 0), Due.BEYOND);
        due.is("25 t 100", x.group(0, 100, 1, 0), Due.BEYOND);
        due.is("25 t -1", x.group(0, -1, 1, 0), Due.BEYOND);
        due.is("25 n 0", x.group(0, 0, 0, 0), Due.BEYOND);
        due.is("25 n 100", x.group(0, 0, 100, 0), Due.BEYOND);
        due.is("25 what 3", x.group(0, 0, 1, 3), Due.BEYOND);
        due.is("25 what -1", x.group(0, 0, 1, -1), Due.BEYOND);
        due.is("25 edges", x.group(1, 99, 99, 2), 2);
        due.is("26 t 100", x.groups(100, 1), Due.BEYOND);
        due.is("26 t -1", x.groups(-1, 1), Due.BEYOND);
        due.is("26 n 0", x.groups(0, 0), Due.BEYOND);
        due.is("26 n 100", x.groups(0, 100), Due.BEYOND);
        due.is("26 edges", x.groups(99, 99), 2);
    }

    private static void club() {
        AwakeBoard x = Due.quiet(4);
        x.say(3, 0);
        x.go(10);
        x.say(1, 0);
        x.go(5);
        x.say(0, 0);
        due.is("27 at 0", x.club(0, 0), 8);
        due.is("27 at 1", x.club(1, 8), 0);
        due.is("27 at 1 to 10", x.club(1, 9), 2);
        due.is("27 to 14", x.club(0, 14), 10);
        due.is("27 to 15", x.club(0, 15), 11);
        due.is("27 from 11", x.club(11, 99), 1);
        due.is("27 the last second", x.club(29999, 99), 0);
        due.is("27 second 30000", x.club(30000, 0), Due.BEYOND);
        due.is("27 second -1", x.club(-1, 0), Due.BEYOND);
        due.is("27 t 100", x.club(0, 100), Due.BEYOND);
        due.is("27 t -1", x.club(0, -1), Due.BEYOND);
    }

    private static void apart() {
        AwakeBoard x = Due.quiet(3);
        x.say(0, 0);
        x.go(100);
        x.say(0, 0);
        x.say(1, 0);
        x.go(100);
        x.say(1, 0);
        x.go(900);
        x.say(1, 0);
        // Name 0 in hours 0, 1; name 1 in hours 1, 2 and again 1 of the next day.
        due.is("28 0 and 1", x.apart(0, 1), 2);
        due.is("28 1 and 0", x.apart(1, 0), 2);
        due.is("28 with a silent one", x.apart(0, 2), 2);
        due.is("28 the same", x.apart(1, 1), Due.BEYOND);
        due.is("28 a 3", x.apart(3, 1), Due.BEYOND);
        due.is("28 b 3", x.apart(1, 3), Due.BEYOND);
        due.is("28 a -1", x.apart(-1, 1), Due.BEYOND);
        due.is("28 b -1", x.apart(1, -1), Due.BEYOND);
    }
}
