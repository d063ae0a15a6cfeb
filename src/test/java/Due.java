/** Counts the calls of a test whose answers are not the ones that are due. */
final class Due {
    static final int BEYOND = -1000001;
    static final int FULL = -1000002;
    static final int KIND = -1000003;
    static final int NONE = -1000004;
    static final int STATE = -1000005;
    static final int MISSING = -1000006;
    static final int SIZE = -1000007;
    static final int LEAST = Integer.MIN_VALUE;
    static final int MOST = Integer.MAX_VALUE;

    private final String test;
    private int asked;
    private int wrong;

    Due(String test) {
        this.test = test;
    }

    void is(String call, long got, long want) {
        asked++;
        if (got != want) {
            wrong++;
            System.out.println(test + ": " + call + " answered " + got + ", due is " + want);
        }
    }

    /** Feeds a text to THE TAPE, byte by byte. */
    static void feed(AwakeBoard board, String text) {
        for (int i = 0; i < text.length(); i++) {
            board.feed(text.charAt(i), 1);
        }
    }

    /** Feeds a text and reads it. */
    static int text(AwakeBoard board, String text) {
        feed(board, text);
        return board.text();
    }

    /** Names that are SHUT, so that only words by hand come. */
    static AwakeBoard quiet(int names) {
        AwakeBoard x = new AwakeBoard();
        for (int i = 0; i < names; i++) {
            x.name(0, 999);
            x.shut(i, true);
        }
        return x;
    }

    static int goTo(AwakeBoard x, int second) {
        int now = x.count(1);
        for (int step = 0; step < 40 && now < second; step++) {
            now = x.go(Math.min(999, second - now));
        }
        return now;
    }

    void end() {
        System.out.println(test + ": " + asked + " asked, " + wrong + " wrong");
        if (wrong != 0 || asked == 0) {
            System.exit(1);
        }
    }
}
