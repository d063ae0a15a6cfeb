/**
 * Names on a board that speak by the second, and what can be told of them.
 * The document ../shared/DOC.md says what each call answers, as numbered promises.
 */
public final class AwakeBoard {
    private static final int LOW = -1000001;
    private static final int BEYOND = LOW;
    private static final int FULL = LOW - 1;
    private static final int KIND = LOW - 2;
    private static final int NONE = LOW - 3;
    private static final int STATE = LOW - 4;
    private static final int MISSING = LOW - 5;
    private static final int SIZE = LOW - 6;
    private static final int FINDINGS = 7;

    private static final int LAST_SECOND = 29999;
    private static final int SECONDS_AHEAD = 2000;
    private static final int MOST_GO = 999;
    private static final int MOST_GAP = 999;
    private static final int MOST_JITTER = 99;
    private static final int ALL_HOURS = 1023;
    private static final int LAST_TOPIC = 9;
    private static final int MOST_NAMES = 14;
    private static final int MOST_WORDS = 200;
    private static final int MOST_TEXTS = 6;
    private static final int MOST_BYTES = 80;
    private static final int MOST_OPEN = 6;
    private static final int MOST_NUMBER = 9999;
    private static final int SPOTS = 10;
    private static final int SHEETS = 4;
    private static final int MOST_NUMBERS = 40;
    private static final int LINE_END = 200;
    private static final int MOST_BAR = 9999;

    private static final int NAME = 0;
    private static final int PERSON = 1;
    private static final int CLOCK = 2;
    private static final int STEADY = 3;
    private static final int SLEEPER = 4;
    private static final int HANDED = 5;
    private static final int CLUBBED = 6;
    private static final int HALF = 7;
    private static final int LAST_KIND = HALF;
    private static final int[] KIND_ABOVE = {-1, NAME, NAME, PERSON, CLOCK, NAME, PERSON, SLEEPER};

    // The numbers by which nameOf() and change() ask for what a NAME has.
    private static final int ITS_KIND = 0;
    private static final int ITS_GAP = 1;
    private static final int ITS_HOURS = 2;
    private static final int ITS_JITTER = 3;
    private static final int ITS_LEADER = 4;
    private static final int ITS_TOPIC = 5;
    private static final int TRAITS = 6;
    private static final int IS_SHUT = 6;
    private static final int IS_PEOPLE = 7;

    // A sign's letter stands where sign() has its number; n, which sign() doesn't tell, is last.
    private static final String SIGN_LETTERS = "wglhfqtn";
    private static final int SIGNS = 8;
    private static final int LAST_TOLD_SIGN = 6;
    private static final int NEVER_BEHIND = 99;

    private final Scene scene;
    private final Scene kept;
    private boolean isKept;
    private final int[] tape;
    private int tapeSize;
    private final Sheet[] sheets;
    private final int[] findings;
    private final Signs signs;
    private final Reader reader;
    private final Ties ties;
    private final int[] scores;

    public AwakeBoard() {
        scene = new Scene();
        kept = new Scene();
        isKept = false;
        tape = new int[MOST_BYTES];
        tapeSize = 0;
        sheets = new Sheet[SHEETS];
        for (int s = 0; s < SHEETS; s++) {
            sheets[s] = new Sheet();
        }
        findings = new int[FINDINGS];
        signs = new Signs();
        reader = new Reader();
        ties = new Ties();
        scores = new int[MOST_NAMES];
    }

    // ---- names

    public int name(int kind, int gap) {
        if (!isWithin(kind, NAME, LAST_KIND) || !isWithin(gap, 1, MOST_GAP)) {
            return tellFinding(BEYOND);
        }
        if (scene.names.size >= MOST_NAMES) {
            return tellFinding(FULL);
        }
        return scene.names.add(kind, gap);
    }

    public int nameOf(int name, int what) {
        Names names = scene.names;
        if (!names.has(name) || !isWithin(what, ITS_KIND, IS_PEOPLE)) {
            return tellFinding(BEYOND);
        }
        if (what == IS_SHUT) {
            return asInt(hasBit(names.shutSet, name));
        }
        if (what == IS_PEOPLE) {
            return asInt(names.isOf(name, PERSON));
        }
        return names.traits[what][name];
    }

    public int change(int name, int what, int v) {
        Names names = scene.names;
        if (!names.has(name) || !names.allows(name, what, v)) {
            return tellFinding(BEYOND);
        }
        int was = names.traits[what][name];
        names.traits[what][name] = v;
        return was;
    }

    public int shut(int name, boolean is) {
        Names names = scene.names;
        if (!names.has(name)) {
            return tellFinding(BEYOND);
        }
        int was = asInt(hasBit(names.shutSet, name));
        names.shutSet = is ? names.shutSet | 1 << name : names.shutSet & ~(1 << name);
        return was;
    }

    public int object() {
        Names names = scene.names;
        int objecting = names.shutSet & names.peopleSet();
        names.shutSet &= ~objecting;
        return Integer.bitCount(objecting);
    }

    public int speaks(int name, int second) {
        if (!scene.names.has(name) || !isSecond(second)) {
            return tellFinding(BEYOND);
        }
        return asInt(scene.isSpeaking(name, second));
    }

    public int next(int name, int from) {
        if (!scene.names.has(name) || !isSecond(from)) {
            return tellFinding(BEYOND);
        }
        int end = Math.min(from + SECONDS_AHEAD - 1, LAST_SECOND);
        for (int second = from; second <= end; second++) {
            if (scene.isSpeaking(name, second)) {
                return second;
            }
        }
        return tellFinding(NONE);
    }

    // ---- the board

    public int go(int n) {
        if (!isWithin(n, 1, MOST_GO)) {
            return tellFinding(BEYOND);
        }
        if (scene.board.now + n > LAST_SECOND) {
            return tellFinding(STATE);
        }
        for (int gone = 0; gone < n; gone++) {
            scene.passSecond();
        }
        return scene.board.now;
    }

    public int say(int name, int topic) {
        if (!scene.names.has(name) || !isTopic(topic)) {
            return tellFinding(BEYOND);
        }
        if (scene.board.isFull()) {
            return tellFinding(FULL);
        }
        return scene.board.add(name, topic);
    }

    public int wordOf(int word, int what) {
        Board board = scene.board;
        if (!board.has(word)) {
            return tellFinding(BEYOND);
        }
        switch (what) {
            case 0:
                return board.seconds[word];
            case 1:
                return board.speakers[word];
            case 2:
                return board.topics[word];
            case 3:
                return board.followed[word];
            default:
                return tellFinding(BEYOND);
        }
    }

    public int below(int word) {
        if (!scene.board.has(word)) {
            return tellFinding(BEYOND);
        }
        return scene.board.countBelow(word);
    }

    public int sign(int name, int what) {
        if (!scene.names.has(name) || !isWithin(what, 0, LAST_TOLD_SIGN)) {
            return tellFinding(BEYOND);
        }
        signs.gather(scene.board, name);
        return signs.row[what];
    }

    public int hours(int name) {
        if (!scene.names.has(name)) {
            return tellFinding(BEYOND);
        }
        return scene.board.hourSet(name);
    }

    // ---- texts

    public int feed(int bytes, int n) {
        if (!isWithin(n, 1, 4)) {
            return tellFinding(BEYOND);
        }
        if (tapeSize + n > MOST_BYTES) {
            return tellFinding(FULL);
        }
        for (int left = n - 1; left >= 0; left--) {
            tape[tapeSize] = bytes >>> 8 * left & 255;
            tapeSize++;
        }
        return tapeSize;
    }

    public int wipe() {
        int had = tapeSize;
        tapeSize = 0;
        return had;
    }

    public int text() {
        if (scene.texts.size >= MOST_TEXTS) {
            return tellFinding(FULL);
        }
        // Only its fault is asked for, so any signs will do.
        reader.read(tape, tapeSize, signs.row);
        int size = tapeSize;
        tapeSize = 0;
        if (reader.fault >= 0) {
            return -1 - reader.fault;
        }
        return scene.texts.add(tape, size);
    }

    public int score(int text, int name) {
        if (!scene.texts.has(text) || !scene.names.has(name)) {
            return tellFinding(BEYOND);
        }
        return scoreOf(text, name);
    }

    public int found(int text, int bar, int what) {
        if (!scene.texts.has(text) || !isWithin(what, 0, 2)) {
            return tellFinding(BEYOND);
        }
        gatherScores(text);
        if (what == 0) {
            return foundSet(bar);
        }
        return what == 1 ? wrongedSet(bar) : missedSet(bar);
    }

    public int line(int text, int a, int b, int what) {
        boolean isMeant = scene.texts.has(text) && isWithin(a, 0, 99) && isWithin(b, 0, 99);
        if (!isMeant || !isWithin(what, 0, 1)) {
            return tellFinding(BEYOND);
        }
        gatherScores(text);
        int bestBar = -LINE_END;
        int bestSum = lineSum(bestBar, a, b);
        for (int bar = -LINE_END + 1; bar <= LINE_END; bar++) {
            int sum = lineSum(bar, a, b);
            if (sum < bestSum) {
                bestSum = sum;
                bestBar = bar;
            }
        }
        return what == 0 ? bestBar : bestSum;
    }

    public int shutAll(int text, int bar) {
        if (!scene.texts.has(text)) {
            return tellFinding(BEYOND);
        }
        gatherScores(text);
        int shutNow = foundSet(bar) & ~scene.names.shutSet;
        scene.names.shutSet |= shutNow;
        return Integer.bitCount(shutNow);
    }

    public int ask(int text, int bar) {
        if (!scene.texts.has(text) || !isWithin(bar, -MOST_BAR, MOST_BAR)) {
            return tellFinding(BEYOND);
        }
        int nearest = -1;
        long least = 0;
        for (int name = 0; name < scene.names.size; name++) {
            if (hasBit(scene.names.askedSet, name)) {
                continue;
            }
            long off = Math.abs((long) scoreOf(text, name) - bar);
            if (nearest < 0 || off < least) {
                nearest = name;
                least = off;
            }
        }
        return nearest < 0 ? tellFinding(NONE) : nearest;
    }

    public int asked(int name) {
        Names names = scene.names;
        if (!names.has(name)) {
            return tellFinding(BEYOND);
        }
        if (hasBit(names.askedSet, name)) {
            return tellFinding(STATE);
        }
        names.askedSet |= 1 << name;
        return Integer.bitCount(names.askedSet);
    }

    // ---- together

    public int together(int a, int b, int t) {
        if (!areTwoNames(a, b) || !isSpan(t)) {
            return tellFinding(BEYOND);
        }
        return scene.board.countTogether(a, b, t);
    }

    public int group(int name, int t, int n, int what) {
        boolean isMeant = scene.names.has(name) && isSpan(t) && isWithin(n, 1, 99);
        if (!isMeant || !isWithin(what, 0, 2)) {
            return tellFinding(BEYOND);
        }
        ties.gather(scene.board, scene.names.size, t, n);
        if (what == 0) {
            return ties.least[name];
        }
        int set = ties.groupSet(ties.least[name]);
        return what == 1 ? Integer.bitCount(set) : set;
    }

    public int groups(int t, int n) {
        if (!isSpan(t) || !isWithin(n, 1, 99)) {
            return tellFinding(BEYOND);
        }
        ties.gather(scene.board, scene.names.size, t, n);
        return ties.countGroups();
    }

    public int club(int second, int t) {
        if (!isSecond(second) || !isSpan(t)) {
            return tellFinding(BEYOND);
        }
        return scene.board.speakersBetween(second, second + t);
    }

    public int apart(int a, int b) {
        if (!areTwoNames(a, b)) {
            return tellFinding(BEYOND);
        }
        return Integer.bitCount(scene.board.hourSet(a) ^ scene.board.hourSet(b));
    }

    // ---- counts

    public int counts(int topic, int without) {
        if (!isWithin(topic, -1, LAST_TOPIC) || !scene.names.hasAll(without)) {
            return tellFinding(BEYOND);
        }
        return scene.board.countTelling(topic, without);
    }

    public int most(int without) {
        if (!scene.names.hasAll(without)) {
            return tellFinding(BEYOND);
        }
        int best = -1;
        int bestCount = 0;
        for (int topic = 0; topic <= LAST_TOPIC; topic++) {
            int telling = scene.board.countTelling(topic, without);
            if (telling > bestCount) {
                best = topic;
                bestCount = telling;
            }
        }
        return best < 0 ? tellFinding(NONE) : best;
    }

    public int first(int topic) {
        if (!isTopic(topic)) {
            return tellFinding(BEYOND);
        }
        int word = scene.board.firstTelling(topic);
        return word < 0 ? tellFinding(NONE) : word;
    }

    public int many(int a, int b) {
        if (!scene.names.hasAll(a) || !scene.names.hasAll(b)) {
            return tellFinding(BEYOND);
        }
        int inBoth = Integer.bitCount(a & b);
        if (inBoth == 0) {
            return tellFinding(NONE);
        }
        return cut(Integer.bitCount(a) * Integer.bitCount(b), inBoth);
    }

    public int sold(int name) {
        if (!scene.names.has(name)) {
            return tellFinding(BEYOND);
        }
        int place = scene.board.soldPlace(name);
        return place < 1 ? tellFinding(NONE) : place;
    }

    // ---- draws

    public int seed(int v) {
        int was = scene.z;
        scene.z = v;
        return was;
    }

    public int sample(int n) {
        if (!isWithin(n, 1, 99)) {
            return tellFinding(BEYOND);
        }
        if (scene.names.size == 0) {
            return tellFinding(NONE);
        }
        int machines = 0;
        for (int drawn = 0; drawn < n; drawn++) {
            int name = rest(scene.draw(), scene.names.size);
            if (!scene.names.isOf(name, PERSON)) {
                machines++;
            }
        }
        return machines;
    }

    // ---- spots, sheets

    public int hold(int spot, int name) {
        if (!isSpot(spot) || name != -1 && !scene.names.has(name)) {
            return tellFinding(BEYOND);
        }
        scene.spots[spot] = name;
        return 1;
    }

    public int as(int spot, int kind) {
        if (!isSpot(spot) || !isWithin(kind, NAME, LAST_KIND)) {
            return tellFinding(BEYOND);
        }
        int name = scene.spots[spot];
        if (name < 0) {
            return tellFinding(MISSING);
        }
        return scene.names.isOf(name, kind) ? name : tellFinding(KIND);
    }

    public int sheet(int s, int bits, int n) {
        boolean areBits = bits == 0 || bits == 8 || bits == 16 || bits == 32;
        if (!isSheet(s) || !areBits) {
            return tellFinding(BEYOND);
        }
        if (n < 0) {
            return tellFinding(SIZE);
        }
        if (n > MOST_NUMBERS) {
            return tellFinding(BEYOND);
        }
        sheets[s].begin(bits, n);
        return sheets[s].size;
    }

    public int write(int s, int i, int v) {
        if (!isSheet(s)) {
            return tellFinding(BEYOND);
        }
        Sheet sheet = sheets[s];
        if (sheet.isMissing()) {
            return tellFinding(MISSING);
        }
        if (!isWithin(i, 0, sheet.size - 1)) {
            return tellFinding(BEYOND);
        }
        sheet.put(i, v);
        return 1;
    }

    public int copy(int s, int from, int t, int to, int n) {
        if (!isSheet(s) || !isSheet(t)) {
            return tellFinding(BEYOND);
        }
        Sheet source = sheets[s];
        Sheet target = sheets[t];
        if (source.isMissing() || target.isMissing()) {
            return tellFinding(MISSING);
        }
        if (source.bits != target.bits) {
            return tellFinding(KIND);
        }
        if (!source.hasRange(from, n) || !target.hasRange(to, n)) {
            return tellFinding(BEYOND);
        }
        System.arraycopy(source.numbers, from, target.numbers, to, n);
        return n;
    }

    public int load(int s) {
        if (!isSheet(s)) {
            return tellFinding(BEYOND);
        }
        Sheet sheet = sheets[s];
        if (sheet.isMissing()) {
            return tellFinding(MISSING);
        }
        int came = 0;
        for (int i = 0; i + 1 < sheet.size; i += 2) {
            int name = sheet.numbers[i];
            int topic = sheet.numbers[i + 1];
            if (!scene.names.has(name) || !isTopic(topic) || scene.board.isFull()) {
                break;
            }
            scene.board.add(name, topic);
            came++;
        }
        return came;
    }

    public int judge(int s) {
        if (!isSheet(s)) {
            return tellFinding(BEYOND);
        }
        Sheet sheet = sheets[s];
        if (sheet.isMissing()) {
            return tellFinding(MISSING);
        }
        Board board = scene.board;
        int both = Math.min(sheet.size, board.size);
        int right = 0;
        while (right < both && sheet.numbers[right] == board.speakers[right]) {
            right++;
        }
        boolean isWhole = right == sheet.size && right == board.size;
        return isWhole ? 0 : right + 1;
    }

    // ---- images

    public int image() {
        kept.become(scene);
        isKept = true;
        return 1;
    }

    public int undo() {
        if (!isKept) {
            return tellFinding(NONE);
        }
        scene.become(kept);
        return scene.board.now;
    }

    public int tear() {
        int was = asInt(isKept);
        isKept = false;
        return was;
    }

    public int count(int what) {
        switch (what) {
            case 0:
                return scene.names.size;
            case 1:
                return scene.board.now;
            case 2:
                return scene.board.size;
            case 3:
                return scene.board.lost;
            case 4:
                return scene.texts.size;
            case 5:
                return tapeSize;
            case 6:
                return Integer.bitCount(scene.names.shutSet);
            case 7:
                return Integer.bitCount(scene.names.askedSet);
            case 8:
                return scene.z;
            default:
                return tellFinding(BEYOND);
        }
    }

    public int status(int which) {
        if (!isWithin(which, -1, FINDINGS - 1)) {
            return tellFinding(BEYOND);
        }
        if (which >= 0) {
            return findings[which];
        }
        int all = 0;
        for (int i = 0; i < FINDINGS; i++) {
            all += findings[i];
        }
        return all;
    }

    // ---- what the calls share

    private int tellFinding(int finding) {
        int which = LOW - finding;
        if (isWithin(which, 0, FINDINGS - 1)) {
            findings[which]++;
        }
        return finding;
    }

    private boolean areTwoNames(int a, int b) {
        return scene.names.has(a) && scene.names.has(b) && a != b;
    }

    private int scoreOf(int text, int name) {
        signs.gather(scene.board, name);
        return reader.read(scene.texts.bytes[text], scene.texts.sizes[text], signs.row);
    }

    private void gatherScores(int text) {
        for (int name = 0; name < scene.names.size; name++) {
            scores[name] = scoreOf(text, name);
        }
    }

    // These three speak of the scores that were gathered last.

    private int foundSet(int bar) {
        int set = 0;
        for (int name = 0; name < scene.names.size; name++) {
            if (scores[name] >= bar) {
                set |= 1 << name;
            }
        }
        return set;
    }

    private int wrongedSet(int bar) {
        return foundSet(bar) & scene.names.peopleSet();
    }

    private int missedSet(int bar) {
        return scene.names.machineSet() & ~foundSet(bar);
    }

    private int lineSum(int bar, int a, int b) {
        return a * Integer.bitCount(wrongedSet(bar)) + b * Integer.bitCount(missedSet(bar));
    }

    private static boolean isWithin(int v, int least, int most) {
        return v >= least && v <= most;
    }

    private static boolean isSecond(int v) {
        return isWithin(v, 0, LAST_SECOND);
    }

    private static boolean isTopic(int v) {
        return isWithin(v, 0, LAST_TOPIC);
    }

    private static boolean isSpan(int v) {
        return isWithin(v, 0, 99);
    }

    private static boolean isSpot(int v) {
        return isWithin(v, 0, SPOTS - 1);
    }

    private static boolean isSheet(int v) {
        return isWithin(v, 0, SHEETS - 1);
    }

    private static boolean hasBit(int set, int bit) {
        return (set >>> bit & 1) != 0;
    }

    private static int asInt(boolean is) {
        return is ? 1 : 0;
    }

    private static int cut(int a, int by) {
        return by == 0 ? 0 : a / by;
    }

    private static int rest(int a, int by) {
        return by == 0 ? 0 : a % by;
    }

    private static int hourOf(int second) {
        return second / 100 % 10;
    }

    private static int dayOf(int second) {
        return second / 1000;
    }

    /** The names, with all that each of them has. */
    private static final class Names {
        int size;
        int shutSet;
        int askedSet;
        final int[][] traits = new int[TRAITS][MOST_NAMES];

        boolean has(int name) {
            return isWithin(name, 0, size - 1);
        }

        boolean hasAll(int set) {
            return isWithin(set, 0, (1 << size) - 1);
        }

        int add(int kind, int gap) {
            traits[ITS_KIND][size] = kind;
            traits[ITS_GAP][size] = gap;
            traits[ITS_HOURS][size] = ALL_HOURS;
            traits[ITS_JITTER][size] = 0;
            traits[ITS_LEADER][size] = -1;
            traits[ITS_TOPIC][size] = 0;
            size++;
            return size - 1;
        }

        boolean allows(int name, int what, int v) {
            switch (what) {
                case ITS_GAP:
                    return isWithin(v, 1, MOST_GAP);
                case ITS_HOURS:
                    return isWithin(v, 1, ALL_HOURS);
                case ITS_JITTER:
                    return isWithin(v, 0, MOST_JITTER);
                case ITS_LEADER:
                    return v == -1 || has(v) && v != name;
                case ITS_TOPIC:
                    return isTopic(v);
                default:
                    return false;
            }
        }

        boolean isOf(int name, int kind) {
            int above = traits[ITS_KIND][name];
            for (int step = 0; step <= LAST_KIND && above >= 0; step++) {
                if (above == kind) {
                    return true;
                }
                above = KIND_ABOVE[above];
            }
            return false;
        }

        int peopleSet() {
            int set = 0;
            for (int name = 0; name < size; name++) {
                if (isOf(name, PERSON)) {
                    set |= 1 << name;
                }
            }
            return set;
        }

        int machineSet() {
            return (1 << size) - 1 & ~peopleSet();
        }

        void become(Names other) {
            size = other.size;
            shutSet = other.shutSet;
            askedSet = other.askedSet;
            for (int what = 0; what < TRAITS; what++) {
                System.arraycopy(other.traits[what], 0, traits[what], 0, size);
            }
        }
    }

    /** The words in order; as NOW never goes back without them, their seconds never fall. */
    private static final class Board {
        int now;
        int size;
        int lost;
        final int[] seconds = new int[MOST_WORDS];
        final int[] speakers = new int[MOST_WORDS];
        final int[] topics = new int[MOST_WORDS];
        final int[] followed = new int[MOST_WORDS];
        final boolean[] isBelow = new boolean[MOST_WORDS];

        boolean has(int word) {
            return isWithin(word, 0, size - 1);
        }

        boolean isFull() {
            return size >= MOST_WORDS;
        }

        /** Asked only while there is room. What a word follows never changes, so it is kept. */
        int add(int name, int topic) {
            seconds[size] = now;
            speakers[size] = name;
            topics[size] = topic;
            followed[size] = wordAhead(name);
            size++;
            return size - 1;
        }

        private int wordAhead(int name) {
            for (int word = size - 1; word >= 0 && now - seconds[word] <= 9; word--) {
                if (seconds[word] < now && speakers[word] != name) {
                    return word;
                }
            }
            return -1;
        }

        int countBelow(int top) {
            int below = 0;
            for (int word = top + 1; word < size; word++) {
                int ahead = followed[word];
                // What is marked at or ahead of the top is from an earlier call.
                isBelow[word] = ahead == top || ahead > top && isBelow[ahead];
                below += asInt(isBelow[word]);
            }
            return below;
        }

        int countOf(int name) {
            int words = 0;
            for (int word = 0; word < size; word++) {
                words += asInt(speakers[word] == name);
            }
            return words;
        }

        int latestOf(int name) {
            int word = size - 1;
            while (word >= 0 && speakers[word] != name) {
                word--;
            }
            return word;
        }

        int hourSet(int name) {
            int set = 0;
            for (int word = 0; word < size; word++) {
                if (speakers[word] == name) {
                    set |= 1 << hourOf(seconds[word]);
                }
            }
            return set;
        }

        int firstTelling(int topic) {
            for (int word = 0; word < size; word++) {
                if (topics[word] == topic) {
                    return word;
                }
            }
            return -1;
        }

        int countTelling(int topic, int without) {
            int words = 0;
            for (int word = 0; word < size; word++) {
                boolean isTold = topic == -1 || topics[word] == topic;
                words += asInt(isTold && !hasBit(without, speakers[word]));
            }
            return words;
        }

        /** The first word of a second or of a later one, or how many words there are. */
        private int firstFrom(int second) {
            int low = 0;
            int high = size;
            for (int step = 0; step < MOST_WORDS && low < high; step++) {
                int middle = (low + high) / 2;
                if (seconds[middle] < second) {
                    low = middle + 1;
                } else {
                    high = middle;
                }
            }
            return low;
        }

        int speakersBetween(int from, int to) {
            int set = 0;
            for (int word = firstFrom(from); word < size && seconds[word] <= to; word++) {
                set |= 1 << speakers[word];
            }
            return set;
        }

        int speakersNear(int word, int span) {
            return speakersBetween(seconds[word] - span, seconds[word] + span);
        }

        int countTogether(int a, int b, int span) {
            int words = 0;
            for (int word = 0; word < size; word++) {
                words += asInt(speakers[word] == a && hasBit(speakersNear(word, span), b));
            }
            return words;
        }

        /** Sums of squares are compared as whole fractions, so that nothing is cut. */
        int soldPlace(int name) {
            int words = countOf(name);
            long behind = hourSum(name);
            long ahead = 0;
            int best = -1;
            long bestTop = 0;
            long bestBottom = 1;
            int k = 0;
            for (int word = 0; word < size && k < words - 1; word++) {
                if (speakers[word] != name) {
                    continue;
                }
                k++;
                ahead += hourOf(seconds[word]);
                behind -= hourOf(seconds[word]);
                long top = ahead * ahead * (words - k) + behind * behind * k;
                long bottom = (long) k * (words - k);
                if (best < 0 || top * bestBottom > bestTop * bottom) {
                    best = k;
                    bestTop = top;
                    bestBottom = bottom;
                }
            }
            return best;
        }

        private int hourSum(int name) {
            int sum = 0;
            for (int word = 0; word < size; word++) {
                sum += speakers[word] == name ? hourOf(seconds[word]) : 0;
            }
            return sum;
        }

        void become(Board other) {
            now = other.now;
            size = other.size;
            lost = other.lost;
            System.arraycopy(other.seconds, 0, seconds, 0, size);
            System.arraycopy(other.speakers, 0, speakers, 0, size);
            System.arraycopy(other.topics, 0, topics, 0, size);
            System.arraycopy(other.followed, 0, followed, 0, size);
        }
    }

    /** Texts without a fault, as they were fed; they are read anew for each score. */
    private static final class Texts {
        int size;
        final int[][] bytes = new int[MOST_TEXTS][MOST_BYTES];
        final int[] sizes = new int[MOST_TEXTS];

        boolean has(int text) {
            return isWithin(text, 0, size - 1);
        }

        int add(int[] tape, int length) {
            System.arraycopy(tape, 0, bytes[size], 0, length);
            sizes[size] = length;
            size++;
            return size - 1;
        }

        void become(Texts other) {
            size = other.size;
            for (int text = 0; text < size; text++) {
                sizes[text] = other.sizes[text];
                System.arraycopy(other.bytes[text], 0, bytes[text], 0, sizes[text]);
            }
        }
    }

    /** All that image() keeps. */
    private static final class Scene {
        final Names names = new Names();
        final Board board = new Board();
        final Texts texts = new Texts();
        final int[] spots = new int[SPOTS];
        int z = 1;

        Scene() {
            for (int spot = 0; spot < SPOTS; spot++) {
                spots[spot] = -1;
            }
        }

        boolean isSpeaking(int name, int second) {
            switch (names.traits[ITS_KIND][name]) {
                case PERSON:
                case STEADY:
                    return isAsPerson(name, second);
                case CLOCK:
                    return isAsClock(name, second);
                case SLEEPER:
                    return isAsClock(name, second) && isInHours(name, second);
                case HANDED:
                    return second >= 2 * name && isAsName(name, second - 2 * name);
                case CLUBBED:
                    return isAsPerson(name, second) || isBehindLeader(name, second);
                case HALF:
                    return isAsHalf(name, second) && isInHours(name, second);
                default:
                    return isAsName(name, second);
            }
        }

        private boolean isAsName(int name, int second) {
            return rest(second, names.traits[ITS_GAP][name]) == 0;
        }

        private boolean isAsPerson(int name, int second) {
            return isAsName(name, second) && isInHours(name, second);
        }

        private boolean isAsClock(int name, int second) {
            int gap = names.traits[ITS_GAP][name];
            int turn = 7 * cut(second, gap) + 3 * name;
            int late = rest(turn, names.traits[ITS_JITTER][name] + 1);
            return rest(second, gap) == Math.min(gap - 1, late);
        }

        private boolean isAsHalf(int name, int second) {
            return dayOf(second) % 7 == 6 ? isAsClock(name, second) : isAsName(name, second);
        }

        private boolean isInHours(int name, int second) {
            return hasBit(names.traits[ITS_HOURS][name], hourOf(second));
        }

        private boolean isBehindLeader(int name, int second) {
            int leader = names.traits[ITS_LEADER][name];
            return leader >= 0 && hasBit(board.speakersBetween(second - 1, second - 1), leader);
        }

        private int topicOf(int name) {
            int topic = names.traits[ITS_TOPIC][name];
            int kind = names.traits[ITS_KIND][name];
            if (kind == STEADY) {
                return (topic + board.countOf(name) % 3) % 10;
            }
            int leader = names.traits[ITS_LEADER][name];
            if (kind == CLUBBED && leader >= 0) {
                int word = board.latestOf(leader);
                return word < 0 ? topic : board.topics[word];
            }
            return topic;
        }

        void passSecond() {
            for (int name = 0; name < names.size; name++) {
                if (hasBit(names.shutSet, name) || !isSpeaking(name, board.now)) {
                    continue;
                }
                if (board.isFull()) {
                    board.lost++;
                } else {
                    board.add(name, topicOf(name));
                }
            }
            board.now++;
        }

        int draw() {
            z = z * 1103515245 + 12345;
            return z >>> 8;
        }

        void become(Scene other) {
            names.become(other.names);
            board.become(other.board);
            texts.become(other.texts);
            System.arraycopy(other.spots, 0, spots, 0, SPOTS);
            z = other.z;
        }
    }

    /** The signs of one name at a time, in the order of SIGN_LETTERS. */
    private static final class Signs {
        final int[] row = new int[SIGNS];

        void gather(Board board, int name) {
            gatherGaps(board, name);
            gatherFollowing(board, name);
            row[3] = Integer.bitCount(board.hourSet(name));
            row[6] = countTopics(board, name);
            row[7] = name;
        }

        private void gatherGaps(Board board, int name) {
            int words = 0;
            int sum = 0;
            int least = LAST_SECOND;
            int latest = 0;
            for (int word = 0; word < board.size; word++) {
                if (board.speakers[word] != name) {
                    continue;
                }
                if (words > 0) {
                    int gap = board.seconds[word] - latest;
                    sum += gap;
                    least = Math.min(least, gap);
                }
                latest = board.seconds[word];
                words++;
            }
            row[0] = words;
            row[1] = words < 2 ? 0 : cut(sum, words - 1);
            row[2] = words < 2 ? 0 : least;
        }

        private void gatherFollowing(Board board, int name) {
            int following = 0;
            int least = NEVER_BEHIND;
            for (int word = 0; word < board.size; word++) {
                int ahead = board.followed[word];
                if (board.speakers[word] == name && ahead >= 0) {
                    following++;
                    least = Math.min(least, board.seconds[word] - board.seconds[ahead]);
                }
            }
            row[4] = following;
            row[5] = least;
        }

        private static int countTopics(Board board, int name) {
            int set = 0;
            for (int word = 0; word < board.size; word++) {
                if (board.speakers[word] == name) {
                    set |= 1 << board.topics[word];
                }
            }
            return Integer.bitCount(set);
        }
    }

    /** Reads a text and reckons what it gives, both in one way, token by token. */
    private static final class Reader {
        private static final int END = 0;
        private static final int WRONG = 1;
        private static final int NUMBER = 2;
        private static final int LETTER = 3;

        private int[] bytes;
        private int size;
        private int[] signs;
        private int at;
        // The token that is next: END to LETTER, or its own byte; where it begins; what it gives.
        private int token;
        private int place;
        private int given;
        /** The place of the first token that can't stand there, or -1. */
        int fault;

        int read(int[] from, int length, int[] row) {
            bytes = from;
            size = length;
            signs = row;
            at = 0;
            fault = -1;
            step();
            int value = readText(0);
            take(END);
            return value;
        }

        private int readText(int open) {
            int left = readSum(open);
            int sign = token;
            if (sign != '<' && sign != '=') {
                return left;
            }
            step();
            int right = readSum(open);
            return asInt(sign == '<' ? left < right : left == right);
        }

        private int readSum(int open) {
            int sum = readTerm(open);
            for (int i = 0; i < MOST_BYTES && (token == '+' || token == '-'); i++) {
                int sign = token;
                step();
                int term = readTerm(open);
                sum = sign == '+' ? sum + term : sum - term;
            }
            return sum;
        }

        private int readTerm(int open) {
            int term = readOne(open);
            for (int i = 0; i < MOST_BYTES && (token == '*' || token == '/'); i++) {
                int sign = token;
                step();
                int one = readOne(open);
                term = sign == '*' ? term * one : cut(term, one);
            }
            return term;
        }

        private int readOne(int open) {
            int sign = token;
            int value = given;
            if (sign == NUMBER || sign == LETTER) {
                step();
                return value;
            }
            if (sign != '-' && sign != '(' || open >= MOST_OPEN) {
                fail();
                return 0;
            }
            step();
            if (sign == '-') {
                return -readOne(open + 1);
            }
            value = readText(open + 1);
            take(')');
            return value;
        }

        private void take(int wanted) {
            if (token == wanted) {
                step();
            } else {
                fail();
            }
        }

        /** Only the first fault counts; a wrong token then stands in the way of all that follows. */
        private void fail() {
            if (fault < 0) {
                fault = place;
            }
            token = WRONG;
        }

        private void step() {
            while (at < size && bytes[at] == ' ') {
                at++;
            }
            place = at;
            if (at >= size) {
                token = END;
                return;
            }
            int sign = bytes[at];
            if (isDigit(sign)) {
                stepNumber();
                return;
            }
            at++;
            int letter = SIGN_LETTERS.indexOf((char) sign);
            if (letter >= 0) {
                token = LETTER;
                given = signs[letter];
            } else {
                token = isMark(sign) ? sign : WRONG;
            }
        }

        private void stepNumber() {
            int number = 0;
            while (at < size && isDigit(bytes[at])) {
                // One above the most is enough to be known as too much, however long it is.
                number = Math.min(number * 10 + bytes[at] - '0', MOST_NUMBER + 1);
                at++;
            }
            token = number > MOST_NUMBER ? WRONG : NUMBER;
            given = number;
        }

        private static boolean isDigit(int sign) {
            return sign >= '0' && sign <= '9';
        }

        private static boolean isMark(int sign) {
            return sign >= '(' && sign <= '+' || sign == '-' || sign == '/' || sign == '<' || sign == '=';
        }
    }

    /** Which names are in one group; a group is told by the least of it. */
    private static final class Ties {
        private int size;
        final int[] least = new int[MOST_NAMES];
        private final int[][] near = new int[MOST_NAMES][MOST_NAMES];

        void gather(Board board, int names, int span, int bar) {
            size = names;
            gatherNear(board, span);
            for (int name = 0; name < size; name++) {
                least[name] = name;
            }
            for (int a = 0; a < size; a++) {
                for (int b = 0; b < a; b++) {
                    if (near[a][b] >= bar || near[b][a] >= bar) {
                        join(least[a], least[b]);
                    }
                }
            }
        }

        private void gatherNear(Board board, int span) {
            for (int a = 0; a < size; a++) {
                for (int b = 0; b < size; b++) {
                    near[a][b] = 0;
                }
            }
            for (int word = 0; word < board.size; word++) {
                int set = board.speakersNear(word, span);
                for (int b = 0; b < size; b++) {
                    near[board.speakers[word]][b] += asInt(hasBit(set, b));
                }
            }
        }

        private void join(int one, int other) {
            int joined = Math.min(one, other);
            for (int name = 0; name < size; name++) {
                if (least[name] == one || least[name] == other) {
                    least[name] = joined;
                }
            }
        }

        int groupSet(int told) {
            int set = 0;
            for (int name = 0; name < size; name++) {
                if (least[name] == told) {
                    set |= 1 << name;
                }
            }
            return set;
        }

        int countGroups() {
            int groups = 0;
            for (int name = 0; name < size; name++) {
                groups += asInt(least[name] == name);
            }
            return groups;
        }
    }

    /** A row of numbers of as many bits; without bits it is missing. */
    private static final class Sheet {
        int bits;
        int size;
        final int[] numbers = new int[MOST_NUMBERS];

        boolean isMissing() {
            return bits == 0;
        }

        void begin(int newBits, int n) {
            bits = newBits;
            size = newBits == 0 ? 0 : n;
            for (int i = 0; i < size; i++) {
                numbers[i] = 0;
            }
        }

        void put(int i, int v) {
            if (bits == 8) {
                numbers[i] = (byte) v;
            } else if (bits == 16) {
                numbers[i] = (short) v;
            } else {
                numbers[i] = v;
            }
        }

        boolean hasRange(int from, int n) {
            return n >= 0 && n <= size && isWithin(from, 0, size - n);
        }
    }
}
