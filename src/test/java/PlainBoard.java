import java.math.BigInteger;
import java.util.ArrayList;
import java.util.List;
import java.util.TreeSet;

/**
 * The document once more, word by word and without care for room or speed, with the Java library:
 * what ModelTest holds AwakeBoard against. It shares no code with it.
 */
final class PlainBoard {
    static final class Finding extends RuntimeException {
        private static final long serialVersionUID = 1;
        final int which;

        Finding(int which) {
            super(null, null, false, false);
            this.which = which;
        }
    }

    static final int BEYOND = 0;
    static final int FULL = 1;
    static final int KIND = 2;
    static final int NONE = 3;
    static final int STATE = 4;
    static final int MISSING = 5;
    static final int SIZE = 6;

    record Word(int second, int name, int topic) { }

    static class Name implements Cloneable {
        int number;
        int kind;
        int gap;
        TreeSet<Integer> hours = new TreeSet<>(List.of(0, 1, 2, 3, 4, 5, 6, 7, 8, 9));
        int jitter;
        int leader = -1;
        int topic;
        boolean isShut;
        boolean isAsked;

        boolean inHours(int s) {
            return hours.contains(s / 100 % 10);
        }

        boolean asName(int s) {
            return s % gap == 0;
        }

        boolean asClock(int s) {
            int r = (7 * (s / gap) + 3 * number) % (jitter + 1);
            return s % gap == (r < gap - 1 ? r : gap - 1);
        }

        boolean speaks(int s, List<Word> words) {
            return asName(s);
        }

        int tells(List<Word> words) {
            return topic;
        }

        Name twin() {
            try {
                Name other = (Name) clone();
                other.hours = new TreeSet<>(hours);
                return other;
            } catch (CloneNotSupportedException e) {
                throw new IllegalStateException(e);
            }
        }
    }

    static class Person extends Name {
        @Override boolean speaks(int s, List<Word> words) {
            return super.speaks(s, words) && inHours(s);
        }
    }

    static class Clock extends Name {
        @Override boolean speaks(int s, List<Word> words) {
            return asClock(s);
        }
    }

    static final class Steady extends Person {
        @Override int tells(List<Word> words) {
            long said = words.stream().filter(w -> w.name == number).count();
            return (int) ((topic + said % 3) % 10);
        }
    }

    static class Sleeper extends Clock {
        @Override boolean speaks(int s, List<Word> words) {
            return super.speaks(s, words) && inHours(s);
        }
    }

    static final class Handed extends Name {
        @Override boolean speaks(int s, List<Word> words) {
            return s >= 2 * number && (s - 2 * number) % gap == 0;
        }
    }

    static final class Clubbed extends Person {
        @Override boolean speaks(int s, List<Word> words) {
            return super.speaks(s, words) || words.stream().anyMatch(w -> w.name == leader && w.second + 1 == s);
        }

        @Override int tells(List<Word> words) {
            int told = super.tells(words);
            for (Word w : words) {
                if (w.name == leader) {
                    told = w.topic;
                }
            }
            return told;
        }
    }

    static final class Half extends Sleeper {
        @Override boolean speaks(int s, List<Word> words) {
            boolean is = s / 1000 % 7 == 6 ? asClock(s) : asName(s);
            return is && inHours(s);
        }
    }

    static final class World {
        List<Name> names = new ArrayList<>();
        List<Word> words = new ArrayList<>();
        List<PlainText> texts = new ArrayList<>();
        int[] spots = {-1, -1, -1, -1, -1, -1, -1, -1, -1, -1};
        int now;
        int lost;
        int z = 1;

        World twin() {
            World other = new World();
            names.forEach(n -> other.names.add(n.twin()));
            other.words.addAll(words);
            other.texts.addAll(texts);
            other.spots = spots.clone();
            other.now = now;
            other.lost = lost;
            other.z = z;
            return other;
        }
    }

    World w = new World();
    World kept;
    List<Integer> tape = new ArrayList<>();
    int[] bits = new int[4];
    int[][] sheets = new int[4][];
    int[] found = new int[7];

    private static void need(boolean is, int finding) {
        if (!is) {
            throw new Finding(finding);
        }
    }

    private static void beyond(boolean isNot) {
        need(!isNot, BEYOND);
    }

    private Name at(int name) {
        beyond(name < 0 || name >= w.names.size());
        return w.names.get(name);
    }

    private Word word(int word) {
        beyond(word < 0 || word >= w.words.size());
        return w.words.get(word);
    }

    private PlainText textAt(int text) {
        beyond(text < 0 || text >= w.texts.size());
        return w.texts.get(text);
    }

    private static void range(int v, int least, int most) {
        beyond(v < least || v > most);
    }

    private TreeSet<Integer> setOf(int bitsOf) {
        beyond(bitsOf < 0);
        TreeSet<Integer> set = new TreeSet<>();
        for (int i = 0; i < 31; i++) {
            if ((bitsOf & 1 << i) != 0) {
                at(i);
                set.add(i);
            }
        }
        return set;
    }

    private static int bitsOf(Iterable<Integer> set) {
        int told = 0;
        for (int i : set) {
            told += 1 << i;
        }
        return told;
    }

    /** One call by its name, as the face has it; a finding is counted and told as its number. */
    int call(String name, int... a) {
        try {
            return act(name, a);
        } catch (Finding f) {
            found[f.which]++;
            return -1000001 - f.which;
        }
    }

    private int act(String call, int[] a) {
        switch (call) {
            case "name": return name(a[0], a[1]);
            case "nameOf": return nameOf(at(a[0]), a[1]);
            case "change": return change(at(a[0]), a[1], a[2]);
            case "shut": {
                Name n = at(a[0]);
                int was = n.isShut ? 1 : 0;
                n.isShut = a[1] != 0;
                return was;
            }
            case "object": {
                int objecting = 0;
                for (Name n : w.names) {
                    if (n instanceof Person && n.isShut) {
                        n.isShut = false;
                        objecting++;
                    }
                }
                return objecting;
            }
            case "speaks": {
                Name n = at(a[0]);
                range(a[1], 0, 29999);
                return n.speaks(a[1], w.words) ? 1 : 0;
            }
            case "next": {
                Name n = at(a[0]);
                range(a[1], 0, 29999);
                for (int s = a[1]; s < a[1] + 2000 && s < 30000; s++) {
                    if (n.speaks(s, w.words)) {
                        return s;
                    }
                }
                throw new Finding(NONE);
            }
            case "go": return go(a[0]);
            case "say": {
                at(a[0]);
                range(a[1], 0, 9);
                need(w.words.size() < 200, FULL);
                w.words.add(new Word(w.now, a[0], a[1]));
                return w.words.size() - 1;
            }
            case "wordOf": {
                Word v = word(a[0]);
                range(a[1], 0, 3);
                return new int[] {v.second, v.name, v.topic, follows(a[0])}[a[1]];
            }
            case "below": {
                word(a[0]);
                return below(a[0]);
            }
            case "sign": {
                at(a[0]);
                range(a[1], 0, 6);
                return signs(a[0])[a[1]];
            }
            case "hours": {
                at(a[0]);
                return bitsOf(hours(a[0]));
            }
            default: return actOnTexts(call, a);
        }
    }

    private int actOnTexts(String call, int[] a) {
        switch (call) {
            case "feed": {
                range(a[1], 1, 4);
                need(tape.size() + a[1] <= 80, FULL);
                for (int i = a[1] - 1; i >= 0; i--) {
                    tape.add(a[0] >> 8 * i & 0xff);
                }
                return tape.size();
            }
            case "wipe": {
                int had = tape.size();
                tape.clear();
                return had;
            }
            case "text": {
                need(w.texts.size() < 6, FULL);
                PlainText text = new PlainText(tape);
                tape.clear();
                if (text.fault >= 0) {
                    return -1 - text.fault;
                }
                w.texts.add(text);
                return w.texts.size() - 1;
            }
            case "score": {
                PlainText text = textAt(a[0]);
                at(a[1]);
                return text.value(signs(a[1]));
            }
            case "found": {
                PlainText text = textAt(a[0]);
                range(a[2], 0, 2);
                return bitsOf(a[2] == 0 ? found(text, a[1]) : a[2] == 1 ? wronged(text, a[1]) : missed(text, a[1]));
            }
            case "line": return line(a);
            case "shutAll": {
                int weren = 0;
                for (int i : found(textAt(a[0]), a[1])) {
                    weren += at(i).isShut ? 0 : 1;
                    at(i).isShut = true;
                }
                return weren;
            }
            case "ask": {
                PlainText text = textAt(a[0]);
                range(a[1], -9999, 9999);
                int best = -1;
                BigInteger least = null;
                for (Name n : w.names) {
                    BigInteger off = BigInteger.valueOf(text.value(signs(n.number))).subtract(BigInteger.valueOf(a[1])).abs();
                    if (!n.isAsked && (least == null || off.compareTo(least) < 0)) {
                        least = off;
                        best = n.number;
                    }
                }
                need(best >= 0, NONE);
                return best;
            }
            case "asked": {
                Name n = at(a[0]);
                need(!n.isAsked, STATE);
                n.isAsked = true;
                return (int) w.names.stream().filter(o -> o.isAsked).count();
            }
            default: return actTogether(call, a);
        }
    }

    private int actTogether(String call, int[] a) {
        switch (call) {
            case "together": {
                at(a[0]);
                at(a[1]);
                beyond(a[0] == a[1]);
                range(a[2], 0, 99);
                return together(a[0], a[1], a[2]);
            }
            case "group": {
                at(a[0]);
                range(a[1], 0, 99);
                range(a[2], 1, 99);
                range(a[3], 0, 2);
                TreeSet<Integer> group = group(a[0], a[1], a[2]);
                return a[3] == 0 ? group.first() : a[3] == 1 ? group.size() : bitsOf(group);
            }
            case "groups": {
                range(a[0], 0, 99);
                range(a[1], 1, 99);
                TreeSet<Integer> leasts = new TreeSet<>();
                w.names.forEach(n -> leasts.add(group(n.number, a[0], a[1]).first()));
                return leasts.size();
            }
            case "club": {
                range(a[0], 0, 29999);
                range(a[1], 0, 99);
                TreeSet<Integer> set = new TreeSet<>();
                for (Word v : w.words) {
                    if (v.second >= a[0] && v.second - a[0] <= a[1]) {
                        set.add(v.name);
                    }
                }
                return bitsOf(set);
            }
            case "apart": {
                at(a[0]);
                at(a[1]);
                beyond(a[0] == a[1]);
                int just = 0;
                for (int h = 0; h < 10; h++) {
                    just += hours(a[0]).contains(h) != hours(a[1]).contains(h) ? 1 : 0;
                }
                return just;
            }
            case "counts": {
                range(a[0], -1, 9);
                TreeSet<Integer> without = setOf(a[1]);
                return (int) w.words.stream().filter(v -> (a[0] < 0 || v.topic == a[0]) && !without.contains(v.name)).count();
            }
            case "most": {
                TreeSet<Integer> without = setOf(a[0]);
                int[] told = new int[10];
                w.words.stream().filter(v -> !without.contains(v.name)).forEach(v -> told[v.topic]++);
                int best = 0;
                for (int i = 1; i < 10; i++) {
                    best = told[i] > told[best] ? i : best;
                }
                need(told[best] > 0, NONE);
                return best;
            }
            case "first": {
                range(a[0], 0, 9);
                for (int i = 0; i < w.words.size(); i++) {
                    if (w.words.get(i).topic == a[0]) {
                        return i;
                    }
                }
                throw new Finding(NONE);
            }
            case "many": {
                TreeSet<Integer> one = setOf(a[0]);
                TreeSet<Integer> other = setOf(a[1]);
                TreeSet<Integer> both = new TreeSet<>(one);
                both.retainAll(other);
                need(!both.isEmpty(), NONE);
                return one.size() * other.size() / both.size();
            }
            case "sold": {
                at(a[0]);
                return sold(a[0]);
            }
            default: return actOnSheets(call, a);
        }
    }

    private int actOnSheets(String call, int[] a) {
        switch (call) {
            case "seed": {
                int was = w.z;
                w.z = a[0];
                return was;
            }
            case "sample": {
                range(a[0], 1, 99);
                need(!w.names.isEmpty(), NONE);
                int machines = 0;
                for (int i = 0; i < a[0]; i++) {
                    w.z = (int) (w.z * 1103515245L + 12345L);
                    machines += w.names.get((w.z >>> 8) % w.names.size()) instanceof Person ? 0 : 1;
                }
                return machines;
            }
            case "hold": {
                range(a[0], 0, 9);
                if (a[1] != -1) {
                    at(a[1]);
                }
                w.spots[a[0]] = a[1];
                return 1;
            }
            case "as": {
                range(a[0], 0, 9);
                range(a[1], 0, 7);
                need(w.spots[a[0]] != -1, MISSING);
                Class<?>[] kinds = {Name.class, Person.class, Clock.class, Steady.class, Sleeper.class, Handed.class,
                    Clubbed.class, Half.class};
                need(kinds[a[1]].isInstance(at(w.spots[a[0]])), KIND);
                return w.spots[a[0]];
            }
            case "sheet": {
                range(a[0], 0, 3);
                beyond(a[1] != 0 && a[1] != 8 && a[1] != 16 && a[1] != 32);
                need(a[2] >= 0, SIZE);
                beyond(a[2] > 40);
                bits[a[0]] = a[1];
                sheets[a[0]] = a[1] == 0 ? null : new int[a[2]];
                return a[1] == 0 ? 0 : a[2];
            }
            case "write": {
                int[] sheet = sheetAt(a[0]);
                beyond(a[1] < 0 || a[1] >= sheet.length);
                int spare = 32 - bits[a[0]];
                sheet[a[1]] = a[2] << spare >> spare;
                return 1;
            }
            case "copy": return copy(a[0], a[1], a[2], a[3], a[4]);
            case "load": {
                int[] sheet = sheetAt(a[0]);
                int came = 0;
                for (int i = 0; i < sheet.length; i += 2) {
                    if (i + 1 == sheet.length || sheet[i] < 0 || sheet[i] >= w.names.size()
                        || sheet[i + 1] < 0 || sheet[i + 1] > 9 || w.words.size() == 200) {
                        break;
                    }
                    w.words.add(new Word(w.now, sheet[i], sheet[i + 1]));
                    came++;
                }
                return came;
            }
            case "judge": {
                int[] sheet = sheetAt(a[0]);
                for (int i = 0; i < sheet.length; i++) {
                    if (i >= w.words.size() || w.words.get(i).name != sheet[i]) {
                        return i + 1;
                    }
                }
                return sheet.length == w.words.size() ? 0 : sheet.length + 1;
            }
            default: return actOnImages(call, a);
        }
    }

    private int actOnImages(String call, int[] a) {
        switch (call) {
            case "image":
                kept = w.twin();
                return 1;
            case "undo":
                need(kept != null, NONE);
                w = kept.twin();
                return w.now;
            case "tear": {
                int was = kept == null ? 0 : 1;
                kept = null;
                return was;
            }
            case "count": {
                range(a[0], 0, 8);
                int shut = (int) w.names.stream().filter(n -> n.isShut).count();
                int asked = (int) w.names.stream().filter(n -> n.isAsked).count();
                return new int[] {w.names.size(), w.now, w.words.size(), w.lost, w.texts.size(), tape.size(), shut,
                    asked, w.z}[a[0]];
            }
            case "status": {
                range(a[0], -1, 6);
                int all = 0;
                for (int one : found) {
                    all += one;
                }
                return a[0] < 0 ? all : found[a[0]];
            }
            default: throw new IllegalStateException(call);
        }
    }

    private int name(int kind, int gap) {
        range(kind, 0, 7);
        range(gap, 1, 999);
        need(w.names.size() < 14, FULL);
        Name[] kinds = {new Name(), new Person(), new Clock(), new Steady(), new Sleeper(), new Handed(), new Clubbed(),
            new Half()};
        Name n = kinds[kind];
        n.kind = kind;
        n.gap = gap;
        n.number = w.names.size();
        w.names.add(n);
        return n.number;
    }

    private int nameOf(Name n, int what) {
        range(what, 0, 7);
        return new int[] {n.kind, n.gap, bitsOf(n.hours), n.jitter, n.leader, n.topic, n.isShut ? 1 : 0,
            n instanceof Person ? 1 : 0}[what];
    }

    private int change(Name n, int what, int v) {
        range(what, 1, 5);
        int was = nameOf(n, what);
        switch (what) {
            case 1:
                range(v, 1, 999);
                n.gap = v;
                break;
            case 2:
                range(v, 1, 1023);
                n.hours.clear();
                for (int h = 0; h < 10; h++) {
                    if ((v >> h) % 2 == 1) {
                        n.hours.add(h);
                    }
                }
                break;
            case 3:
                range(v, 0, 99);
                n.jitter = v;
                break;
            case 4:
                range(v, -1, w.names.size() - 1);
                beyond(v == n.number);
                n.leader = v;
                break;
            default:
                range(v, 0, 9);
                n.topic = v;
        }
        return was;
    }

    private int go(int n) {
        range(n, 1, 999);
        need(w.now + n <= 29999, STATE);
        for (int i = 0; i < n; i++) {
            for (Name one : w.names) {
                if (!one.isShut && one.speaks(w.now, w.words)) {
                    if (w.words.size() == 200) {
                        w.lost++;
                    } else {
                        w.words.add(new Word(w.now, one.number, one.tells(w.words)));
                    }
                }
            }
            w.now++;
        }
        return w.now;
    }

    private int follows(int word) {
        Word v = w.words.get(word);
        int told = -1;
        for (int i = 0; i < word; i++) {
            int earlier = v.second - w.words.get(i).second;
            if (w.words.get(i).name != v.name && earlier >= 1 && earlier <= 9) {
                told = i;
            }
        }
        return told;
    }

    private int below(int word) {
        int count = 0;
        for (int i = word + 1; i < w.words.size(); i++) {
            int above = follows(i);
            while (above > word) {
                above = follows(above);
            }
            count += above == word ? 1 : 0;
        }
        return count;
    }

    private List<Integer> wordsOf(int name) {
        List<Integer> list = new ArrayList<>();
        for (int i = 0; i < w.words.size(); i++) {
            if (w.words.get(i).name == name) {
                list.add(i);
            }
        }
        return list;
    }

    private TreeSet<Integer> hours(int name) {
        TreeSet<Integer> set = new TreeSet<>();
        wordsOf(name).forEach(i -> set.add(w.words.get(i).second / 100 % 10));
        return set;
    }

    private int[] signs(int name) {
        List<Integer> own = wordsOf(name);
        int sum = 0;
        int least = own.size() < 2 ? 0 : Integer.MAX_VALUE;
        for (int i = 1; i < own.size(); i++) {
            int gap = w.words.get(own.get(i)).second - w.words.get(own.get(i - 1)).second;
            sum += gap;
            least = Math.min(least, gap);
        }
        int following = 0;
        int behind = 99;
        TreeSet<Integer> topics = new TreeSet<>();
        for (int i : own) {
            topics.add(w.words.get(i).topic);
            if (follows(i) >= 0) {
                following++;
                behind = Math.min(behind, w.words.get(i).second - w.words.get(follows(i)).second);
            }
        }
        int mean = own.size() < 2 ? 0 : sum / (own.size() - 1);
        return new int[] {own.size(), mean, least, hours(name).size(), following, behind, topics.size(), name};
    }

    private TreeSet<Integer> found(PlainText text, int bar) {
        TreeSet<Integer> set = new TreeSet<>();
        for (Name n : w.names) {
            if (text.value(signs(n.number)) >= bar) {
                set.add(n.number);
            }
        }
        return set;
    }

    private TreeSet<Integer> wronged(PlainText text, int bar) {
        TreeSet<Integer> set = found(text, bar);
        set.removeIf(i -> !(at(i) instanceof Person));
        return set;
    }

    private TreeSet<Integer> missed(PlainText text, int bar) {
        TreeSet<Integer> set = new TreeSet<>();
        w.names.stream().filter(n -> !(n instanceof Person)).forEach(n -> set.add(n.number));
        set.removeAll(found(text, bar));
        return set;
    }

    private int line(int[] a) {
        PlainText text = textAt(a[0]);
        range(a[1], 0, 99);
        range(a[2], 0, 99);
        range(a[3], 0, 1);
        int[] scores = new int[w.names.size()];
        for (int i = 0; i < scores.length; i++) {
            scores[i] = text.value(signs(i));
        }
        int best = 0;
        int least = Integer.MAX_VALUE;
        for (int bar = 200; bar >= -200; bar--) {
            int sum = 0;
            for (int i = 0; i < scores.length; i++) {
                boolean isPerson = at(i) instanceof Person;
                boolean isFound = scores[i] >= bar;
                sum += isPerson && isFound ? a[1] : !isPerson && !isFound ? a[2] : 0;
            }
            if (sum <= least) {
                least = sum;
                best = bar;
            }
        }
        return a[3] == 0 ? best : least;
    }

    private int together(int a, int b, int t) {
        int count = 0;
        for (int i : wordsOf(a)) {
            boolean is = false;
            for (int j : wordsOf(b)) {
                is |= Math.abs(w.words.get(i).second - w.words.get(j).second) <= t;
            }
            count += is ? 1 : 0;
        }
        return count;
    }

    private TreeSet<Integer> group(int name, int t, int n) {
        TreeSet<Integer> group = new TreeSet<>();
        List<Integer> left = new ArrayList<>(List.of(name));
        while (!left.isEmpty()) {
            int one = left.remove(left.size() - 1);
            if (group.add(one)) {
                for (Name o : w.names) {
                    if (o.number != one && (together(one, o.number, t) >= n || together(o.number, one, t) >= n)) {
                        left.add(o.number);
                    }
                }
            }
        }
        return group;
    }

    private int sold(int name) {
        List<Integer> own = wordsOf(name);
        need(own.size() >= 2, NONE);
        int best = 0;
        BigInteger[] greatest = null;
        for (int k = 1; k < own.size(); k++) {
            long ahead = 0;
            long behind = 0;
            for (int i = 0; i < own.size(); i++) {
                int hour = w.words.get(own.get(i)).second / 100 % 10;
                ahead += i < k ? hour : 0;
                behind += i < k ? 0 : hour;
            }
            long others = own.size() - k;
            BigInteger top = BigInteger.valueOf(ahead * ahead * others + behind * behind * k);
            BigInteger bottom = BigInteger.valueOf(k * others);
            if (greatest == null || top.multiply(greatest[1]).compareTo(greatest[0].multiply(bottom)) > 0) {
                greatest = new BigInteger[] {top, bottom};
                best = k;
            }
        }
        return best;
    }

    private int[] sheetAt(int s) {
        range(s, 0, 3);
        need(sheets[s] != null, MISSING);
        return sheets[s];
    }

    private int copy(int s, int from, int t, int to, int n) {
        range(s, 0, 3);
        range(t, 0, 3);
        need(sheets[s] != null && sheets[t] != null, MISSING);
        need(bits[s] == bits[t], KIND);
        beyond(from < 0 || to < 0 || n < 0);
        beyond((long) from + n > sheets[s].length || (long) to + n > sheets[t].length);
        int[] were = sheets[s].clone();
        for (int i = 0; i < n; i++) {
            sheets[t][to + i] = were[from + i];
        }
        return n;
    }
}
