import java.lang.reflect.InvocationTargetException;
import java.lang.reflect.Method;
import java.lang.reflect.Modifier;
import java.util.ArrayList;
import java.util.List;
import java.util.Random;
import java.util.TreeMap;

/** Runs of calls drawn by a fixed seed: AwakeBoard must answer what PlainBoard answers. */
public final class ModelTest {
    /** java -Dawake.runs=3000 asks more of it than .ci/run does. */
    private static final int RUNS = Integer.getInteger("awake.runs", 500);
    private static final int CALLS = 512;
    private static final String[] TEXTS = {"w", "g-l", "w*3-g/2", "(w<9)+h*f", "q-n", "-t*(g-30)", "((l=g)*40)-w/f",
        "n*n-20", "9999*9999*n", "w-100", "h<3=1", "(w", "2+", "w<g<l", "10000", "-------w", "((((((h))))))", "n%2",
        "5/(n-3)", "0-n", "w+10*(q<2)+5*(f=w)"};

    private final Random random;
    private final List<Method> face;
    private final TreeMap<String, Integer> told = new TreeMap<>();
    private AwakeBoard real;
    private PlainBoard plain;
    private final StringBuilder run = new StringBuilder();

    private ModelTest(long seed) {
        random = new Random(seed);
        face = new ArrayList<>();
        for (Method m : AwakeBoard.class.getDeclaredMethods()) {
            if (Modifier.isPublic(m.getModifiers())) {
                face.add(m);
            }
        }
        face.sort((a, b) -> a.getName().compareTo(b.getName()));
    }

    public static void main(String[] args) throws ReflectiveOperationException {
        ModelTest test = new ModelTest(20261118);
        long calls = 0;
        for (int i = 0; i < RUNS; i++) {
            if (!test.oneRun(i)) {
                System.out.println("ModelTest: run " + i + ":\n" + test.run);
                System.exit(1);
            }
            calls += CALLS;
        }
        System.out.println("ModelTest: " + calls + " calls alike; ordinary answers by call: " + test.told);
        if (test.face.size() != 47 - 1 || test.told.size() != test.face.size()) {
            System.out.println("ModelTest: not every call of the face was asked: " + test.face.size());
            System.exit(1);
        }
    }

    private boolean oneRun(int number) throws ReflectiveOperationException {
        real = new AwakeBoard();
        plain = new PlainBoard();
        run.setLength(0);
        boolean isWild = number % 10 == 9;
        boolean isSlow = number % 3 == 0;
        int done = 0;
        if (!isWild) {
            done = settle();
            if (done < 0) {
                return false;
            }
        }
        while (done < CALLS) {
            Method m = face.get(random.nextInt(face.size()));
            String name = m.getName();
            boolean isRare = name.equals("undo") || name.equals("wipe") || name.equals("text") || name.equals("sheet");
            if (isRare && random.nextInt(3) > 0 || isSlow && name.equals("go") && random.nextInt(4) > 0) {
                continue;
            }
            if (name.equals("feed") && random.nextInt(4) == 0 && done + 30 < CALLS) {
                String text = TEXTS[random.nextInt(TEXTS.length)];
                for (int i = 0; i < text.length(); i++, done++) {
                    if (!alike("feed", text.charAt(i), 1)) {
                        return false;
                    }
                }
                done++;
                if (!alike("text")) {
                    return false;
                }
                continue;
            }
            int[] a = new int[m.getParameterCount()];
            for (int i = 0; i < a.length; i++) {
                a[i] = isWild && random.nextInt(3) == 0 ? random.nextInt() : argument(name, i, isSlow);
            }
            done++;
            if (!alike(name, a)) {
                return false;
            }
        }
        return true;
    }

    /** Some names first, so that a run has something to speak of. */
    private int settle() throws ReflectiveOperationException {
        int names = random.nextInt(14);
        for (int i = 0; i < names; i++) {
            if (!alike("name", random.nextInt(8), 1 + random.nextInt(random.nextBoolean() ? 40 : 400))) {
                return -1;
            }
        }
        for (int i = 0; i < names; i++) {
            int what = 2 + random.nextInt(4);
            if (!alike("change", i, what, argument("change", what + 1, false))) {
                return -1;
            }
        }
        return 2 * names;
    }

    private int argument(String call, int place, boolean isSlow) {
        if (random.nextInt(60) == 0) {
            return random.nextInt(5) == 0 ? random.nextInt() : random.nextInt(300) - 20;
        }
        switch (call) {
            case "go": return isSlow ? 1 + random.nextInt(12) : 1 + random.nextInt(random.nextInt(8) == 0 ? 999 : 60);
            case "change": return changed(place);
            case "name": return place == 0 ? random.nextInt(8) : 1 + random.nextInt(60);
            case "nameOf": return random.nextInt(place == 0 ? 12 : 8);
            case "speaks":
            case "next":
            case "club": return place == 0 && !call.equals("club") ? random.nextInt(12) : second(call, place);
            case "say": return random.nextInt(place == 0 ? 12 : 10);
            case "wordOf":
            case "below": return place == 0 ? random.nextInt(Math.max(1, plain.w.words.size()) + 1) : random.nextInt(4);
            case "sign": return random.nextInt(place == 0 ? 12 : 7);
            case "feed": return place == 0 ? random.nextInt() : 1 + random.nextInt(4);
            case "score": return random.nextInt(place == 0 ? 4 : 12);
            case "found":
            case "shutAll":
            case "ask": return place == 0 ? random.nextInt(4) : place == 2 ? random.nextInt(3) : random.nextInt(80) - 20;
            case "line": return place == 0 ? random.nextInt(4) : random.nextInt(place == 3 ? 2 : 20);
            case "together": return place == 2 ? random.nextInt(40) : random.nextInt(12);
            case "group": return place == 0 ? random.nextInt(12) : random.nextInt(place == 1 ? 12 : place == 2 ? 12 : 3);
            case "groups": return place == 0 ? random.nextInt(12) : 1 + random.nextInt(12);
            case "counts": return place == 0 ? random.nextInt(11) - 1 : random.nextInt(1 << random.nextInt(15));
            case "most":
            case "many": return random.nextInt(1 << random.nextInt(15));
            case "first": return random.nextInt(10);
            case "shut": return place == 0 ? random.nextInt(12) : random.nextInt(2);
            case "hold": return place == 0 ? random.nextInt(10) : random.nextInt(13) - 1;
            case "as": return random.nextInt(place == 0 ? 10 : 8);
            case "sheet": return place == 0 ? random.nextInt(4) : place == 1 ? 8 * random.nextInt(5) : random.nextInt(41);
            case "write": return place == 0 ? random.nextInt(4) : place == 1 ? random.nextInt(20) : written();
            case "copy": return random.nextInt(place == 0 || place == 2 ? 4 : 12);
            case "load":
            case "judge": return random.nextInt(4);
            case "count": return random.nextInt(9);
            case "status": return random.nextInt(8) - 1;
            case "sample": return 1 + random.nextInt(99);
            default: return random.nextInt(12);
        }
    }

    private int second(String call, int place) {
        if (call.equals("club") && place == 1) {
            return random.nextInt(100);
        }
        int near = Math.max(0, plain.w.now - random.nextInt(300) + 20);
        return random.nextInt(3) == 0 ? random.nextInt(30000) : Math.min(29999, near);
    }

    private int written() {
        return random.nextInt(4) == 0 ? random.nextInt() : random.nextInt(10);
    }

    /** For place 2 the argument fits none of the whats in particular; above it, the what of place - 1. */
    private int changed(int place) {
        switch (place) {
            case 0: return random.nextInt(12);
            case 1: return 1 + random.nextInt(5);
            case 3: return 1 + random.nextInt(1023);
            case 4: return random.nextInt(30);
            case 5: return random.nextInt(12) - 1;
            default: return random.nextInt(14) - 1;
        }
    }

    private boolean alike(String name, int... a) throws ReflectiveOperationException {
        Method method = null;
        for (Method m : face) {
            method = m.getName().equals(name) ? m : method;
        }
        Object[] boxed = new Object[a.length];
        run.append(name).append('(');
        for (int i = 0; i < a.length; i++) {
            boolean isFlag = method.getParameterTypes()[i] == boolean.class;
            boxed[i] = isFlag ? (Object) (a[i] != 0) : (Object) a[i];
            run.append(i == 0 ? "" : ", ").append(boxed[i]);
        }
        int want = plain.call(name, a);
        int got;
        try {
            got = (Integer) method.invoke(real, boxed);
        } catch (InvocationTargetException e) {
            run.append(") threw ").append(e.getCause()).append(", due is ").append(want);
            return false;
        }
        run.append(") ").append(got).append('\n');
        told.merge(name, want > -1000000 ? 1 : 0, Integer::sum);
        if (got != want) {
            run.append("due is ").append(want);
        }
        return got == want;
    }
}
