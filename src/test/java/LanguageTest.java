import java.io.IOException;
import java.lang.reflect.Constructor;
import java.lang.reflect.Field;
import java.lang.reflect.Member;
import java.lang.reflect.Method;
import java.lang.reflect.Modifier;
import java.nio.file.Files;
import java.nio.file.Path;
import java.util.TreeSet;
import java.util.regex.Matcher;
import java.util.regex.Pattern;

/** The rules of LANGUAGE.md that can be seen from outside or read off the source. */
public final class LanguageTest {
    private static final Due due = new Due("LanguageTest");
    private static final String FACE = "name(int,int) nameOf(int,int) change(int,int,int) shut(int,boolean) object() "
        + "speaks(int,int) next(int,int) go(int) say(int,int) wordOf(int,int) below(int) sign(int,int) hours(int) "
        + "feed(int,int) wipe() text() score(int,int) found(int,int,int) line(int,int,int,int) shutAll(int,int) "
        + "ask(int,int) asked(int) together(int,int,int) group(int,int,int,int) groups(int,int) club(int,int) "
        + "apart(int,int) counts(int,int) most(int) first(int) many(int,int) sold(int) seed(int) sample(int) "
        + "hold(int,int) as(int,int) sheet(int,int,int) write(int,int,int) copy(int,int,int,int,int) load(int) "
        + "judge(int) image() undo() tear() count(int) status(int)";

    public static void main(String[] args) throws IOException {
        face();
        classesInside();
        source(Files.readString(Path.of(System.getProperty("awake.root", "."), "src/main/java/AwakeBoard.java")));
        due.end();
    }

    private static void face() {
        TreeSet<String> want = new TreeSet<>();
        for (String one : FACE.split(" ")) {
            want.add("int " + one);
        }
        TreeSet<String> got = new TreeSet<>();
        TreeSet<String> publicNames = new TreeSet<>();
        for (Method m : AwakeBoard.class.getDeclaredMethods()) {
            if (!Modifier.isPrivate(m.getModifiers())) {
                StringBuilder types = new StringBuilder();
                for (Class<?> type : m.getParameterTypes()) {
                    types.append(types.length() == 0 ? "" : ",").append(type.getName());
                }
                got.add(m.getReturnType() + " " + m.getName() + "(" + types + ")");
                publicNames.add(m.getName());
                due.is("rule 1, public " + m.getName(), Modifier.isPublic(m.getModifiers()) ? 1 : 0, 1);
            }
        }
        due.is("rule 1, the face " + got, got.equals(want) ? 1 : 0, 1);
        noNameTwice(AwakeBoard.class, publicNames);
        for (Class<?> inside : AwakeBoard.class.getDeclaredClasses()) {
            noNameTwice(inside, publicNames);
        }
        int modifiers = AwakeBoard.class.getModifiers();
        due.is("rule 1, public and final", Modifier.isPublic(modifiers) && Modifier.isFinal(modifiers) ? 1 : 0, 1);
        Constructor<?>[] constructors = AwakeBoard.class.getDeclaredConstructors();
        due.is("rule 1, one constructor", constructors.length, 1);
        due.is("rule 1, without parameters", constructors[0].getParameterCount(), 0);
        for (Field f : AwakeBoard.class.getDeclaredFields()) {
            due.is("rule 1, private " + f.getName(), Modifier.isPrivate(f.getModifiers()) ? 1 : 0, 1);
        }
    }

    private static void noNameTwice(Class<?> where, TreeSet<String> publicNames) {
        for (Method m : where.getDeclaredMethods()) {
            boolean isFace = where == AwakeBoard.class && Modifier.isPublic(m.getModifiers());
            due.is("rule 1, another " + m.getName(), !isFace && publicNames.contains(m.getName()) ? 1 : 0, 0);
        }
    }

    private static void classesInside() {
        Class<?>[] inside = AwakeBoard.class.getDeclaredClasses();
        due.is("rule 11, classes", inside.length < 12 ? 1 : 0, 1);
        fieldsOf(AwakeBoard.class);
        for (Class<?> one : inside) {
            due.is("rule 1, private " + one, Modifier.isPrivate(one.getModifiers()) ? 1 : 0, 1);
            due.is("rule 2, static " + one, Modifier.isStatic(one.getModifiers()) ? 1 : 0, 1);
            fieldsOf(one);
        }
    }

    private static void fieldsOf(Class<?> where) {
        int fields = 0;
        for (Field f : where.getDeclaredFields()) {
            if (isStatic(f)) {
                due.is("rule 5, final " + f.getName(), Modifier.isFinal(f.getModifiers()) ? 1 : 0, 1);
            } else {
                fields++;
            }
        }
        due.is("rule 11, fields of " + where, fields <= 20 ? 1 : 0, 1);
        for (Method m : where.getDeclaredMethods()) {
            due.is("rule 11, parameters of " + m, m.getParameterCount() <= 7 ? 1 : 0, 1);
        }
    }

    private static boolean isStatic(Member m) {
        return Modifier.isStatic(m.getModifiers());
    }

    private static void source(String whole) {
        String code = whole.replaceAll("(?s)/\\*.*?\\*/", "").replaceAll("//[^\n]*", "").replaceAll("\"[^\"\n]*\"", "\"\"");
        String[] banned = {"\\bthrow\\b", "\\bthrows\\b", "\\btry\\b", "\\bcatch\\b", "\\bfinally\\b", "\\bsynchronized\\b",
            "\\bassert\\b", "->", "::", "\\bimport\\b", "\\bpackage\\b", "\\bprotected\\b", "\\bvolatile\\b", "\\bnative\\b",
            "\\bdouble\\b", "\\bfloat\\b", "Exact\\b", "\\bstatic\\s*\\{", "\\bObject\\b", "\\bhashCode\\b", "\\btoString\\b",
            "\\bThread\\b", "\\bSystem\\.(?!arraycopy\\b)", "\\bMath\\.(?!min\\b|max\\b|abs\\b)",
            "\\bInteger\\.(?!bitCount\\b)", "\\bwhile\\s*\\(\\s*true", "for\\s*\\(\\s*;"};
        for (String one : banned) {
            Matcher m = Pattern.compile(one).matcher(code);
            due.is("rules 3 to 13, no " + one, m.find() ? 1 : 0, 0);
        }
        due.is("rule 4, signs 1 to 127", whole.chars().allMatch(c -> c > 0 && c < 128) ? 1 : 0, 1);
        shortMethods(whole.split("\n"));
    }

    /** A method begins at a line that ends with ") {" in a class, and ends at the brace below its begin. */
    private static void shortMethods(String[] lines) {
        Pattern head = Pattern.compile("^( {4}| {8})(?:(?:public|private|static|final) )*[\\w\\[\\]]* ?\\w+\\(.*\\) \\{$");
        for (int i = 0; i < lines.length; i++) {
            Matcher m = head.matcher(lines[i]);
            if (m.matches() && !lines[i].trim().matches("(if|for|while|switch|else)\\b.*")) {
                int end = i;
                while (!lines[end].equals(m.group(1) + "}")) {
                    end++;
                }
                due.is("rule 11, lines of " + lines[i].trim(), end - i < 60 ? 1 : 0, 1);
            }
        }
    }
}
