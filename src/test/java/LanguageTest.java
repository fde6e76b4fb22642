import java.lang.reflect.Constructor;
import java.lang.reflect.Field;
import java.lang.reflect.Method;
import java.lang.reflect.Modifier;
import java.nio.file.Files;
import java.nio.file.Path;
import java.util.Arrays;
import java.util.Set;
import java.util.TreeSet;
import java.util.regex.Matcher;
import java.util.regex.Pattern;

/** What can be looked at of LANGUAGE.md's rules: the face, and words that the source must not hold. */
public final class LanguageTest {
    private static final String FACE = "int need(int,int);int of(int,int);int worth(int,int,int);int serve(int);"
        + "int spare(int);int darks(int);int row(int,int,int);int feed(int);int archive();int told(int);"
        + "long mean(int,int);int wise(int,int);long price(int,int);long greedy(int,int);long only(int,int,int);"
        + "int chosen(int);long spent(int,int);int threshold(int);int century(int);int plan(int);int ends(int);"
        + "int see(int,int,int);int can(int,int);int darked(int);int book(int,int);int looked();int judge(int,int);"
        + "int image();int undo();int act(int,int,int);int trace(int);int taken(int,int);int count(int);"
        + "int tape(int,int,int);int item(int,int,long);long read(int,int);int shift(int,int,int,int,int)";

    private static String told(Method method) {
        StringBuilder types = new StringBuilder();
        for (Class<?> type : method.getParameterTypes()) {
            types.append(types.length() == 0 ? "" : ",").append(type.getName());
        }
        return method.getReturnType().getName() + " " + method.getName() + "(" + types + ")";
    }

    private static void face() {
        Set<String> due = new TreeSet<>(Arrays.asList(FACE.split(";")));
        Set<String> found = new TreeSet<>();
        Set<String> names = new TreeSet<>();
        for (Method method : EclipsesKept.class.getDeclaredMethods()) {
            if (Modifier.isPublic(method.getModifiers())) {
                found.add(told(method));
                names.add(method.getName());
            }
        }
        Due.due("1: the face " + found, found.equals(due) ? 1 : 0, 1);
        for (Method method : EclipsesKept.class.getDeclaredMethods()) {
            int mods = method.getModifiers();
            Due.due("1: " + method, Modifier.isPublic(mods) != Modifier.isPrivate(mods) ? 1 : 0, 1);
            Due.due("1: " + method, Modifier.isPrivate(mods) && names.contains(method.getName()) ? 1 : 0, 0);
        }
        Constructor<?>[] made = EclipsesKept.class.getDeclaredConstructors();
        Due.due("1: constructors", made.length, 1);
        Due.due("1: no arguments", made[0].getParameterCount(), 0);
        Due.due("1: final", Modifier.isFinal(EclipsesKept.class.getModifiers()) ? 1 : 0, 1);
        Set<String> constants = Set.of("NONE", "BAD", "STATE", "FULL", "NO");
        for (Field field : EclipsesKept.class.getDeclaredFields()) {
            boolean told = constants.contains(field.getName());
            Due.due("1: " + field, Modifier.isPublic(field.getModifiers()) == told ? 1 : 0, 1);
            Due.due("1: " + field, told || Modifier.isPrivate(field.getModifiers()) ? 1 : 0, 1);
        }
    }

    private static void inside() {
        Class<?>[] classes = EclipsesKept.class.getDeclaredClasses();
        Due.due("11: classes", classes.length + 1 <= 12 ? 1 : 0, 1);
        for (Class<?> one : classes) {
            Due.due("2: static " + one, Modifier.isStatic(one.getModifiers()) ? 1 : 0, 1);
            Due.due("2: public " + one, Modifier.isPublic(one.getModifiers()) ? 1 : 0, 0);
            fields(one);
        }
        fields(EclipsesKept.class);
    }

    private static void fields(Class<?> one) {
        int own = 0;
        for (Field field : one.getDeclaredFields()) {
            if (!Modifier.isStatic(field.getModifiers())) {
                own++;
                continue;
            }
            Due.due("5: final " + field, Modifier.isFinal(field.getModifiers()) ? 1 : 0, 1);
            Due.due("5: a number " + field, field.getType().isPrimitive() ? 1 : 0, 1);
        }
        Due.due("11: fields of " + one, own <= 20 ? 1 : 0, 1);
        for (Method method : one.getDeclaredMethods()) {
            Due.due("11: parameters of " + method, method.getParameterCount() <= 7 ? 1 : 0, 1);
        }
    }

    private static void words() throws Exception {
        String source = Files.readString(Path.of("src/main/java/EclipsesKept.java"));
        String bare = source.replaceAll("(?s)/\\*.*?\\*/", " ").replaceAll("//[^\n]*", " ")
            .replaceAll("\"(\\\\.|[^\"\\\\])*\"", "\"\"");
        String[] not = {"\\b(throw|throws|try|catch|synchronized|assert|import|package|native|volatile|var|yield)\\b",
            "->", "::", "@", "Exact\\b", "\\b(hashCode|toCharArray|System\\.(?!arraycopy))", "\\bequals\\b",
            "\\b(double|float)\\b", "\\bstatic\\s*\\{", "\"\\s*\\+|\\+\\s*\"", "\\bwhile\\b",
            "\\b(Object|Random|Thread|Math\\.random)\\b"};
        for (String word : not) {
            Matcher found = Pattern.compile(word).matcher(bare);
            Due.due("not in the source: " + word + (found.find() ? " at " + found.start() : ""),
                Pattern.compile(word).matcher(bare).find() ? 1 : 0, 0);
        }
        for (char sign : source.toCharArray()) {
            if (sign > 126) {
                Due.due("a sign above 126", sign, 126);
            }
        }
        methods(bare);
    }

    /** No method is longer than sixty lines: from one line with four or eight blanks and a brace on. */
    private static void methods(String bare) {
        String[] lines = bare.split("\n");
        for (int k = 0; k < lines.length; k++) {
            Matcher head = Pattern.compile("^( {4}| {8})\\S.*\\) \\{$").matcher(lines[k]);
            if (!head.matches()) {
                continue;
            }
            int end = k;
            while (end < lines.length && !lines[end].equals(head.group(1) + "}")) {
                end++;
            }
            Due.due("11: the length of " + lines[k].trim(), end - k <= 60 ? 1 : 0, 1);
        }
    }

    public static void main(String[] args) throws Exception {
        face();
        inside();
        words();
        Due.end("LanguageTest");
    }
}
