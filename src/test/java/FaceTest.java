import java.lang.reflect.Constructor;
import java.lang.reflect.Field;
import java.lang.reflect.Member;
import java.lang.reflect.Method;
import java.lang.reflect.Modifier;
import java.nio.file.Files;
import java.nio.file.Path;
import java.util.Arrays;
import java.util.Set;
import java.util.TreeSet;
import java.util.regex.Matcher;
import java.util.regex.Pattern;

/** The public face is the document's and no more; the words that the language rules out are not there. */
public final class FaceTest {
    private static final String[] FACE = {
        "int guest(int, int)", "int of(int, int)", "int likes(int, int)", "int sit(int, int)",
        "int leave(int, boolean)", "int pour(int)", "int row(int, int, int)", "int feed(int)", "int house()",
        "int told(int)", "int pass(int)", "int on(int, int)", "int soon(int)", "int best(int)", "int peace(int)",
        "int change()", "int seat(int)", "int see(int, boolean, int)", "int where(int)", "int can(int, int)",
        "long odds(int, int)", "long mean(int)", "int plan(int, int)", "int ends(int)", "int book(int, int)",
        "int looked()", "int judge(int, int)", "int image()", "int undo()", "int act(int, int, int)",
        "int trace(int)", "int taken(int, int)", "int count(int)", "int tape(int, int, int)",
        "int item(int, int, long)", "long read(int, int)", "int shift(int, int, int, int, int)",
    };
    private static final String RULED_OUT =
        "\\b(import|package|throw|throws|try|catch|synchronized|assert|System\\.(?!arraycopy)\\w+|Integer\\.M\\w+"
        + "|equals|hashCode|toString|protected|Object|static\\s*\\{|volatile|transient|native)\\b|->|::|/ 0";

    public static void main(String[] args) throws Exception {
        Class<?> c = LeavesRoom.class;
        Check.due("the class is public and final", c.getModifiers(), Modifier.PUBLIC | Modifier.FINAL);
        constants();
        methods(c);
        for (Class<?> inside : c.getDeclaredClasses()) {
            for (Method m : inside.getDeclaredMethods()) {
                Check.due(inside + "'s " + m.getName() + " is named as the face's is", isOfTheFace(m.getName()) ? 1 : 0, 0);
                Check.due(inside + "'s " + m.getName() + " takes seven at most", m.getParameterCount() <= 7 ? 1 : 0, 1);
            }
            Check.due(inside + " is static and not public", inside.getModifiers()
                & (Modifier.STATIC | Modifier.PUBLIC | Modifier.PROTECTED), Modifier.STATIC);
        }
        words();
        Check.end("FaceTest");
    }

    private static void constants() throws Exception {
        Check.due("NONE", LeavesRoom.NONE, -1);
        Check.due("BAD", LeavesRoom.BAD, -2);
        Check.due("STATE", LeavesRoom.STATE, -3);
        Check.due("FULL", LeavesRoom.FULL, -4);
        Check.due("NO", LeavesRoom.NO, Long.MIN_VALUE);
        Set<String> open = new TreeSet<>();
        for (Field f : LeavesRoom.class.getDeclaredFields()) {
            if (isOpen(f)) {
                open.add(f.getName() + " " + f.getType());
            }
        }
        same("constants", open, "NONE int", "BAD int", "STATE int", "FULL int", "NO long");
    }

    private static void methods(Class<?> c) {
        Set<String> open = new TreeSet<>();
        Set<String> hidden = new TreeSet<>();
        for (Method m : c.getDeclaredMethods()) {
            String arguments = Arrays.toString(m.getParameterTypes()).replace('[', '(').replace(']', ')');
            (isOpen(m) ? open : hidden).add(isOpen(m) ? m.getReturnType() + " " + m.getName() + arguments : m.getName());
            Check.due(m.getName() + " takes seven at most", m.getParameterCount() <= 7 ? 1 : 0, 1);
        }
        same("methods", open, FACE);
        for (String call : FACE) {
            String name = call.substring(call.indexOf(' ') + 1, call.indexOf('('));
            Check.due("a private method is named " + name, hidden.contains(name) ? 1 : 0, 0);
        }
        Constructor<?>[] made = c.getDeclaredConstructors();
        Check.due("constructors", made.length, 1);
        Check.due("the constructor", made[0].getParameterCount() + made[0].getModifiers(), Modifier.PUBLIC);
    }

    private static boolean isOfTheFace(String name) {
        for (String call : FACE) {
            if (call.contains(" " + name + "(")) {
                return true;
            }
        }
        return false;
    }

    private static boolean isOpen(Member m) {
        return !Modifier.isPrivate(m.getModifiers()) && !m.isSynthetic();
    }

    private static void same(String what, Set<String> got, String... want) {
        Set<String> due = new TreeSet<>(Arrays.asList(want));
        if (!got.equals(due)) {
            System.out.println(what + ": " + got + ", due are " + due);
        }
        Check.due(what, got.equals(due) ? 1 : 0, 1);
    }

    private static void words() throws Exception {
        String code = Files.readString(Path.of("src/main/java/LeavesRoom.java"))
            .replaceAll("(?s)/\\*.*?\\*/", " ").replaceAll("//.*", " ").replaceAll("\"[^\"]*\"", "\"\"");
        Matcher found = Pattern.compile(RULED_OUT).matcher(code);
        int many = 0;
        while (found.find()) {
            System.out.println("the language rules out: " + found.group());
            many++;
        }
        Check.due("words that are ruled out", many, 0);
    }
}
