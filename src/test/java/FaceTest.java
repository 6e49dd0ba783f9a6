import java.io.IOException;
import java.lang.reflect.Constructor;
import java.lang.reflect.Field;
import java.lang.reflect.Method;
import java.lang.reflect.Modifier;
import java.nio.file.Files;
import java.nio.file.Path;
import java.util.ArrayList;
import java.util.Arrays;
import java.util.List;
import java.util.Set;
import java.util.TreeSet;
import java.util.regex.Matcher;
import java.util.regex.Pattern;

/** The class has the document's face and no more, and its text keeps to what of LANGUAGE.md a look can tell. */
public final class FaceTest {
    private static final String FACE = """
        int count(int)
        int feed(int,int,int,int,int,int)
        int text()
        int force(int)
        int asks(int,int,int,int)
        int thing(int,int,int)
        int come(int,int)
        int told(int,int)
        int lock(int,int,int)
        int relock(int,int,int)
        int lockTold(int,int)
        int holds(int)
        int free()
        int go(int)
        int saw(int)
        int waits(int)
        int never()
        int first(int,int)
        int ring(int,int)
        long rows(int)
        long ways()
        int row()
        int hour(int)
        int day(int)
        int pass(int)
        int sawFor(int,int)
        int sawAll(int)
        int keys(int)
        int note(int,int)
        int out(int)
        int steals()
        int theft(int)
        int loot(int)
        int guard(int,int,int)
        int judge(int)
        int whose(int,int,int)
        int kinds(int,int)
        int laws(int)
        int film(int)
        int seen(int)
        int drawn(int,int)
        long odds(int,int,int,int)
        int image()
        int back()
        int sheet(int,int,int)
        int cell(int,int,int)
        int copy(int,int,int,int,int)
        int locksBy(int,int,int,int)
        int taken(int,int)
        """;
    private static int wrong = 0;

    public static void main(String[] args) throws IOException {
        face();
        insides();
        source();
        System.out.println(wrong == 0 ? "the face is as due" : wrong + " faults of the face");
        if (wrong != 0) {
            System.exit(1);
        }
    }

    private static void due(String what, Object got, Object want) {
        if (!got.equals(want)) {
            wrong++;
            System.out.println(what + " is " + got + ", due is " + want);
        }
    }

    private static String signature(Method m) {
        StringBuilder b = new StringBuilder(m.getReturnType().getName() + " " + m.getName() + "(");
        for (int i = 0; i < m.getParameterCount(); i++) {
            b.append(i == 0 ? "" : ",").append(m.getParameterTypes()[i].getName());
        }
        return b.append(")").toString();
    }

    private static Set<String> publicNames() {
        Set<String> names = new TreeSet<>();
        for (String line : FACE.split("\n")) {
            names.add(line.substring(line.indexOf(' ') + 1, line.indexOf('(')));
        }
        return names;
    }

    private static void face() {
        Class<?> c = LockedToAnothers.class;
        due("the class", Modifier.toString(c.getModifiers()), "public final");
        due("what it extends", c.getSuperclass(), Object.class);
        Constructor<?>[] made = c.getDeclaredConstructors();
        due("constructors", made.length, 1);
        due("the constructor", made[0].toString(), "public LockedToAnothers()");
        Set<String> methods = new TreeSet<>();
        for (Method m : c.getDeclaredMethods()) {
            if (Modifier.isPublic(m.getModifiers())) {
                methods.add(signature(m));
                due(m.getName(), Modifier.toString(m.getModifiers()), "public");
            } else if (!m.isSynthetic()) {
                due(m + " private", Modifier.isPrivate(m.getModifiers()), true);
                due(m + " named as a public one", publicNames().contains(m.getName()), false);
            }
        }
        due("public methods", methods, new TreeSet<>(Arrays.asList(FACE.split("\n"))));
        Set<String> fields = new TreeSet<>();
        for (Field f : c.getDeclaredFields()) {
            if (Modifier.isPublic(f.getModifiers())) {
                fields.add(f.getType().getName() + " " + f.getName());
                due(f.getName(), Modifier.toString(f.getModifiers()), "public static final");
            } else {
                due(f + " private", Modifier.isPrivate(f.getModifiers()), true);
            }
        }
        due("constants", fields, Set.of("int NONE", "int BAD", "int STATE", "int FULL", "long NO"));
    }

    private static void insides() {
        Class<?>[] inside = LockedToAnothers.class.getDeclaredClasses();
        due("some twelve classes", inside.length <= 11, true);
        for (Class<?> c : inside) {
            due(c + " static", Modifier.isStatic(c.getModifiers()), true);
            due(c + " public", Modifier.isPublic(c.getModifiers()) || Modifier.isProtected(c.getModifiers()), false);
            int fields = 0;
            for (Field f : c.getDeclaredFields()) {
                boolean isStatic = Modifier.isStatic(f.getModifiers());
                fields += isStatic ? 0 : 1;
                due(f + " final", !isStatic || Modifier.isFinal(f.getModifiers()), true);
            }
            due(c + " with some twenty fields", fields <= 20, true);
            for (Method m : c.getDeclaredMethods()) {
                due(m + " named as one of the face", publicNames().contains(m.getName()), false);
                due(m + " takes at most seven", m.getParameterCount() <= 7, true);
            }
        }
    }

    private static void source() throws IOException {
        String text = Files.readString(Path.of("src/main/java/LockedToAnothers.java"));
        String code = text.replaceAll("(?s)/\\*.*?\\*/", "").replaceAll("//[^\n]*", "").replaceAll("\"[^\"\n]*\"", "\"\"");
        List<String> refused = List.of("\\bpackage\\b", "\\bimport\\b", "->", "::", "\\btry\\b", "\\bcatch\\b", "\\bfinally\\b",
            "\\bsynchronized\\b", "\\bassert\\b", "\\bvar\\b", "\\bInteger\\.(?!bitCount)", "\\bMath\\.(?!max|min)", "\\bSystem\\.(?!arraycopy)",
            "\\bThread\\b", "\\bRandom\\b", "\\bObject\\b", "\\bprotected\\b", "static\\s*\\{", "\\binstanceof\\b", "while \\(true");
        for (String one : refused) {
            Matcher m = Pattern.compile(one).matcher(code);
            due("the source has " + one, m.find(), false);
        }
        for (int i = 0; i < text.length(); i++) {
            if (text.charAt(i) > 126) {
                due("sign " + i, (int) text.charAt(i), "plain");
            }
        }
        methodLengths(code);
    }

    /** A method begins at a line that ends in a brace and isn't a class, deeper than the class it stands in. */
    private static void methodLengths(String code) {
        List<String> lines = new ArrayList<>(Arrays.asList(code.split("\n")));
        Pattern head = Pattern.compile("^( {4}| {8})[a-zA-Z].*\\) \\{$");
        for (int i = 0; i < lines.size(); i++) {
            Matcher m = head.matcher(lines.get(i));
            if (m.matches() && !lines.get(i).trim().matches("(if|for|while|switch).*")) {
                int end = i;
                while (!lines.get(end).equals(m.group(1) + "}")) {
                    end++;
                }
                due(lines.get(i).trim() + " is short", end - i <= 60, true);
            }
        }
    }
}
