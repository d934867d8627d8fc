import java.lang.reflect.Constructor;
import java.lang.reflect.Field;
import java.lang.reflect.Method;
import java.lang.reflect.Modifier;
import java.nio.file.Files;
import java.nio.file.Path;
import java.util.ArrayList;
import java.util.Arrays;
import java.util.List;
import java.util.Set;
import java.util.TreeSet;
import java.util.regex.Matcher;
import java.util.regex.Pattern;

/** The public face of the document, and what of LANGUAGE.md can be seen from outside. */
public final class FaceTest {
    private static final String[] FACE = {
        "int thing(int)", "int eye(int,boolean)", "int feed(int,int,int,int,int)", "int end(int)", "int text()",
        "int fault(int)", "boolean by(int)", "int touch(int,int)", "boolean put(int,int)", "boolean swap(int,int)",
        "int polish(int)", "int played(int)", "int cat(int,int)", "int undo()", "int of(int,int)",
        "int told(int,int,int)", "int verdict(int)", "int quarrel(int)", "int shown(int)", "int how(int,int,int)",
        "int supper(int,int,int)", "int image()", "int back()", "int about(int)"};
    private static final int MOST_CLASSES = 12;
    private static final int MOST_FIELDS = 20;
    private static final int MOST_PARAMETERS = 7;
    private static final int MOST_LINES = 60;

    private static int wrong = 0;

    private static void check(boolean good, String what) {
        if (!good) {
            wrong++;
            System.out.println("not so: " + what);
        }
    }

    private static String signature(Method m) {
        List<String> types = new ArrayList<>();
        for (Class<?> type : m.getParameterTypes()) {
            types.add(type.getName());
        }
        return m.getReturnType().getName() + " " + m.getName() + "(" + String.join(",", types) + ")";
    }

    private static void checkFace() throws Exception {
        Class<?> c = GlassEyes.class;
        check(Modifier.isPublic(c.getModifiers()) && Modifier.isFinal(c.getModifiers()), "the class is public and final");
        Set<String> open = new TreeSet<>();
        Set<String> names = new TreeSet<>();
        for (Method m : c.getDeclaredMethods()) {
            if (!Modifier.isPrivate(m.getModifiers())) {
                check(Modifier.isPublic(m.getModifiers()), m.getName() + " is public or private");
                open.add(signature(m));
                names.add(m.getName());
            }
        }
        check(open.equals(new TreeSet<>(Arrays.asList(FACE))), "the methods are those of the document: " + open);
        for (Field f : c.getDeclaredFields()) {
            check(Modifier.isPrivate(f.getModifiers()) || f.getName().equals("NONE"), f.getName() + " is private");
        }
        check(Modifier.isPublic(c.getField("NONE").getModifiers()) && GlassEyes.NONE == -1, "NONE is -1");
        Constructor<?>[] all = c.getDeclaredConstructors();
        check(all.length == 1 && Arrays.equals(all[0].getParameterTypes(), new Class<?>[] {int.class}), "one constructor");
        checkClass(c, names);
        check(c.getDeclaredClasses().length <= MOST_CLASSES, "few classes");
        for (Class<?> inside : c.getDeclaredClasses()) {
            check(Modifier.isStatic(inside.getModifiers()), inside + " is static");
            checkClass(inside, names);
        }
    }

    private static void checkClass(Class<?> c, Set<String> face) {
        int fields = 0;
        for (Field f : c.getDeclaredFields()) {
            if (Modifier.isStatic(f.getModifiers())) {
                check(Modifier.isFinal(f.getModifiers()), f + " is final");
            } else {
                fields++;
            }
        }
        check(fields <= MOST_FIELDS, c + " has few fields");
        for (Method m : c.getDeclaredMethods()) {
            check(m.getParameterCount() <= MOST_PARAMETERS, m + " has few parameters");
            boolean own = c == GlassEyes.class && Modifier.isPublic(m.getModifiers());
            check(own || !face.contains(m.getName()), m + " bears a name of the face");
        }
    }

    private static void checkSource() throws Exception {
        String source = Files.readString(Path.of("src/main/java/GlassEyes.java"));
        check(source.chars().allMatch(x -> x == 10 || x >= 32 && x < 127), "plain signs alone");
        String bare = source.replaceAll("(?s)/\\*.*?\\*/", " ").replaceAll("//[^\n]*", " ")
                .replaceAll("\"[^\"\n]*\"", "\"\"");
        Matcher word = Pattern.compile("\\b(throw|throws|try|catch|synchronized|assert|package|System\\.(?!arraycopy)\\w+"
                + "|Exact|native|volatile|Object|hashCode|toString|Thread|Random)\\b|->|::").matcher(bare);
        while (word.find()) {
            check(false, "no " + word.group());
        }
        Matcher imports = Pattern.compile("import ([^;]*);").matcher(bare);
        while (imports.find()) {
            check(imports.group(1).equals("java.util.Arrays"), "an import of " + imports.group(1));
        }
        check(!Pattern.compile("\"\"\\s*\\+|\\+\\s*\"\"").matcher(bare).find(), "texts are not joined by +");
        checkLengths(source.split("\n"));
    }

    /** A method begins at a line that ends in ") {" at the depth of members, and ends at the same depth. */
    private static void checkLengths(String[] lines) {
        Pattern head = Pattern.compile("^( {4}| {8})(\\w.*)\\(.*\\) \\{$");
        for (int i = 0; i < lines.length; i++) {
            Matcher m = head.matcher(lines[i]);
            if (m.matches() && !m.group(2).matches("(if|for|while|switch|\\} else).*")) {
                int end = i;
                while (end < lines.length && !lines[end].equals(m.group(1) + "}")) {
                    end++;
                }
                check(end - i < MOST_LINES, "the method at line " + (i + 1) + " is short");
            }
        }
    }

    public static void main(String[] args) throws Exception {
        checkFace();
        checkSource();
        System.out.println(wrong == 0 ? "the face is as due" : wrong + " things are not as due");
        if (wrong != 0) {
            System.exit(1);
        }
    }
}
