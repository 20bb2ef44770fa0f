import java.lang.reflect.Constructor;
import java.lang.reflect.Field;
import java.lang.reflect.Method;
import java.lang.reflect.Modifier;
import java.nio.file.Files;
import java.nio.file.Path;
import java.util.Set;
import java.util.TreeSet;
import java.util.regex.Matcher;
import java.util.regex.Pattern;

/** The public face is the document's, and the source keeps to those rules of the language that can be seen in it. */
public final class FaceTest {
    private static final String[] FACE = {
        "int feed(int,int,int,int,int)", "int end(int)", "int read(int)", "int fault()", "int dot(int,int,int)",
        "int clear(int)", "int sum(int,int)", "int under(int,int)", "int join(int,int)", "int turn(int)",
        "int hull(int)", "int cut(int,int,int)", "int move(int,int,int)", "int times(int,int)", "int lay(int)",
        "int put(int)", "int undo()", "int image(int)", "int back(int)", "long paper(int,int)",
        "int knot(int,int,int)", "long value(int,int,int)", "int bits(int,int)", "long limit(int,int,int)",
        "int of(int,int)", "int least(int,int)", "long slope(int,int,int)", "long area(int,int)",
        "long where(int,int,int)", "int places(int,int,int)", "long split(int,int,int,int)",
        "int compare(int,int)", "int count(int)", "int status()"};
    private static final String[] FORBIDDEN = {
        "\\btry\\b", "\\bcatch\\b", "\\bthrow\\b", "\\bsynchronized\\b", "\\bassert\\b", "->", "::", "Exact\\b",
        "\\bFloat\\b", "\\bDouble\\b", "\\bString\\b", "\\bObject\\b", "\\bthis\\b", "static\\s*\\{", "\\bpackage\\b",
        "Math\\.(?!abs|min|max|floorDiv)", "Arrays\\.(?!copyOf\\()", "System\\.(?!arraycopy)", "Long\\.(?!compare|MIN_VALUE)",
        "Integer\\.(?!MIN_VALUE|MAX_VALUE)", "\\[\\]\\[\\]", "import (?!java\\.util\\.Arrays;)"};
    private static int wrong = 0;

    public static void main(String[] args) throws Exception {
        members();
        source(Files.readString(Path.of("src/main/java/LeastSums.java")));
        System.out.println(wrong == 0 ? "FaceTest: as due" : "FaceTest: " + wrong + " wrong");
        if (wrong != 0) {
            System.exit(1);
        }
    }

    private static void must(boolean holds, String what) {
        if (!holds) {
            wrong++;
            System.out.println("FaceTest: " + what);
        }
    }

    private static void members() {
        Set<String> open = new TreeSet<>();
        Set<String> names = new TreeSet<>();
        for (Method m : LeastSums.class.getDeclaredMethods()) {
            if (Modifier.isPublic(m.getModifiers())) {
                StringBuilder types = new StringBuilder();
                for (Class<?> t : m.getParameterTypes()) {
                    types.append(types.length() == 0 ? "" : ",").append(t.getName());
                }
                open.add(m.getReturnType().getName() + " " + m.getName() + "(" + types + ")");
                names.add(m.getName());
            }
        }
        must(open.equals(new TreeSet<>(Set.of(FACE))), "the public methods are " + open);
        must(Modifier.isFinal(LeastSums.class.getModifiers()), "the class is not final");
        for (Constructor<?> c : LeastSums.class.getDeclaredConstructors()) {
            must(Modifier.isPublic(c.getModifiers()) && c.getParameterCount() == 0, "another constructor");
        }
        for (Field f : LeastSums.class.getDeclaredFields()) {
            boolean constant = f.getName().equals("NONE") || f.getName().equals("NOTHING");
            must(constant ? Modifier.isPublic(f.getModifiers()) : Modifier.isPrivate(f.getModifiers()), "field " + f);
            must(!Modifier.isStatic(f.getModifiers()) || Modifier.isFinal(f.getModifiers()), "static field " + f);
        }
        hidden(LeastSums.class, names);
        for (Class<?> inside : LeastSums.class.getDeclaredClasses()) {
            must(Modifier.isStatic(inside.getModifiers()), "not static: " + inside);
            must(inside.getDeclaredFields().length <= 20, "too many fields: " + inside);
            hidden(inside, names);
        }
        must(LeastSums.class.getDeclaredClasses().length <= 11, "too many classes");
    }

    private static void hidden(Class<?> c, Set<String> names) {
        for (Method m : c.getDeclaredMethods()) {
            boolean open = Modifier.isPublic(m.getModifiers());
            must(open || !names.contains(m.getName()), "a hidden method bears a public name: " + m);
            must(open || c != LeastSums.class || Modifier.isPrivate(m.getModifiers()), "not private: " + m);
            must(m.getParameterCount() <= 7, "too many parameters: " + m);
        }
    }

    private static void source(String text) {
        String code = text.replaceAll("(?s)/\\*.*?\\*/", "").replaceAll("//[^\n]*", "");
        for (String word : FORBIDDEN) {
            Matcher m = Pattern.compile(word).matcher(code);
            must(!m.find(), "the source has what is not allowed: " + word);
        }
        String[] lines = text.split("\n");
        for (int k = 0; k < lines.length; k++) {
            must(lines[k].length() <= 130, "a line is too long: " + (k + 1));
            must(!beginsMethod(lines[k]) || methodLines(lines, k) <= 60, "a method is too long: " + (k + 1));
        }
    }

    private static boolean beginsMethod(String line) {
        return line.matches("( {4}| {8})[A-Za-z].*\\) \\{") && !line.matches(" +(if|for|while|switch)\\b.*");
    }

    /** A method ends with the first brace that stands as far in as its own head. */
    private static int methodLines(String[] lines, int head) {
        String close = lines[head].startsWith("        ") ? "        }" : "    }";
        int k = head;
        while (k < lines.length && !lines[k].equals(close)) {
            k++;
        }
        return k - head + 1;
    }
}
