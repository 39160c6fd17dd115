import java.io.IOException;
import java.lang.reflect.Constructor;
import java.lang.reflect.Field;
import java.lang.reflect.Method;
import java.lang.reflect.Modifier;
import java.nio.file.Files;
import java.nio.file.Path;
import java.util.ArrayList;
import java.util.List;
import java.util.Set;
import java.util.TreeSet;
import java.util.regex.Matcher;
import java.util.regex.Pattern;

/** The public face of DOC.md, and the rules of LANGUAGE.md that can be seen without running a call. */
public final class FaceTest {
    private static int wrong = 0;

    private static void check(boolean fine, String what) {
        if (!fine) {
            wrong++;
            System.out.println("not as due: " + what);
        }
    }

    private static final String[] FACE = {
        "int make(int,int,int) IllegalArgumentException",
        "int add(int,int,int) IndexOutOfBoundsException IllegalArgumentException",
        "int take(int,int,int,int) IndexOutOfBoundsException IllegalArgumentException",
        "int give(int,int,int,int) IndexOutOfBoundsException IllegalArgumentException",
        "int takeWithin(int,int,int,int,int) IndexOutOfBoundsException IllegalArgumentException",
        "int giveWithin(int,int,int) IndexOutOfBoundsException IllegalArgumentException",
        "void bounds(int,int,int) IndexOutOfBoundsException IllegalArgumentException",
        "int purge(int) IndexOutOfBoundsException",
        "int tags()",
        "int count(int,int) IndexOutOfBoundsException NoSuchElementException",
        "int segment(int,int,int) IndexOutOfBoundsException NoSuchElementException",
        "int cache(int,int,int) IndexOutOfBoundsException NoSuchElementException",
        "int where(int,int) IndexOutOfBoundsException",
    };

    private static String told(Method m) {
        StringBuilder t = new StringBuilder(m.getReturnType().getName()).append(' ').append(m.getName()).append('(');
        for (Class<?> p : m.getParameterTypes()) {
            t.append(t.charAt(t.length() - 1) == '(' ? "" : ",").append(p.getName());
        }
        t.append(')');
        for (Class<?> e : m.getExceptionTypes()) {
            t.append(' ').append(e.getSimpleName());
        }
        return t.toString();
    }

    private static void checkFace() {
        Class<?> c = RangeArenas.class;
        check(Modifier.isPublic(c.getModifiers()) && Modifier.isFinal(c.getModifiers()), "public final class");
        Set<String> due = new TreeSet<>(List.of(FACE));
        Set<String> names = new TreeSet<>();
        Set<String> got = new TreeSet<>();
        for (Method m : c.getDeclaredMethods()) {
            if (Modifier.isPublic(m.getModifiers())) {
                got.add(told(m));
                names.add(m.getName());
                check(!Modifier.isStatic(m.getModifiers()), "not static: " + m.getName());
            } else {
                check(Modifier.isPrivate(m.getModifiers()), "private: " + m.getName());
            }
        }
        check(due.equals(got), "the methods " + got);
        for (Method m : c.getDeclaredMethods()) {
            check(Modifier.isPublic(m.getModifiers()) || !names.contains(m.getName()), "a private " + m.getName());
        }
        for (Class<?> inside : c.getDeclaredClasses()) {
            check(Modifier.isStatic(inside.getModifiers()), "static: " + inside.getName());
            check(!Modifier.isPublic(inside.getModifiers()), "no public class inside: " + inside.getName());
            check(inside.getDeclaredFields().length <= 20, "at most twenty fields: " + inside.getName());
            for (Method m : inside.getDeclaredMethods()) {
                check(!names.contains(m.getName()), inside.getName() + " has a " + m.getName());
                check(m.getParameterCount() <= 7, "at most seven parameters: " + m.getName());
            }
        }
        check(c.getDeclaredClasses().length <= 12, "at most twelve classes");
        for (Field f : c.getDeclaredFields()) {
            boolean none = f.getName().equals("NONE");
            check(none ? Modifier.isPublic(f.getModifiers()) : Modifier.isPrivate(f.getModifiers()), "field " + f);
            check(!Modifier.isStatic(f.getModifiers()) || Modifier.isFinal(f.getModifiers()), "final: " + f);
        }
        for (Constructor<?> k : c.getDeclaredConstructors()) {
            check(Modifier.isPublic(k.getModifiers()) && k.getParameterCount() == 0, "the constructor " + k);
        }
        check(RangeArenas.NONE == -1, "NONE");
    }

    private static void checkText() throws IOException {
        String text = Files.readString(Path.of("src/main/java/RangeArenas.java"));
        String code = text.replaceAll("(?s)/\\*.*?\\*/", " ").replaceAll("//[^\n]*", " ").replaceAll("\"[^\"\n]*\"", "T");
        String[] never = {"\\bpackage\\b", "\\btry\\b", "\\bcatch\\b", "\\bfinally\\b", "\\bsynchronized\\b",
            "\\bassert\\b", "->", "::", "\\bSystem\\.(?!arraycopy)", "Exact\\b", "\\bRandom\\b", "\\bThread\\b",
            "\\bObject\\b", "\\bvar\\b", "\\bprotected\\b", "\\bgetClass\\b", "\\bhashCode\\b", "\\btoString\\b"};
        for (String n : never) {
            check(!Pattern.compile(n).matcher(code).find(), "the class has " + n);
        }
        Matcher imports = Pattern.compile("\\bimport\\s+([\\w.]+)").matcher(code);
        while (imports.find()) {
            check(imports.group(1).equals("java.util.NoSuchElementException"), "import " + imports.group(1));
        }
        Matcher statics = Pattern.compile("\\b(Integer|Long|Math)\\.(\\w+)").matcher(code);
        Set<String> allowed = Set.of("bitCount", "max", "min", "numberOfLeadingZeros", "numberOfTrailingZeros");
        while (statics.find()) {
            check(allowed.contains(statics.group(2)), "the library's " + statics.group());
        }
        Matcher thrown = Pattern.compile("\\bthrow\\b([^;]*);").matcher(code);
        while (thrown.find()) {
            check(thrown.group(1).matches("\\s+new (IllegalArgument|IndexOutOfBounds|NoSuchElement)Exception\\(T?\\)"),
                "throw" + thrown.group(1));
        }
        check(text.chars().allMatch(ch -> ch == '\n' || ch >= 32 && ch < 127), "plain signs");
    }

    /** Counts lines from a method's first line to the line that closes it at the same indent. */
    private static void checkLengths() throws IOException {
        List<String> lines = new ArrayList<>(Files.readAllLines(Path.of("src/main/java/RangeArenas.java")));
        Pattern head = Pattern.compile("^((?: {4}){1,2})\\w[\\w\\[\\]<> ]*\\([^;]*$");
        for (int i = 0; i < lines.size(); i++) {
            Matcher m = head.matcher(lines.get(i));
            if (!m.find()) {
                continue;
            }
            String close = m.group(1) + "}";
            int end = i;
            while (end < lines.size() && !lines.get(end).equals(close)) {
                end++;
            }
            check(end - i < 60, "a method of over sixty lines: " + lines.get(i).trim());
        }
    }

    public static void main(String[] args) throws IOException {
        checkFace();
        checkText();
        checkLengths();
        System.out.println(wrong == 0 ? "the face is as due" : wrong + " things are not as due");
        if (wrong != 0) {
            System.exit(1);
        }
    }
}
