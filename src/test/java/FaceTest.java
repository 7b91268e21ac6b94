import java.io.IOException;
import java.lang.reflect.Field;
import java.lang.reflect.Method;
import java.lang.reflect.Modifier;
import java.nio.file.Files;
import java.nio.file.Path;
import java.util.ArrayList;
import java.util.HashSet;
import java.util.List;
import java.util.Map;
import java.util.Set;
import java.util.TreeMap;
import java.util.TreeSet;
import java.util.regex.Matcher;
import java.util.regex.Pattern;

/** The face is the document's and no more; the rules of LANGUAGE.md that can be seen from outside or by a word. */
public final class FaceTest {
    private static final Class<?> FACE = SkirtsByTheDay.class;

    public static void main(String[] args) throws IOException {
        String source = Files.readString(Path.of("src/main/java/SkirtsByTheDay.java"));
        calls(Files.readString(Path.of("../shared/DOC.md")));
        members();
        inside();
        words(source);
        constructors(source);
        copies(source);
        depths(source);
        Check.finish("FaceTest");
    }

    private static void none(String what, boolean there) {
        Check.due(what, there, false);
    }

    /** Each public line of the document's face is a method of the class, and there is no other. */
    private static void calls(String document) {
        Set<String> due = new TreeSet<>();
        Matcher m = Pattern.compile("public (int|boolean) (\\w+)\\(([^)]*)\\)( throws \\w+)?;").matcher(document);
        while (m.find()) {
            int parameters = m.group(3).isEmpty() ? 0 : m.group(3).split(",").length;
            due.add(m.group(1) + " " + m.group(2) + " " + parameters + (m.group(4) == null ? "" : " throws"));
        }
        Set<String> there = new TreeSet<>();
        for (Method method : FACE.getDeclaredMethods()) {
            if (Modifier.isPublic(method.getModifiers())) {
                there.add(method.getReturnType() + " " + method.getName() + " " + method.getParameterCount()
                    + (method.getExceptionTypes().length == 0 ? "" : " throws"));
            }
        }
        Check.due("calls of the face", due.size(), 51);
        if (!due.equals(there)) {
            System.out.println("due: " + due + ", there: " + there);
        }
        Check.due("the face is the document's", due.equals(there), true);
    }

    private static void members() {
        Check.due("the class is public and final", FACE.getModifiers(), Modifier.PUBLIC | Modifier.FINAL);
        Check.due("one constructor", FACE.getDeclaredConstructors().length, 1);
        Set<String> open = new HashSet<>();
        for (Method method : FACE.getDeclaredMethods()) {
            if (Modifier.isPublic(method.getModifiers())) {
                open.add(method.getName());
            }
        }
        for (Method method : FACE.getDeclaredMethods()) {
            boolean isOpen = Modifier.isPublic(method.getModifiers());
            none("neither public nor private: " + method, !isOpen && !Modifier.isPrivate(method.getModifiers()));
            none("private with a public name: " + method, !isOpen && open.contains(method.getName()));
        }
        for (Field field : FACE.getDeclaredFields()) {
            boolean isNone = field.getName().equals("NONE");
            none("a field that is not private: " + field, !isNone && !Modifier.isPrivate(field.getModifiers()));
        }
    }

    private static void inside() {
        List<Class<?>> classes = new ArrayList<>(List.of(FACE.getDeclaredClasses()));
        none("more than twelve classes", classes.size() + 1 > 12);
        for (Class<?> one : classes) {
            none("not static: " + one, !Modifier.isStatic(one.getModifiers()));
            none("public or protected: " + one,
                Modifier.isPublic(one.getModifiers()) || Modifier.isProtected(one.getModifiers()));
        }
        classes.add(FACE);
        for (Class<?> one : classes) {
            int fields = 0;
            for (Field field : one.getDeclaredFields()) {
                boolean isStatic = Modifier.isStatic(field.getModifiers());
                none("static and not final: " + field, isStatic && !Modifier.isFinal(field.getModifiers()));
                fields += isStatic ? 0 : 1;
            }
            none("more than twenty fields: " + one, fields > 20);
            for (Method method : one.getDeclaredMethods()) {
                none("more than seven parameters: " + method, method.getParameterCount() > 7);
            }
        }
    }

    private static void words(String source) {
        String[] ruledOut = {"->", "::", "\\btry\\b", "\\bcatch\\b", "\\bfinally\\b", "\\bsynchronized\\b", "\\bassert\\b",
            "Exact\\(", "\\bdouble\\b", "\\bfloat\\b", "\\bSystem\\.(?!arraycopy)", "\\bpackage\\b", "\\bThread\\b",
            "\\bRandom\\b", "\\bObject\\b", "\\bString\\b", "\\bstatic \\{", "import (?!java\\.util\\.NoSuchElementException;)",
            "throw new (?!NoSuchElementException\\(\")", "[^\\x00-\\x7f]"};
        for (String word : ruledOut) {
            none("in the source: " + word, Pattern.compile(word).matcher(source).find());
        }
        int begun = 0;
        String[] lines = source.split("\n");
        for (int k = 0; k < lines.length; k++) {
            none("a long line, " + (k + 1), lines[k].length() > 120);
            if (lines[k].matches("    (    )?\\w[^=;]*\\) (throws \\w+ )?\\{")) {
                begun = k;
            }
            if (lines[k].matches("    (    )?\\}")) {
                none("a long method, line " + (begun + 1), k - begun > 60);
                begun = k;
            }
        }
    }

    /** A constructor hands on nothing of the object that it makes: none takes anything. */
    private static void constructors(String source) {
        Matcher m = Pattern.compile("\\bnew (\\w+)\\(([^)]*)\\)").matcher(source);
        while (m.find()) {
            boolean thrown = m.group(1).endsWith("Exception");
            none("made of something: " + m.group(), !thrown && !m.group(2).isEmpty());
        }
    }

    /** Only rows of ints are copied. */
    private static void copies(String source) {
        Matcher m = Pattern.compile("arraycopy\\((?:\\w+\\.)?(\\w+), [^,]+, (?:\\w+\\.)?(\\w+),").matcher(source);
        int copied = 0;
        while (m.find()) {
            for (int k = 1; k <= 2; k++) {
                none("copied, and no int[]: " + m.group(k), !source.contains("int[] " + m.group(k)));
                none("copied, and a char[]: " + m.group(k), source.contains("char[] " + m.group(k)));
            }
            copied++;
        }
        Check.due("copies looked at", copied, source.split("arraycopy").length - 1);
    }

    /**
     * Calls that are no recursion go at most eight deep, the face's own call counted. Methods are told apart by their
     * names alone: those of one name count as one, which can only make it deeper.
     */
    private static void depths(String source) {
        Map<String, Set<String>> calls = callsByName(source);
        for (String name : calls.keySet()) {
            none(name + " goes deeper than eight", depth(name, calls, new HashSet<>()) > 8);
        }
        Check.due("the deepest call of year()", depth("year", calls, new HashSet<>()), 7);
        Check.due("rule() reads by recursion", reaches("readExpression", "readExpression", calls, new HashSet<>()), true);
    }

    private static Map<String, Set<String>> callsByName(String source) {
        Pattern begin = Pattern.compile("    (?:    )?(?:(?:public|private|static) )*\\w+ (\\w+)\\([^)]*\\)"
            + "(?: throws \\w+)? \\{");
        Pattern call = Pattern.compile("(\\w+)\\(");
        Map<String, Set<String>> calls = new TreeMap<>();
        Set<String> own = new HashSet<>();
        for (String line : source.split("\n")) {
            Matcher m = begin.matcher(line);
            if (m.matches()) {
                own = calls.computeIfAbsent(m.group(1), name -> new TreeSet<>());
                continue;
            }
            for (Matcher c = call.matcher(line); c.find();) {
                own.add(c.group(1));
            }
        }
        for (Set<String> called : calls.values()) {
            called.retainAll(calls.keySet());
        }
        return calls;
    }

    /** A method that comes back to itself is recursion: it counts nothing, what it calls does. */
    private static int depth(String name, Map<String, Set<String>> calls, Set<String> open) {
        if (!open.add(name)) {
            return 0;
        }
        int deepest = 0;
        for (String called : calls.get(name)) {
            deepest = Math.max(deepest, depth(called, calls, open));
        }
        open.remove(name);
        return deepest + (reaches(name, name, calls, new HashSet<>()) ? 0 : 1);
    }

    private static boolean reaches(String from, String to, Map<String, Set<String>> calls, Set<String> been) {
        for (String called : calls.get(from)) {
            if (called.equals(to) || been.add(called) && reaches(called, to, calls, been)) {
                return true;
            }
        }
        return false;
    }
}
