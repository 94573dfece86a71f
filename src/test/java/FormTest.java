import com.sun.management.ThreadMXBean;
import java.io.IOException;
import java.lang.management.ManagementFactory;
import java.lang.reflect.Constructor;
import java.lang.reflect.Field;
import java.lang.reflect.Method;
import java.lang.reflect.Modifier;
import java.nio.file.Files;
import java.nio.file.Path;
import java.util.ArrayList;
import java.util.Arrays;
import java.util.List;
import java.util.Map;
import java.util.Set;
import java.util.TreeMap;
import java.util.TreeSet;
import java.util.regex.Matcher;
import java.util.regex.Pattern;

/** The public face as the document tells it, and those rules of the language that can be read off class and source. */
public final class FormTest {
    private static final String SOURCE = "src/main/java/LampWall.java";
    private static final String[] FACE = {
        "int wall(int,int,int,int)", "int ofModule(int,int)", "int ofLamp(int,int)", "int level(int,int)",
        "int die(int)", "int cut(int)", "int ofUnit(int,int)", "int slices(int)", "int bears(int)",
        "int steadiest(int)", "int send(int,int,int,int)", "int day(int,int,int,int,int)",
        "int reading(int,int,int)", "int back(int)", "int kinds(int)", "int levels(int)", "int cuts()",
        "long odds(int,int,int)", "int sheet(int,int,int)", "int lose(int)", "int put(int,int,int)",
        "long cell(int,int,int)", "int copy(int,int,int,int,int)", "int tell(int)", "int switchOn(int)",
        "int as(int,int)", "int trace()", "int fault()", "int many(int)",
    };
    private static final String[] CONSTANTS = {
        "int UNKNOWN -1", "int OUTSIDE -2", "int STATE -3", "int FULL -4", "int NONE -9",
        "long LOST -9223372036854775808",
    };
    private static final String[] FORBIDDEN = {
        "throw", "throws", "try", "catch", "finally", "synchronized", "assert", "volatile", "native", "Object",
        "System\\.(?!arraycopy)\\w+", "Math\\.\\w+Exact", "Thread", "Random", "Class", "hashCode", "String toString",
    };

    private static final String IMPORTS = "import java\\.util\\.(\\*|Arrays|ArrayList|List|Iterator);";
    /** Indented, its name, its lines up to the brace below its beginning. */
    private static final Pattern METHOD = Pattern.compile(
        "(?m)^( {4}| {8})\\w[^;={}]*?(\\w+)\\([^;{}]*\\) \\{(?s:(.*?))^\\1\\}");
    /** The rules say 'some twelve', 'some twenty', 'some sixty'. */
    private static final int CLASSES_MOST = 13, FIELDS_MOST = 22, LINES_MOST = 65;
    private static final int CALLS_DEEP_MOST = 8;
    /** All calls of one run live in one room of so many fields and elements. */
    private static final long ELEMENTS_OF_ROOM = 7_300_000;
    private static final int BYTES_OF_ELEMENT_MOST = 8;
    /** Of ten calls each, as an object is used for 512. */
    private static final int ROUNDS = 48;

    private static int wrong = 0;

    private static void check(boolean holds, String what) {
        if (!holds) {
            wrong++;
            System.out.println(what);
        }
    }

    public static void main(String[] args) throws IOException, IllegalAccessException {
        checkFace();
        checkConstants();
        checkClasses();
        checkSource();
        checkRoom();
        System.out.println(wrong == 0 ? "the form is as due" : wrong + " faults of form");
        if (wrong != 0) {
            System.exit(1);
        }
    }

    private static void checkFace() {
        int modifiers = LampWall.class.getModifiers();
        check(Modifier.isPublic(modifiers) && Modifier.isFinal(modifiers), "the class is not public and final");
        Constructor<?>[] made = LampWall.class.getDeclaredConstructors();
        check(made.length == 1 && Modifier.isPublic(made[0].getModifiers()) && made[0].getParameterCount() == 0,
            "constructors: " + Arrays.toString(made));
        Set<String> found = new TreeSet<>();
        for (Method m : LampWall.class.getDeclaredMethods()) {
            if (Modifier.isPublic(m.getModifiers())) {
                found.add(signature(m));
                check(!Modifier.isStatic(m.getModifiers()), "static: " + m);
            } else {
                check(Modifier.isPrivate(m.getModifiers()), "neither public nor private: " + m);
            }
        }
        check(found.equals(new TreeSet<>(Arrays.asList(FACE))), "the face is " + found);
    }

    private static String signature(Method m) {
        List<String> parameters = new ArrayList<>();
        for (Class<?> p : m.getParameterTypes()) {
            parameters.add(p.getName());
        }
        return m.getReturnType().getName() + " " + m.getName() + "(" + String.join(",", parameters) + ")";
    }

    private static void checkConstants() throws IllegalAccessException {
        Set<String> found = new TreeSet<>();
        for (Field f : LampWall.class.getDeclaredFields()) {
            if (Modifier.isPublic(f.getModifiers())) {
                check(Modifier.isStatic(f.getModifiers()) && Modifier.isFinal(f.getModifiers()), "no constant: " + f);
                found.add(f.getType().getName() + " " + f.getName() + " " + f.get(null));
            } else {
                check(Modifier.isPrivate(f.getModifiers()), "neither public nor private: " + f);
            }
        }
        check(found.equals(new TreeSet<>(Arrays.asList(CONSTANTS))), "the constants are " + found);
    }

    private static void checkClasses() {
        Class<?>[] inside = LampWall.class.getDeclaredClasses();
        check(inside.length <= CLASSES_MOST, "too many classes");
        List<Class<?>> all = new ArrayList<>(Arrays.asList(inside));
        for (Class<?> c : inside) {
            check(Modifier.isStatic(c.getModifiers()), "not static: " + c);
            check(!Modifier.isPublic(c.getModifiers()) && !Modifier.isProtected(c.getModifiers()), "public: " + c);
        }
        all.add(LampWall.class);
        for (Class<?> c : all) {
            checkMembers(c);
        }
    }

    private static void checkMembers(Class<?> c) {
        int fields = 0;
        for (Field f : c.getDeclaredFields()) {
            if (Modifier.isStatic(f.getModifiers())) {
                check(Modifier.isFinal(f.getModifiers()), "static and not final: " + f);
            } else {
                fields++;
            }
        }
        check(fields <= FIELDS_MOST, "too many fields in " + c);
        for (Method m : c.getDeclaredMethods()) {
            check(m.getParameterCount() <= 7, "too many parameters: " + m);
            check(!Modifier.isPrivate(m.getModifiers()) || !isOfFace(m.getName()), "bears a public name: " + m);
        }
    }

    private static boolean isOfFace(String name) {
        for (String line : FACE) {
            if (line.contains(" " + name + "(")) {
                return true;
            }
        }
        return false;
    }

    private static void checkSource() throws IOException {
        String source = Files.readString(Path.of(SOURCE));
        check(source.chars().allMatch(c -> c <= 127), "signs beyond 127");
        String code = source.replaceAll("(?s)/\\*.*?\\*/", "").replaceAll("//[^\n]*", "");
        for (String word : FORBIDDEN) {
            Matcher found = Pattern.compile("\\b" + word + "\\b").matcher(code);
            check(!found.find(), "the source has " + word);
        }
        check(!code.contains("->") && !code.contains("::"), "a lambda, a method reference");
        check(!code.contains("package "), "a package line");
        for (String line : code.split("\n")) {
            check(!line.startsWith("import") || line.matches(IMPORTS), line);
        }
        checkLengths(code);
        checkDepth(code);
    }

    private static void checkLengths(String code) {
        String indent = " {4}";
        int begin = 0;
        String[] lines = code.split("\n");
        for (int i = 0; i < lines.length; i++) {
            if (lines[i].matches(" {4}private static final class .*")) {
                indent = " {8}";
            } else if (lines[i].matches(indent + "\\w.*\\) \\{")) {
                begin = i;
            } else if (lines[i].matches(indent + "\\}")) {
                check(i - begin <= LINES_MOST, "a long method: " + lines[begin]);
            } else if (lines[i].equals("    }")) {
                indent = " {4}";
            }
        }
    }

    /** How deep calls that are no recursion go, by names: methods that share one are taken as one. */
    private static void checkDepth(String code) {
        Map<String, Set<String>> calls = new TreeMap<>();
        Matcher method = METHOD.matcher(code);
        while (method.find()) {
            Set<String> called = calls.computeIfAbsent(method.group(2), name -> new TreeSet<>());
            Matcher call = Pattern.compile("(\\w+)\\(").matcher(method.group(3));
            while (call.find()) {
                called.add(call.group(1));
            }
        }
        for (String line : FACE) {
            String name = line.substring(line.indexOf(' ') + 1, line.indexOf('('));
            List<String> deepest = deepestFrom(name, calls, new ArrayList<>());
            check(!deepest.isEmpty(), "no source was found of " + name);
            check(deepest.size() <= CALLS_DEEP_MOST, "calls go too deep: " + deepest);
        }
    }

    private static List<String> deepestFrom(String name, Map<String, Set<String>> calls, List<String> ahead) {
        if (!calls.containsKey(name) || ahead.contains(name)) {
            return ahead;
        }
        List<String> path = new ArrayList<>(ahead);
        path.add(name);
        List<String> deepest = path;
        for (String called : calls.get(name)) {
            List<String> further = deepestFrom(called, calls, path);
            deepest = further.size() > deepest.size() ? further : deepest;
        }
        return deepest;
    }

    /** What the calls of one object make, the dearest ones among them, is within the room. */
    private static void checkRoom() {
        ThreadMXBean thread = (ThreadMXBean) ManagementFactory.getThreadMXBean();
        long before = thread.getThreadAllocatedBytes(Thread.currentThread().getId());
        LampWall x = new LampWall();
        String text = "w1;p1234;h5678;b9012;p3456";
        x.sheet(0, 2, 60);
        for (int i = 0; i < text.length(); i++) {
            x.put(0, i, text.charAt(i));
        }
        for (int round = 0; round < ROUNDS; round++) {
            x.sheet(1, 2, 60);
            x.wall(0, 2, 0, text.length());
            x.steadiest(1);
            x.odds(round % 15, round % 17, 1);
            x.day(1, 2, 0, 20, round % 5);
            x.kinds(round % 4);
            x.levels(round % 16);
            x.cuts();
            x.bears(round % 17);
            x.ofUnit(round % 15, 4);
        }
        long made = thread.getThreadAllocatedBytes(Thread.currentThread().getId()) - before;
        check(made < ELEMENTS_OF_ROOM * BYTES_OF_ELEMENT_MOST, "a run makes " + made + " bytes");
    }
}
