import java.io.IOException;
import java.util.ArrayList;
import java.util.Arrays;
import java.util.Collections;
import java.util.List;
import java.util.Map;
import java.util.TreeMap;

/**
 * Class files that javac made, with pool entries of every kind that the document knows, in four
 * jars. What each one uses and shows, and what jars need, is what jdeps of JDK 17 tells of them
 * (jdeps -v -filter:none, jdeps -apionly, jdeps -s): an answer that was not written by the author
 * of the program.
 */
public final class JavacTest {
    private static final Checks CHECKS = new Checks("JavacTest");
    private static final String[] ORDER = {"a/A", "b/B", "b/D", "c/C", "c/F", "c/G", "c/H", "E"};
    private static final int[] IN_JAR = {0, 1, 1, 2, 2, 2, 2, 3};
    private static final String OBJECT = "java/lang/Object";
    private static final String STRING = "java/lang/String";

    private static Map<String, byte[]> classFiles;

    public static void main(String[] args) throws IOException {
        classFiles = Javac.compile(sources());
        theyAreAdded();
        filesAreAsWritten();
        usesAreThoseOfJdeps();
        closuresComponentsAndLayers();
        jarsNeedWhatJdepsSays();
        problemsOfTheJars();
        aClassInTwoJars();
        everyCutIsWrong();
        CHECKS.end();
    }

    private static Map<String, String> sources() {
        Map<String, String> texts = new TreeMap<>();
        texts.put("a/A", """
                package a;
                public class A implements b.B {
                    public b.D d;
                    protected c.C[] row;
                    private c.H hidden;
                    c.G near;
                    long sum = 123456789012L;
                    public void go(c.F f) { f.run(hidden); }
                }
                """);
        texts.put("b/B", "package b; public interface B { void go(c.F f); }");
        texts.put("b/D", """
                package b;
                public class D {
                    static int seven = 70000;
                    static float half = 0.3f;
                    static String text = "t";
                    protected Object make(int[][] n) { return new c.H[1][1]; }
                }
                """);
        texts.put("c/C", "package c; public class C extends F { a.A back() { return null; } }");
        texts.put("c/F", "package c; public class F { public void run(H h) { h.hush(); } }");
        texts.put("c/G", "package c; public interface G { }");
        texts.put("c/H", "package c; public interface H extends G { void hush(); }");
        texts.put("E", "final class E extends a.A { double part = 1.5; E() { new Object(); } }");
        return texts;
    }

    private static ModuleScanner withAll() {
        ModuleScanner s = new ModuleScanner();
        for (int c = 0; c < ORDER.length; c++) {
            Checks.add(s, IN_JAR[c], classFiles.get(ORDER[c]));
        }
        return s;
    }

    private static List<String> texts() {
        ModuleScanner s = withAll();
        List<String> texts = new ArrayList<>();
        for (int name = 0; name < s.names(); name++) {
            texts.add(Checks.text(s, name));
        }
        return texts;
    }

    private static long set(String... names) {
        long set = 0;
        for (String name : names) {
            set |= 1L << texts().indexOf(name);
        }
        return set;
    }

    private static void theyAreAdded() {
        ModuleScanner s = new ModuleScanner();
        for (int c = 0; c < ORDER.length; c++) {
            CHECKS.same("add " + ORDER[c], Checks.add(s, IN_JAR[c], classFiles.get(ORDER[c])), c);
        }
        List<String> due = new ArrayList<>(Arrays.asList(ORDER));
        Collections.addAll(due, OBJECT, STRING);
        List<String> got = texts();
        CHECKS.same("how many names", got.size(), due.size());
        CHECKS.holds("the names " + got, got.containsAll(due));
    }

    private static void filesAreAsWritten() {
        ModuleScanner s = withAll();
        List<String> texts = texts();
        String[] parents = {OBJECT, OBJECT, OBJECT, "c/F", OBJECT, OBJECT, OBJECT, "a/A"};
        // As javac sets them: 1 public, 0x10 final, 0x20 super, 0x200 interface, 0x400 abstract.
        int[] flags = {0x21, 0x601, 0x21, 0x21, 0x21, 0x601, 0x601, 0x30};
        int[] interfaces = {1, 0, 0, 0, 0, 0, 1, 0};
        int[] fields = {5, 0, 3, 0, 0, 0, 0, 1};
        // With the constructors, and the D.<clinit> that fills the fields.
        int[] methods = {2, 1, 3, 2, 2, 0, 1, 1};
        for (int c = 0; c < ORDER.length; c++) {
            CHECKS.same("the jar of " + ORDER[c], s.file(c, 0), IN_JAR[c]);
            CHECKS.same("the name of " + ORDER[c], s.file(c, 1), texts.indexOf(ORDER[c]));
            CHECKS.same("SUPER of " + ORDER[c], s.file(c, 2), texts.indexOf(parents[c]));
            CHECKS.same("the flags of " + ORDER[c], s.file(c, 3), flags[c]);
            CHECKS.same("interfaces of " + ORDER[c], s.file(c, 4), interfaces[c]);
            CHECKS.same("fields of " + ORDER[c], s.file(c, 5), fields[c]);
            CHECKS.same("methods of " + ORDER[c], s.file(c, 6), methods[c]);
        }
    }

    private static void usesAreThoseOfJdeps() {
        uses(0, set("b/B", "b/D", "c/C", "c/F", "c/G", "c/H", OBJECT), set("b/B", "b/D", "c/C", "c/F", OBJECT));
        uses(1, set("c/F", OBJECT), set("c/F", OBJECT));
        uses(2, set("c/H", OBJECT, STRING), set(OBJECT));
        uses(3, set("a/A", "c/F"), set("c/F"));
        uses(4, set("c/H", OBJECT), set("c/H", OBJECT));
        uses(5, set(OBJECT), set(OBJECT));
        uses(6, set("c/G", OBJECT), set("c/G", OBJECT));
        uses(7, set("a/A", OBJECT), 0);
    }

    private static void uses(int c, long used, long shown) {
        ModuleScanner s = withAll();
        CHECKS.same("what " + ORDER[c] + " uses", s.uses(c, false), used);
        CHECKS.same("what " + ORDER[c] + " shows", s.uses(c, true), shown);
    }

    private static void closuresComponentsAndLayers() {
        long underF = set("c/F", "c/H", "c/G", OBJECT);
        long underA = underF | set("a/A", "b/B", "b/D", "c/C", STRING);
        graph("a/A", underA, "a/A", 5);
        graph("b/B", underF | set("b/B"), "b/B", 4);
        graph("b/D", set("b/D", "c/H", "c/G", OBJECT, STRING), "b/D", 3);
        graph("c/C", underA, "a/A", 5);
        graph("c/F", underF, "c/F", 3);
        graph("c/G", set("c/G", OBJECT), "c/G", 1);
        graph("c/H", set("c/H", "c/G", OBJECT), "c/H", 2);
        graph("E", underA | set("E"), "E", 6);
        graph(OBJECT, set(OBJECT), OBJECT, 0);
        graph(STRING, set(STRING), STRING, 0);
    }

    private static void graph(String text, long closure, String component, int layer) {
        ModuleScanner s = withAll();
        int name = texts().indexOf(text);
        CHECKS.same("the closure of " + text, s.closure(name), closure);
        CHECKS.same("the component of " + text, s.component(name), texts().indexOf(component));
        CHECKS.same("the layer of " + text, s.layer(name), layer);
    }

    private static void jarsNeedWhatJdepsSays() {
        ModuleScanner s = withAll();
        int[][] due = {{6, 6, 6}, {4, 4, 4}, {1, 0, 3}, {1, 0, 7}, {0, 0, 0}};
        for (int jar = 0; jar < due.length; jar++) {
            for (int which = 0; which < 3; which++) {
                CHECKS.same("jar(" + jar + ", " + which + ")", s.jar(jar, which), due[jar][which]);
            }
        }
        long[] packages = {leastOf("a/"), leastOf("b/"), leastOf("c/"), 0, 0};
        for (int jar = 0; jar < packages.length; jar++) {
            CHECKS.same("exports(" + jar + ")", s.exports(jar), packages[jar]);
        }
    }

    private static long leastOf(String beginning) {
        List<String> texts = texts();
        for (int name = 0; name < texts.size(); name++) {
            if (texts.get(name).startsWith(beginning)) {
                return 1L << name;
            }
        }
        return 0;
    }

    private static void problemsOfTheJars() {
        ModuleScanner s = withAll();
        CHECKS.same("Object and String are missing", s.problems(0), 2);
        CHECKS.same("no package is split", s.problems(1), 0);
        CHECKS.same("jars 0, 1 and 2 need one another in a circle", s.problems(2), 3);
        CHECKS.same("E is in the empty package", s.problems(3), 1);
        CHECKS.same("all are found", s.problems(4), 0);
    }

    private static void aClassInTwoJars() {
        ModuleScanner s = withAll();
        CHECKS.same("H once more", Checks.add(s, 4, classFiles.get("c/H")), 8);
        CHECKS.same("package c is split", s.problems(1), 1);
        CHECKS.same("the second H is not found", s.problems(4), 1);
        CHECKS.same("it uses G", s.jar(4, 0), Checks.set(2));
        CHECKS.same("nobody uses it", s.exports(4), 0);
        CHECKS.same("the first H goes with its jar", s.drop(2), 4);
        CHECKS.same("H is now needed from jar 4", s.jar(1, 0), Checks.set(4));
        CHECKS.same("C, F and G are missing, too", s.problems(0), 5);
    }

    private static void everyCutIsWrong() {
        for (String name : ORDER) {
            byte[] whole = classFiles.get(name);
            for (int length = 0; length < whole.length; length++) {
                int answer = Checks.add(new ModuleScanner(), 0, Arrays.copyOf(whole, length));
                CHECKS.holds(name + " cut to " + length, answer <= -2 && answer >= -2 - length);
            }
            byte[] longer = Arrays.copyOf(whole, whole.length + 1);
            CHECKS.same(name + " and a byte", Checks.add(new ModuleScanner(), 0, longer), -2 - whole.length);
        }
    }
}
