import java.util.ArrayList;
import java.util.List;

/** What each call answers when there is no such jar, name, class file, character or which. */
public final class NoSuchTest {
    private static final Checks CHECKS = new Checks("NoSuchTest");
    private static final int[] NUMBERS = numbers();
    private static final List<State> STATES = List.of(
            new State("a new object", 0, 0), new State("one name", 1, 1), new State("two names", 2, 1),
            new State("33 names", 33, 3), new State("47 names", 47, 15), new State("all 48 names", 48, 16));

    public static void main(String[] args) {
        for (State state : STATES) {
            letter(state);
            provider(state);
            file(state);
            uses(state);
            closure(state);
            component(state);
            layer(state);
            packageOf(state);
            jars(state);
        }
        letterBeyondItsName();
        fileOfAnotherWhich();
        fileWithoutSuper();
        drop();
        jar();
        exports();
        problems();
        namesAndFilesThatAreGone();
        CHECKS.end();
    }

    /** So many class files in jar 0, which meet so many names, all of them of two characters. */
    private record State(String text, int names, int files) {
        ModuleScanner made() {
            ModuleScanner s = new ModuleScanner();
            int met = 0;
            for (int c = 0; c < files; c++) {
                ClassMaker maker = new ClassMaker(name(met++));
                int left = names - met - (files - c - 1);
                for (int more = c == files - 1 ? left : Math.min(15, left); more > 0; more--) {
                    maker.using(name(met++));
                }
                CHECKS.same(text + " is made", Checks.add(s, 0, maker), c);
            }
            CHECKS.same(text + ": names", s.names(), names);
            return s;
        }

        boolean hasName(int name) {
            return name >= 0 && name < names;
        }

        boolean hasFile(int c) {
            return c >= 0 && c < files;
        }

        private static String name(int n) {
            return "" + (char) ('a' + n / 10) + n % 10;
        }
    }

    /** All around the bounds, and those that a shift or a product would wrap into them. */
    private static int[] numbers() {
        List<Integer> all = new ArrayList<>();
        for (int n = -70; n <= 70; n++) {
            all.add(n);
        }
        for (int bit = 7; bit < 32; bit++) {
            for (int off = -1; off <= 2; off++) {
                all.add((1 << bit) + off);
                all.add(-(1 << bit) + off);
            }
        }
        return all.stream().mapToInt(Integer::intValue).toArray();
    }

    /** Each number on an object that has not had too many calls. */
    private interface Question {
        void ask(ModuleScanner s, int n);
    }

    private static void forAll(State state, Question question) {
        ModuleScanner s = state.made();
        for (int i = 0; i < NUMBERS.length; i++) {
            if (i % 80 == 79) {
                s = state.made();
            }
            question.ask(s, NUMBERS[i]);
        }
    }

    /** "The code of character i of a name; NONE when there is none." */
    private static void letter(State state) {
        forAll(state, (s, n) -> {
            String name = state.hasName(n) ? State.name(n) : "";
            CHECKS.same(state + " letter(" + n + ", 0)", s.letter(n, 0), name.isEmpty() ? -1 : name.charAt(0));
            CHECKS.same(state + " letter(" + n + ", 2)", s.letter(n, 2), -1);
        });
        forAll(state, (s, i) -> {
            String name = state.names() > 0 ? State.name(0) : "";
            String last = state.names() > 0 ? State.name(state.names() - 1) : "";
            boolean there = i >= 0 && i < name.length();
            CHECKS.same(state + " letter(0, " + i + ")", s.letter(0, i), there ? name.charAt(i) : -1);
            CHECKS.same(state + " letter(last, " + i + ")", s.letter(state.names() - 1, i), there ? last.charAt(i) : -1);
            CHECKS.same(state + " letter(-1, " + i + ")", s.letter(-1, i), -1);
        });
    }

    /** "NONE when it is not found, or there is no such name." */
    private static void provider(State state) {
        forAll(state, (s, n) -> {
            int c = s.provider(n);
            if (state.hasName(n) && c >= 0) {
                CHECKS.same(state + " the name of provider(" + n + ")", s.file(c, 1), n);
            } else {
                CHECKS.same(state + " provider(" + n + ")", c, -1);
            }
        });
        int found = 0;
        ModuleScanner s = state.made();
        for (int name = 0; name < state.names(); name++) {
            found += s.provider(name) >= 0 ? 1 : 0;
        }
        CHECKS.same(state + " names that are found", found, state.files());
    }

    /** "NONE when there is no such class file". */
    private static void file(State state) {
        forAll(state, (s, c) -> {
            CHECKS.same(state + " file(" + c + ", 0)", s.file(c, 0), state.hasFile(c) ? 0 : -1);
            CHECKS.same(state + " file(" + c + ", 3)", s.file(c, 3), state.hasFile(c) ? 1 : -1);
            CHECKS.same(state + " file(" + c + ", 6)", s.file(c, 6), state.hasFile(c) ? 0 : -1);
        });
    }

    /** "0 when there is none." */
    private static void uses(State state) {
        long all = 0;
        ModuleScanner every = state.made();
        for (int c = 0; c < state.files(); c++) {
            all |= every.uses(c, false) | Checks.set(every.file(c, 1));
        }
        CHECKS.same(state + " all uses", all, state.names() == 0 ? 0 : -1L >>> 64 - state.names());
        forAll(state, (s, c) -> {
            if (!state.hasFile(c)) {
                CHECKS.same(state + " uses(" + c + ", false)", s.uses(c, false), 0);
            }
            CHECKS.same(state + " uses(" + c + ", true)", s.uses(c, true), 0);
        });
    }

    /** "0 when there is no such name." */
    private static void closure(State state) {
        forAll(state, (s, n) -> {
            long closure = s.closure(n);
            CHECKS.same(state + " closure(" + n + ")", state.hasName(n) ? closure & Checks.set(n) : closure,
                    state.hasName(n) ? Checks.set(n) : 0);
        });
    }

    /** "(name itself is one of them); NONE when there is no such name." */
    private static void component(State state) {
        forAll(state, (s, n) -> CHECKS.same(state + " component(" + n + ")", s.component(n), state.hasName(n) ? n : -1));
    }

    /** "0 for a name that is not found; ... NONE when there is no such name." */
    private static void layer(State state) {
        forAll(state, (s, n) -> {
            int due = !state.hasName(n) ? -1 : s.provider(n) < 0 ? 0 : 1;
            CHECKS.same(state + " layer(" + n + ")", s.layer(n), due);
        });
    }

    /** "The least of the names in the package of a name; NONE when there is no such name." */
    private static void packageOf(State state) {
        forAll(state, (s, n) -> CHECKS.same(state + " packageOf(" + n + ")", s.packageOf(n), state.hasName(n) ? 0 : -1));
    }

    /** "0 when there is no such name." */
    private static void jars(State state) {
        forAll(state, (s, n) -> CHECKS.same(state + " jars(" + n + ")", s.jars(n), state.hasName(n) ? 1 : 0));
    }

    /** Names of each length from 1 to 16: the last character is there and the next one is not. */
    private static void letterBeyondItsName() {
        String text = "abcd/fghi/klmn$9";
        int[] lengths = {1, 2, 3, 4, 6, 7, 8, 9, 11, 12, 13, 14, 15, 16};
        ModuleScanner s = new ModuleScanner();
        for (int length : lengths) {
            Checks.add(s, 0, new ClassMaker(text.substring(0, length)));
        }
        for (int name = 0; name < lengths.length; name++) {
            for (int i = -1; i <= 18; i++) {
                boolean there = i >= 0 && i < lengths[name];
                CHECKS.same("letter(" + name + ", " + i + ")", s.letter(name, i), there ? text.charAt(i) : -1);
            }
        }
    }

    /** "NONE when ... which is not 0 .. 6." */
    private static void fileOfAnotherWhich() {
        int[] due = {3, 0, 1, 0xFFFF, 2, 1, 3};
        for (int which : NUMBERS) {
            ModuleScanner s = new ModuleScanner();
            Checks.add(s, 3, new ClassMaker("A").flags(0xFFFF).parent("P").implementing("I").implementing("I").field(0, "I")
                    .method(1, "()V").method(0, "()V").method(4, "()V"));
            CHECKS.same("file(0, " + which + ")", s.file(0, which), which >= 0 && which <= 6 ? due[which] : -1);
            CHECKS.same("file(1, " + which + ")", s.file(1, which), -1);
            CHECKS.same("file(-1, " + which + ")", s.file(-1, which), -1);
        }
    }

    /** "2 the name of SUPER (NONE for 0)". */
    private static void fileWithoutSuper() {
        ModuleScanner s = new ModuleScanner();
        Checks.add(s, 0, new ClassMaker("A"));
        Checks.add(s, 0, new ClassMaker("B").parent("A"));
        Checks.add(s, 0, new ClassMaker("C").parent("C"));
        CHECKS.same("no SUPER", s.file(0, 2), -1);
        CHECKS.same("SUPER is name 0", s.file(1, 2), 0);
        CHECKS.same("SUPER is THIS", s.file(2, 2), 2);
    }

    /** "All class files of a jar go: how many; ... NONE when there is no such jar." */
    private static void drop() {
        for (int jar : NUMBERS) {
            ModuleScanner s = new ModuleScanner();
            for (int n = 0; n < 10; n++) {
                // In jar j there are j class files.
                int[] jars = {1, 2, 2, 3, 3, 3, 4, 4, 4, 4};
                Checks.add(s, jars[n], new ClassMaker("n" + n));
            }
            boolean there = jar >= 0 && jar <= 4;
            CHECKS.same("drop(" + jar + ")", s.drop(jar), there ? jar : -1);
            CHECKS.same("class files left", s.file(9 - (there ? jar : 0), 0) >= 0 ? 1 : 0, 1);
            CHECKS.same("not one more", s.file(10 - (there ? jar : 0), 0), -1);
            CHECKS.same("drop(" + jar + ") again", s.drop(jar), there ? 0 : -1);
            CHECKS.same("names stay", s.names(), 10);
        }
    }

    /** Each jar needs, offers and reads all others. */
    private static ModuleScanner allJars() {
        ModuleScanner s = new ModuleScanner();
        for (int jar = 0; jar < 5; jar++) {
            Checks.add(s, jar, new ClassMaker("n" + jar).implementing("n0").implementing("n1").implementing("n2")
                    .implementing("n3").implementing("n4"));
        }
        return s;
    }

    /** "0 when there is no such jar or which is not 0 .. 2." */
    private static void jar() {
        for (int n : NUMBERS) {
            ModuleScanner s = allJars();
            for (int which = -1; which <= 3; which++) {
                boolean asked = which >= 0 && which <= 2;
                boolean there = n >= 0 && n <= 4;
                CHECKS.same("jar(" + n + ", " + which + ")", s.jar(n, which), there && asked ? 31 & ~(1 << n) : 0);
            }
            CHECKS.same("jar(0, " + n + ")", s.jar(0, n), n >= 0 && n <= 2 ? 30 : 0);
            CHECKS.same("jar(4, " + n + ")", s.jar(4, n), n >= 0 && n <= 2 ? 15 : 0);
            CHECKS.same("jar(5, " + n + ")", s.jar(5, n), 0);
            CHECKS.same("jar(-1, " + n + ")", s.jar(-1, n), 0);
        }
    }

    /** "0 when there is no such jar." */
    private static void exports() {
        for (int n : NUMBERS) {
            CHECKS.same("exports(" + n + ")", allJars().exports(n), n >= 0 && n <= 4 ? 1 : 0);
        }
    }

    /** "NONE when which is not 0 .. 4." */
    private static void problems() {
        // 0: x is missing; 1: the empty package; 2: two jars; 3: A, B and A; 4: the second A.
        int[] due = {1, 1, 2, 3, 1};
        for (int which : NUMBERS) {
            ModuleScanner s = new ModuleScanner();
            Checks.add(s, 0, new ClassMaker("A").using("B", "x"));
            Checks.add(s, 1, new ClassMaker("B").using("A"));
            Checks.add(s, 2, new ClassMaker("A"));
            boolean asked = which >= 0 && which <= 4;
            CHECKS.same("problems(" + which + ")", s.problems(which), asked ? due[which] : -1);
            CHECKS.same("of a new object", new ModuleScanner().problems(which), asked ? 0 : -1);
        }
    }

    /** Class files that are gone are none any more; names stay, but are not found. */
    private static void namesAndFilesThatAreGone() {
        ModuleScanner s = new ModuleScanner();
        Checks.add(s, 0, new ClassMaker("A").parent("B").field(1, "LC;"));
        Checks.add(s, 1, new ClassMaker("B").parent("A"));
        s.drop(0);
        CHECKS.same("the one that is left moved up", s.file(0, 1), 1);
        CHECKS.same("no second class file", s.file(1, 1), -1);
        CHECKS.same("nor what it used", s.uses(1, false), 0);
        s.drop(1);
        CHECKS.same("no class file", s.file(0, 1), -1);
        CHECKS.same("no uses", s.uses(0, false), 0);
        CHECKS.same("nothing is shown", s.uses(0, true), 0);
        for (int name = 0; name < 3; name++) {
            CHECKS.same("a letter that stays", s.letter(name, 0), 'A' + name);
            CHECKS.same("not found", s.provider(name), -1);
            CHECKS.same("its closure is itself", s.closure(name), Checks.set(name));
            CHECKS.same("its component is itself", s.component(name), name);
            CHECKS.same("its layer", s.layer(name), 0);
            CHECKS.same("its package", s.packageOf(name), 0);
            CHECKS.same("no jars", s.jars(name), 0);
        }
        CHECKS.same("no fourth name", s.component(3), -1);
    }
}
