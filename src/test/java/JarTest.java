/** Promises 14 to 18: packages, jars and problems. */
public final class JarTest {
    private static final Checks CHECKS = new Checks("JarTest");

    public static void main(String[] args) {
        packages();
        packagesThatLookAlike();
        packagesOfLongNames();
        aSlashBehindAName();
        jarsOfPackages();
        needsAndOffers();
        whatIsFoundInTheJarItself();
        hiddenClassFilesNeedToo();
        reads();
        readsStopWithoutOffers();
        readsAreNeverOfItself();
        exports();
        missingNames();
        splitPackages();
        circlesOfJars();
        theEmptyPackage();
        hiddenClassFiles();
        splitOverEveryNumberOfJars();
        everyJarUsesEveryOther();
        whatWasThereBeforeADropIsForgotten();
        CHECKS.end();
    }

    private static void use(ModuleScanner s, int jar, String name, String... used) {
        put(s, jar, new ClassMaker(name).using(used));
    }

    private static void show(ModuleScanner s, int jar, String name, String... shown) {
        ClassMaker maker = new ClassMaker(name);
        for (String each : shown) {
            maker.implementing(each);
        }
        put(s, jar, maker);
    }

    private static void put(ModuleScanner s, int jar, ClassMaker maker) {
        int answer = Checks.add(s, jar, maker);
        if (answer < 0) {
            throw new IllegalStateException("refused: " + answer);
        }
    }

    /** "The least of the names in the package of a name". */
    private static void packages() {
        ModuleScanner s = new ModuleScanner();
        use(s, 0, "a/A", "B", "a/C", "a/b/D", "E", "a/b/F", "b/G", "a/b");
        int[] due = {0, 1, 0, 3, 1, 3, 6, 0};
        for (int name = 0; name < due.length; name++) {
            CHECKS.same("packageOf(" + name + ")", s.packageOf(name), due[name]);
        }
        s.drop(0);
        CHECKS.same("names stay in their packages", s.packageOf(5), 3);
    }

    private static void packagesThatLookAlike() {
        ModuleScanner s = new ModuleScanner();
        use(s, 0, "ab/A", "ac/A", "a/A", "abc/A", "a/b/A", "ab", "aB/A", "ab/c", "abc/d", "a/b/c/A");
        int[] due = {0, 1, 2, 3, 4, 5, 6, 0, 3, 9};
        for (int name = 0; name < due.length; name++) {
            CHECKS.same("alike: packageOf(" + name + ")", s.packageOf(name), due[name]);
        }
    }

    /** "what is before its last /, empty when there is none": whatever stands behind it. */
    private static void packagesOfLongNames() {
        ModuleScanner s = new ModuleScanner();
        use(s, 0, "a/b/Name", "a/b/Nam", "a/b/Namely", "a/b", "a/bc", "Name", "Nam", "a/Name", "a/b/c/d/e/f/g/h",
                "a/b/c/d/e/f/g/i");
        int[] due = {0, 0, 0, 3, 3, 5, 5, 3, 8, 8};
        for (int name = 0; name < due.length; name++) {
            CHECKS.same("long: packageOf(" + name + ")", s.packageOf(name), due[name]);
        }
        CHECKS.same("none in the empty package", s.problems(3), 0);
        use(s, 0, "LongName");
        CHECKS.same("one in the empty package", s.problems(3), 1);
    }

    /** The byte behind the name is the high one of the flags, which may look like a /. */
    private static void aSlashBehindAName() {
        ModuleScanner s = new ModuleScanner();
        ByteRow row = ByteRow.head(4).u1(7).u2(3).u1(3).u4(0).text("Abc").tail(1);
        CHECKS.same("flags with a /", Checks.add(s, 0, row.with("flags", 2, '/' << 8)), 0);
        CHECKS.same("in the empty package", s.problems(3), 1);
        use(s, 1, "Abcd", "Abc/D");
        CHECKS.same("another one there", s.packageOf(1), 0);
        CHECKS.same("one that is not", s.packageOf(2), 2);
    }

    /** "The set of jars that have a class file in the package of a name". */
    private static void jarsOfPackages() {
        ModuleScanner s = new ModuleScanner();
        use(s, 0, "a/A", "b/X", "c/X", "B");
        use(s, 3, "a/B");
        use(s, 4, "a/A");
        use(s, 4, "b/Y");
        CHECKS.same("jars of a", s.jars(0), Checks.set(0, 3, 4));
        CHECKS.same("jars of b, whose X is not there", s.jars(1), Checks.set(4));
        CHECKS.same("jars of c", s.jars(2), 0);
        CHECKS.same("jars of the empty one", s.jars(3), 0);
        use(s, 2, "Z");
        CHECKS.same("jars of the empty one then", s.jars(3), Checks.set(2));
        s.drop(4);
        CHECKS.same("jars of a after a drop", s.jars(0), Checks.set(0, 3));
        CHECKS.same("jars of b after a drop", s.jars(1), 0);
    }

    private static void jar(ModuleScanner s, int jar, long needs, long offers, long reads) {
        CHECKS.same("needs of " + jar, s.jar(jar, 0), needs);
        CHECKS.same("offers of " + jar, s.jar(jar, 1), offers);
        CHECKS.same("reads of " + jar, s.jar(jar, 2), reads);
    }

    /** "A jar NEEDS another one if a class file of it ... uses a name that is found in the other one, and OFFERS it, ..." */
    private static void needsAndOffers() {
        ModuleScanner s = new ModuleScanner();
        show(s, 0, "A", "B");
        use(s, 0, "C", "D", "E");
        jar(s, 0, 0, 0, 0);
        use(s, 1, "B");
        use(s, 2, "D");
        jar(s, 0, Checks.set(1, 2), Checks.set(1), Checks.set(1, 2));
        jar(s, 1, 0, 0, 0);
        jar(s, 2, 0, 0, 0);
        jar(s, 3, 0, 0, 0);
        put(s, 4, new ClassMaker("F").flags(0).implementing("D"));
        jar(s, 4, Checks.set(2), 0, Checks.set(2));
        put(s, 4, new ClassMaker("G").method(4, "()LD;").method(0, "()LB;"));
        jar(s, 4, Checks.set(1, 2), Checks.set(2), Checks.set(1, 2));
        s.drop(2);
        jar(s, 0, Checks.set(1), Checks.set(1), Checks.set(1));
        jar(s, 4, Checks.set(1), 0, Checks.set(1));
    }

    /** "NEEDS another one": what is found in the jar itself is no need. */
    private static void whatIsFoundInTheJarItself() {
        ModuleScanner s = new ModuleScanner();
        show(s, 1, "A", "B");
        use(s, 1, "B");
        use(s, 2, "B");
        jar(s, 1, 0, 0, 0);
        // Found in the jar with the least number, even if the jar has one of its own.
        use(s, 0, "B");
        jar(s, 1, 1, 1, 1);
        CHECKS.same("exports of 0", s.exports(0), 1);
        CHECKS.same("exports of 1", s.exports(1), 0);
    }

    /** "a class file of it (found or not)". */
    private static void hiddenClassFilesNeedToo() {
        ModuleScanner s = new ModuleScanner();
        use(s, 0, "a/A");
        show(s, 1, "a/A", "b/B");
        use(s, 2, "b/B", "a/A");
        jar(s, 1, Checks.set(2), Checks.set(2), Checks.set(2));
        jar(s, 2, 1, 0, 1);
        CHECKS.same("exports to a hidden class file", s.exports(2), Checks.set(1));
        CHECKS.same("nothing is missing", s.problems(0), 0);
    }

    /** "those that are offered by a jar that it reads (but not itself)". */
    private static void reads() {
        ModuleScanner s = new ModuleScanner();
        use(s, 0, "A", "B");
        show(s, 1, "B", "C");
        show(s, 2, "C", "D");
        show(s, 3, "D", "E");
        use(s, 4, "E");
        jar(s, 0, Checks.set(1), 0, Checks.set(1, 2, 3, 4));
        jar(s, 1, Checks.set(2), Checks.set(2), Checks.set(2, 3, 4));
        jar(s, 3, Checks.set(4), Checks.set(4), Checks.set(4));
        jar(s, 4, 0, 0, 0);
        // In a circle it would read itself.
        show(s, 4, "F", "C");
        show(s, 3, "G", "B");
        jar(s, 1, Checks.set(2), Checks.set(2), Checks.set(2, 3, 4));
        jar(s, 2, Checks.set(3), Checks.set(3), Checks.set(1, 3, 4));
        jar(s, 4, Checks.set(2), Checks.set(2), Checks.set(1, 2, 3));
        // The other way round, from high numbers to low ones.
        s = new ModuleScanner();
        use(s, 4, "A", "B");
        show(s, 3, "B", "C");
        show(s, 2, "C", "D");
        show(s, 1, "D", "E");
        use(s, 0, "E");
        jar(s, 4, Checks.set(3), 0, Checks.set(0, 1, 2, 3));
        jar(s, 3, Checks.set(2), Checks.set(2), Checks.set(0, 1, 2));
    }

    private static void readsStopWithoutOffers() {
        ModuleScanner s = new ModuleScanner();
        use(s, 0, "A", "B");
        use(s, 1, "B", "C");
        show(s, 2, "C", "D");
        use(s, 3, "D");
        jar(s, 0, Checks.set(1), 0, Checks.set(1));
        jar(s, 1, Checks.set(2), 0, Checks.set(2, 3));
    }

    /** "(but not itself)": in a circle of offers of each length. */
    private static void readsAreNeverOfItself() {
        for (int length = 2; length <= 5; length++) {
            ModuleScanner s = new ModuleScanner();
            for (int jar = 0; jar < length; jar++) {
                show(s, jar, "n" + jar, "n" + (jar + 1) % length);
            }
            int all = (1 << length) - 1;
            for (int jar = 0; jar < 5; jar++) {
                boolean inCircle = jar < length;
                int next = inCircle ? 1 << (jar + 1) % length : 0;
                jar(s, jar, next, next, inCircle ? all & ~(1 << jar) : 0);
            }
            CHECKS.same("all of them reach themselves", s.problems(2), length);
        }
        ModuleScanner alone = new ModuleScanner();
        show(alone, 0, "A", "B");
        show(alone, 0, "B", "A");
        jar(alone, 0, 0, 0, 0);
        CHECKS.same("a circle in one jar", alone.problems(2), 0);
    }

    /** "the packages of the names that are found in it and that a class file of another jar uses". */
    private static void exports() {
        ModuleScanner s = new ModuleScanner();
        use(s, 0, "z/Z", "b/X", "a/X", "c/X");
        use(s, 1, "a/A", "b/B", "c/C");
        use(s, 1, "b/B");
        use(s, 1, "c/C");
        // The names are z/Z 0, b/X 1, a/X 2, c/X 3, a/A 4, b/B 5, c/C 6.
        CHECKS.same("uses within a jar", s.exports(1), 0);
        use(s, 2, "d/D", "b/B", "a/A");
        CHECKS.same("the least names of b and a", s.exports(1), Checks.set(1, 2));
        use(s, 3, "c/C", "z/Z", "c/C");
        CHECKS.same("z is exported by 0", s.exports(0), Checks.set(0));
        CHECKS.same("c is not used from outside", s.exports(1), Checks.set(1, 2));
        use(s, 2, "d/E", "c/C");
        CHECKS.same("now it is", s.exports(1), Checks.set(1, 2, 3));
        CHECKS.same("the other c is not found", s.exports(3), 0);
        s.drop(1);
        CHECKS.same("dropped", s.exports(1), 0);
        CHECKS.same("found elsewhere", s.exports(3), Checks.set(3));
    }

    /** "MISSING if there is none, but a class file that is found uses it". */
    private static void missingNames() {
        ModuleScanner s = new ModuleScanner();
        use(s, 1, "A", "B", "C", "D");
        CHECKS.same("three", s.problems(0), 3);
        use(s, 2, "B", "E", "C");
        CHECKS.same("one found, one more", s.problems(0), 3);
        // A class file that is not found needs nothing.
        use(s, 3, "A", "F", "G");
        CHECKS.same("hidden uses do not count", s.problems(0), 3);
        s.drop(1);
        CHECKS.same("now they do", s.problems(0), 4);
        s.drop(2);
        CHECKS.same("names that nobody uses are not missing", s.problems(0), 2);
        s.drop(3);
        CHECKS.same("none", s.problems(0), 0);
    }

    /** "packages have class files in more than one jar". */
    private static void splitPackages() {
        ModuleScanner s = new ModuleScanner();
        use(s, 0, "a/A", "b/B");
        use(s, 0, "a/B");
        CHECKS.same("one jar", s.problems(1), 0);
        use(s, 1, "b/C", "a/C");
        CHECKS.same("uses do not split", s.problems(1), 0);
        use(s, 1, "a/A");
        CHECKS.same("the same class in two jars", s.problems(1), 1);
        use(s, 2, "a/D");
        CHECKS.same("three jars are one problem", s.problems(1), 1);
        use(s, 3, "b/D");
        CHECKS.same("another package", s.problems(1), 2);
        use(s, 3, "Z");
        use(s, 4, "Y");
        CHECKS.same("the empty package too", s.problems(1), 3);
        s.drop(3);
        CHECKS.same("after a drop", s.problems(1), 1);
    }

    /** "jars reach themselves by what jars need". */
    private static void circlesOfJars() {
        ModuleScanner s = new ModuleScanner();
        use(s, 0, "A", "B", "E");
        use(s, 0, "E", "A");
        use(s, 1, "B", "C");
        use(s, 2, "C", "D");
        use(s, 3, "D");
        CHECKS.same("a chain, and a circle within a jar", s.problems(2), 0);
        use(s, 3, "F", "B");
        CHECKS.same("three in a circle", s.problems(2), 3);
        use(s, 4, "G", "A");
        CHECKS.same("one that leads to it", s.problems(2), 3);
        use(s, 2, "H", "G");
        CHECKS.same("all five", s.problems(2), 5);
        s.drop(1);
        CHECKS.same("broken", s.problems(2), 0);
    }

    /** "class files are in the empty package". */
    private static void theEmptyPackage() {
        ModuleScanner s = new ModuleScanner();
        use(s, 0, "a/A", "B", "C");
        CHECKS.same("names are no class files", s.problems(3), 0);
        ModuleScanner first = new ModuleScanner();
        use(first, 0, "A", "b/B");
        CHECKS.same("the first class file counts", first.problems(3), 1);
        use(s, 1, "B");
        use(s, 2, "B");
        use(s, 2, "a");
        CHECKS.same("each of them counts", s.problems(3), 3);
        s.drop(2);
        CHECKS.same("one left", s.problems(3), 1);
    }

    /** "class files are not what their name is found as". */
    private static void hiddenClassFiles() {
        ModuleScanner s = new ModuleScanner();
        use(s, 4, "A");
        use(s, 4, "B");
        CHECKS.same("none", s.problems(4), 0);
        use(s, 2, "A");
        use(s, 3, "A");
        use(s, 3, "B");
        CHECKS.same("three", s.problems(4), 3);
        s.drop(2);
        CHECKS.same("two", s.problems(4), 2);
        s.drop(4);
        CHECKS.same("none again", s.problems(4), 0);
    }

    /** "more than one jar": one, two and all of them. */
    private static void splitOverEveryNumberOfJars() {
        ModuleScanner s = new ModuleScanner();
        for (int jar = 0; jar < 5; jar++) {
            use(s, jar, "a/A");
            use(s, jar, "b/B" + jar);
            CHECKS.same("two packages in " + (jar + 1) + " jars", s.problems(1), jar == 0 ? 0 : 2);
            CHECKS.same("class files that are not found", s.problems(4), jar);
        }
        for (int jar = 0; jar < 5; jar++) {
            s.drop(jar);
            CHECKS.same("two packages in " + (4 - jar) + " jars", s.problems(1), jar < 3 ? 2 : 0);
            CHECKS.same("class files that are not found", s.problems(4), jar < 4 ? 3 - jar : 0);
        }
    }

    private static void everyJarUsesEveryOther() {
        for (int from = 0; from < 5; from++) {
            for (int to = 0; to < 5; to++) {
                ModuleScanner s = new ModuleScanner();
                use(s, to, "a/A");
                use(s, from, "b/B", "a/A");
                CHECKS.same("exports of " + to + " to " + from, s.exports(to), from == to ? 0 : 1);
                CHECKS.same("needs of " + from, s.jar(from, 0), from == to ? 0 : Checks.set(to));
                CHECKS.same("offers of " + from, s.jar(from, 1), 0);
            }
        }
    }

    private static void whatWasThereBeforeADropIsForgotten() {
        for (int from = 0; from < 5; from++) {
            int to = (from + 1) % 5;
            ModuleScanner s = new ModuleScanner();
            use(s, to, "a/A");
            show(s, from, "b/B", "a/A");
            jar(s, from, Checks.set(to), Checks.set(to), Checks.set(to));
            CHECKS.same("the user goes", s.drop(from), 1);
            jar(s, from, 0, 0, 0);
            CHECKS.same("nothing is exported", s.exports(to), 0);
            show(s, from, "b/B", "a/A");
            CHECKS.same("the used one goes", s.drop(to), 1);
            jar(s, from, 0, 0, 0);
            CHECKS.same("it exports nothing", s.exports(to), 0);
            CHECKS.same("it is missing", s.problems(0), 1);
            use(s, from, "a/A");
            jar(s, from, 0, 0, 0);
            CHECKS.same("it is missing no more", s.problems(0), 0);
        }
    }
}
