/** How much there may be: 512 calls, 400 bytes, 16 class files, 48 names, jars 0 .. 4. */
public final class LimitsTest {
    private static final Checks CHECKS = new Checks("LimitsTest");

    public static void main(String[] args) {
        everyCallHoldsAsThe512th();
        laterCallsDoNotThrow();
        sixteenClassFilesInAll();
        sixteenAgainAfterADrop();
        fortyEightNames();
        the49thNameWhereverItIsMet();
        fortyEightNamesOf16Characters();
        namesThatWereMetBeforeAreNoMore();
        setsHaveABitForEachName();
        setsHaveABitForEachJar();
        jarsAre0To4();
        CHECKS.end();
    }

    private static void last(String what, Run run, Run.Call call, long due) {
        Run longer = run.then(call).stretched(Run.MOST_CALLS);
        CHECKS.same("calls before " + what, longer.length(), 512);
        CHECKS.same(what + " as the 512th call", longer.lastAnswer(), due);
    }

    /** "An object is used for at most 512 calls after it has been made". */
    private static void everyCallHoldsAsThe512th() {
        Run run = new Run().add(1, new ClassMaker("a/A").parent("b/B").field(1, "Lc/C;"))
                .add(2, new ClassMaker("b/B").using("a/A")).put(new ClassMaker("c/C").flags(33));
        last("put", run, s -> s.put(8, 0) ? 1 : 0, 1);
        last("a refused put", run, s -> s.put(9, 0) ? 1 : 0, 0);
        last("add", run, s -> s.add(0), 2);
        last("a wrong add", run.scrap(), s -> s.add(0), -2);
        last("drop", run, s -> s.drop(2), 1);
        last("names", run, s -> s.names(), 3);
        last("letter", run, s -> s.letter(2, 2), 'C');
        last("provider", run, s -> s.provider(1), 1);
        last("file", run, s -> s.file(0, 2), 1);
        last("uses", run, s -> s.uses(0, true), Checks.set(1, 2));
        last("closure", run, s -> s.closure(1), 7);
        last("component", run, s -> s.component(1), 0);
        last("layer", run, s -> s.layer(1), 1);
        last("packageOf", run, s -> s.packageOf(2), 2);
        last("jars", run, s -> s.jars(1), 4);
        last("jar", run, s -> s.jar(1, 2), 4);
        last("exports", run, s -> s.exports(1), 1);
        last("problems", run, s -> s.problems(0), 1);
        last("file after an add as the 511th", run.add(0), s -> s.file(2, 3), 33);
        last("names after a scrap as the 511th", run.scrap(), s -> s.names(), 3);
    }

    /** Their answers are free, but no call ever throws by itself. */
    private static void laterCallsDoNotThrow() {
        ModuleScanner s = new Run().add(0, new ClassMaker("A").parent("B")).stretched(512).made();
        for (int i = 0; i < 300; i++) {
            Checks.put(s, new byte[i % 5]);
            s.add(i % 6);
            s.scrap();
            Checks.add(s, i % 5, new ClassMaker("n/" + i).using("m/" + i));
            s.letter(i % 50, i % 18);
            s.provider(i % 50);
            s.file(i % 18, i % 8);
            s.uses(i % 18, i % 2 == 0);
            s.closure(i % 50);
            s.component(i % 50);
            s.layer(i % 50);
            s.packageOf(i % 50);
            s.jars(i % 50);
            s.jar(i % 6, i % 4);
            s.exports(i % 6);
            s.problems(i % 6);
            s.names();
            if (i % 40 == 39) {
                s.drop(i / 40 % 6);
            }
            s.scrap();
        }
        CHECKS.holds("nothing was thrown", true);
    }

    private static String nth(int n) {
        return "n/" + (char) ('A' + n);
    }

    /** "at most 16 in all": in one jar, in two and in all of them. */
    private static void sixteenClassFilesInAll() {
        for (int jars = 1; jars <= 5; jars++) {
            ModuleScanner s = new ModuleScanner();
            for (int n = 0; n < 16; n++) {
                CHECKS.same("class file " + n + " of 16", Checks.add(s, n % jars, new ClassMaker(nth(n))), n);
            }
            for (int jar = 0; jar < 5; jar++) {
                CHECKS.same("the 17th in jar " + jar, Checks.add(s, jar, new ClassMaker("x/X")), -1);
            }
            CHECKS.same("names", s.names(), 16);
            CHECKS.same("the last of them", s.file(15, 1), 15);
            CHECKS.same("no other", s.file(16, 1), -1);
            CHECKS.same("it is found", s.provider(15), 15);
        }
        ModuleScanner s = new ModuleScanner();
        for (int n = 0; n < 15; n++) {
            Checks.add(s, 0, new ClassMaker(nth(n)));
        }
        CHECKS.same("15 are there: a name twice", Checks.add(s, 0, new ClassMaker(nth(3))), -1000);
        CHECKS.same("the 16th", Checks.add(s, 0, new ClassMaker(nth(15))), 15);
        CHECKS.same("16 are there: a name twice", Checks.add(s, 0, new ClassMaker(nth(3))), -1);
        CHECKS.same("all of them go", s.drop(0), 16);
    }

    private static void sixteenAgainAfterADrop() {
        ModuleScanner s = new ModuleScanner();
        for (int n = 0; n < 16; n++) {
            Checks.add(s, n < 15 ? 0 : 1, new ClassMaker(nth(n)));
        }
        CHECKS.same("one goes", s.drop(1), 1);
        CHECKS.same("one comes", Checks.add(s, 2, new ClassMaker(nth(15))), 15);
        CHECKS.same("none more", Checks.add(s, 1, new ClassMaker(nth(15))), -1);
        CHECKS.same("fifteen go", s.drop(0), 15);
        for (int n = 1; n < 16; n++) {
            CHECKS.same("fifteen come", Checks.add(s, 4, new ClassMaker(nth(n))), n);
        }
        CHECKS.same("none more again", Checks.add(s, 0, new ClassMaker(nth(0))), -1);
    }

    /** A class file with these names, from the first to before the last number. */
    private static ClassMaker numbered(int first, int end) {
        ClassMaker maker = new ClassMaker("k/" + first);
        for (int n = first + 1; n < end; n++) {
            maker.using("k/" + n);
        }
        return maker;
    }

    private static ModuleScanner withNames(int many) {
        ModuleScanner s = new ModuleScanner();
        for (int first = 0; first < many; first += 16) {
            CHECKS.same("added", Checks.add(s, first / 16, numbered(first, Math.min(first + 16, many))), first / 16);
        }
        CHECKS.same("names", s.names(), many);
        return s;
    }

    /** "NAMES are ... at most 48", "-1001 when a 49th name would be met". */
    private static void fortyEightNames() {
        for (int before = 40; before <= 48; before++) {
            for (int more = 1; before + more <= 52; more++) {
                ModuleScanner s = withNames(before);
                int answer = Checks.add(s, 3, numbered(before, before + more));
                CHECKS.same(before + " and " + more + " names", answer, before + more <= 48 ? 3 : -1001);
                CHECKS.same("names then", s.names(), before + more <= 48 ? before + more : before);
            }
        }
        ModuleScanner s = withNames(48);
        for (int name = 0; name < 48; name++) {
            CHECKS.holds("name " + name, Checks.text(s, name).equals("k/" + name));
        }
    }

    /** In every place where names are met the 48th is right and the 49th is not. */
    private static void the49thNameWhereverItIsMet() {
        ClassMaker[] makers = {
            new ClassMaker("z"), new ClassMaker("k/5").parent("z"), new ClassMaker("k/5").implementing("z"),
            new ClassMaker("k/5").using("z"), new ClassMaker("k/5").using("[[Lz;"), new ClassMaker("k/5").pair("x", "Lz;"),
            new ClassMaker("k/5").pair("x", "(Lk/1;)[Lz;"), new ClassMaker("k/5").field(0, "Lz;"),
            new ClassMaker("k/5").field(0, "I").field(0, "[Lz;"), new ClassMaker("k/5").method(0, "(ILz;)V"),
            new ClassMaker("k/5").method(0, "()V").method(0, "()Lz;")};
        for (int i = 0; i < makers.length; i++) {
            ModuleScanner s = withNames(47);
            CHECKS.same("the 48th name in place " + i, Checks.add(s, 4, makers[i]), 3);
            CHECKS.same("it is the last", s.letter(47, 0), 'z');
            s = withNames(48);
            CHECKS.same("the 49th name in place " + i, Checks.add(s, 4, makers[i]), -1001);
            CHECKS.same("names stay", s.names(), 48);
        }
    }

    private static String longName(int n) {
        return "pack/Of16Chars" + (char) ('a' + n / 10) + n % 10;
    }

    /** Names as many and as long as they may be: none of them takes the place of another. */
    private static void fortyEightNamesOf16Characters() {
        ModuleScanner s = new ModuleScanner();
        for (int first = 0; first < 48; first += 12) {
            ClassMaker maker = new ClassMaker(longName(first));
            for (int n = first + 1; n < first + 12; n++) {
                maker.using(longName(n));
            }
            CHECKS.same("twelve long names", Checks.add(s, first / 12, maker), first / 12);
        }
        for (int name = 0; name < 48; name++) {
            CHECKS.same("the first character", s.letter(name, 0), 'p');
            CHECKS.same("the 15th", s.letter(name, 14), 'a' + name / 10);
            CHECKS.same("the 16th", s.letter(name, 15), '0' + name % 10);
            CHECKS.same("no 17th", s.letter(name, 16), -1);
            CHECKS.same("their package", s.packageOf(name), 0);
        }
    }

    private static void namesThatWereMetBeforeAreNoMore() {
        ModuleScanner s = withNames(48);
        ClassMaker maker = new ClassMaker("k/47").parent("k/0").pair("x", "(Lk/20;)Lk/30;").field(0, "Lk/31;")
                .method(0, "()Lk/32;");
        CHECKS.same("old names", Checks.add(s, 4, maker), 3);
        CHECKS.same("they are used once more", s.uses(3, false), Checks.set(0, 20, 30, 31, 32));
        CHECKS.same("a name and a text", Checks.add(s, 4, new ClassMaker("k/46").pair("Lz;", "I")), 4);
        CHECKS.same("texts are no names", s.names(), 48);
        s.drop(4);
        s.drop(0);
        CHECKS.same("names stay when class files go", Checks.add(s, 0, new ClassMaker("z")), -1001);
    }

    /** "SETS of names are longs ... with bit n for n": up to bit 47, and around bit 31. */
    private static void setsHaveABitForEachName() {
        for (int name : new int[] {0, 1, 30, 31, 32, 33, 46, 47}) {
            ModuleScanner s = withNames(48);
            int other = name == 5 ? 6 : 5;
            String self = "k/" + other;
            long bit = Checks.set(name);
            CHECKS.same("one that uses " + name, Checks.add(s, 3, new ClassMaker(self).parent("k/" + name)), 3);
            CHECKS.same("it uses it", s.uses(3, false), bit);
            CHECKS.same("it shows it", s.uses(3, true), bit);
            CHECKS.same("it reaches it", s.closure(other) & (bit | Checks.set(other)), bit | Checks.set(other));
            s.drop(0);
            s.drop(1);
            s.drop(2);
            CHECKS.same("it reaches no other", s.closure(other), bit | Checks.set(other));
            CHECKS.same("missing", s.problems(0), 1);
            Checks.add(s, 4, new ClassMaker("k/" + name));
            CHECKS.same("found", s.provider(name), 1);
            CHECKS.same("its closure", s.closure(name), bit);
            CHECKS.same("its component", s.component(name), name);
            CHECKS.same("its layer", s.layer(name), 1);
            CHECKS.same("the layer above", s.layer(other), 2);
            CHECKS.same("the package k is exported", s.exports(4), 1);
            CHECKS.same("needed", s.jar(3, 0), 16);
            CHECKS.same("none is missing", s.problems(0), 0);
        }
        everyNameItsOwnPackage();
    }

    private static void everyNameItsOwnPackage() {
        ModuleScanner s = new ModuleScanner();
        for (int first = 0; first < 48; first += 12) {
            ClassMaker maker = new ClassMaker("p" + first + "/N");
            for (int n = first + 1; n < first + 12; n++) {
                maker.using("p" + n + "/N");
            }
            Checks.add(s, 0, maker);
        }
        for (int name : new int[] {0, 31, 32, 33, 47}) {
            Checks.add(s, 1, new ClassMaker("p" + name + "/N"));
            CHECKS.same("its package", s.packageOf(name), name);
            CHECKS.same("it is exported", s.exports(1) >>> name & 1, name == 0 ? 0 : 1);
        }
        CHECKS.same("all that are exported", s.exports(1), Checks.set(31, 32, 33, 47));
    }

    /** "of jars ints, with bit n for n". */
    private static void setsHaveABitForEachJar() {
        for (int jar = 0; jar < 5; jar++) {
            for (int other = 0; other < 5; other++) {
                ModuleScanner s = new ModuleScanner();
                Checks.add(s, jar, new ClassMaker("A").parent("b/B"));
                Checks.add(s, other, new ClassMaker("b/B"));
                long due = jar == other ? 0 : Checks.set(other);
                CHECKS.same("needs", s.jar(jar, 0), due);
                CHECKS.same("offers", s.jar(jar, 1), due);
                CHECKS.same("reads", s.jar(jar, 2), due);
                CHECKS.same("jars", s.jars(1), Checks.set(other));
                CHECKS.same("jars of the empty package", s.jars(0), Checks.set(jar));
                CHECKS.same("exports", s.exports(other), jar == other ? 0 : 2);
            }
        }
        ModuleScanner s = new ModuleScanner();
        for (int jar = 0; jar < 5; jar++) {
            Checks.add(s, jar, new ClassMaker("a/A"));
            CHECKS.same("jars up to " + jar, s.jars(0), (1 << jar + 1) - 1);
        }
    }

    /** "There are JARS 0 .. 4". */
    private static void jarsAre0To4() {
        for (int jar = -3; jar <= 8; jar++) {
            boolean there = jar >= 0 && jar <= 4;
            ModuleScanner s = new ModuleScanner();
            CHECKS.same("add to jar " + jar, Checks.add(s, jar, new ClassMaker("A")), there ? 0 : -1);
            CHECKS.same("drop of jar " + jar, s.drop(jar), there ? 1 : -1);
        }
    }
}
