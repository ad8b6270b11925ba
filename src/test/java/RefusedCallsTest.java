/** "A call that answers less than 0 or false changes nothing, but add(), where it is said." */
public final class RefusedCallsTest {
    private static final Checks CHECKS = new Checks("RefusedCallsTest");
    private static final int[] NO_JARS = {-1, 5, 6, 32, Integer.MIN_VALUE, Integer.MAX_VALUE};

    public static void main(String[] args) {
        aPutOfOtherCounts();
        aPutBeyond400Bytes();
        anAddToNoJar();
        anAddWhen16AreThere();
        anAddOfAWrongDraftEmptiesIt();
        anAddOfANameTwiceInAJar();
        anAddOfA49thName();
        aDropOfNoJar();
        questionsAboutNothing();
        questionsChangeNothing();
        CHECKS.end();
    }

    /** Class files in four jars, one of them not found, and a right one in the draft. */
    private static Run some() {
        return new Run().add(3, new ClassMaker("c/C").using("a/A"))
                .add(0, new ClassMaker("a/A").parent("b/B").field(1, "Lc/C;").method(4, "(LX;)V"))
                .add(1, new ClassMaker("b/B").using("a/A", "e/E"))
                .add(4, new ClassMaker("a/A").implementing("b/B"))
                .put(new ClassMaker("d/D").using("d/E", "a/A"));
    }

    private static void sameAnswers(String what, Run got, Run due) {
        String difference = got.difference(due);
        CHECKS.holds(what + (difference == null ? "" : ": " + difference), difference == null);
    }

    /** The same answers, and the same draft: in length, and when it is added to any jar. */
    private static void same(String what, Run got, Run due) {
        sameAnswers(what, got, due);
        CHECKS.same(what + ": room in the draft", got.room(), due.room());
        for (int jar = 0; jar < 5; jar++) {
            CHECKS.same(what + ": add(" + jar + ")", got.add(jar).lastAnswer(), due.add(jar).lastAnswer());
            sameAnswers(what + ", then add(" + jar + ")", got.add(jar), due.add(jar));
        }
    }

    private static void refused(String what, Run run, Run.Call call, long due) {
        Run longer = run.then(call);
        CHECKS.same(what, longer.lastAnswer(), due);
        same("after " + what, longer, run);
    }

    private static void aPutOfOtherCounts() {
        for (int n : new int[] {0, -1, 9, 10, 16, -8, Integer.MIN_VALUE, Integer.MAX_VALUE}) {
            refused("put(" + n + ")", some(), s -> s.put(n, -1) ? 1 : 0, 0);
            refused("put(" + n + ") in a new object", new Run(), s -> s.put(n, -1) ? 1 : 0, 0);
        }
    }

    /** A right class file of so many bytes, the last of which are those of an attribute. */
    private static byte[] ofLength(int length) {
        ByteRow row = ByteRow.head(3).text("A").u1(7).u2(1).u2(0).u2(2).u2(0).u2(0).u2(0).u2(0).u2(1).u2(1);
        return row.body(new int[length - row.size() - 4]).bytes();
    }

    private static void aPutBeyond400Bytes() {
        for (int length = 393; length <= 400; length++) {
            Run run = new Run().put(ofLength(length));
            for (int n = 401 - length; n <= 8; n++) {
                int many = n;
                refused("put(" + n + ") behind " + length, run, s -> s.put(many, -1) ? 1 : 0, 0);
            }
            CHECKS.same("room behind " + length, run.room(), 400 - length);
            CHECKS.same("it is right", run.add(0).lastAnswer(), 0);
        }
    }

    private static void anAddToNoJar() {
        for (int jar : NO_JARS) {
            refused("add(" + jar + ")", some(), s -> s.add(jar), -1);
            refused("add(" + jar + ") of a wrong draft", some().put(1, 0), s -> s.add(jar), -1);
            refused("add(" + jar + ") of an empty draft", some().scrap(), s -> s.add(jar), -1);
        }
    }

    private static Run sixteen() {
        Run run = new Run();
        for (int n = 0; n < 16; n++) {
            run = run.add(n % 5, new ClassMaker("n/" + (char) ('A' + n)).using("n/" + (char) ('B' + n)));
        }
        return run;
    }

    private static void anAddWhen16AreThere() {
        Run full = sixteen().put(new ClassMaker("x/X").using("x/Y"));
        for (int jar = 0; jar < 5; jar++) {
            int other = jar;
            refused("add(" + jar + ") of a 17th", full, s -> s.add(other), -1);
            refused("add(" + jar + ") of a wrong 17th", full.put(1, 0), s -> s.add(other), -1);
        }
        Run refusedOnce = full.add(0);
        CHECKS.same("the draft stayed", refusedOnce.drop(3).add(3).lastAnswer(), 13);
        same("as if it had not been tried", refusedOnce.drop(3), full.drop(3));
    }

    /** "The draft becomes empty when it is wrong, too": and nothing else changes. */
    private static void anAddOfAWrongDraftEmptiesIt() {
        Run clean = some().scrap();
        ByteRow row = Zoo.whole();
        for (Zoo.Fault fault : Zoo.faults()) {
            Run wrong = clean.put(row.with(fault.label(), fault.size(), fault.value())).add(2);
            CHECKS.same("wrong " + fault.label(), wrong.lastAnswer(), -2 - row.place(fault.label()));
            same("after a wrong " + fault.label(), wrong, clean);
        }
        Run left = clean.put(row.bytes()).put(1, 0).add(2);
        CHECKS.same("a byte left", left.lastAnswer(), -2 - row.size());
        same("after a byte left", left, clean);
        Run empty = clean.add(2);
        CHECKS.same("an empty draft", empty.lastAnswer(), -2);
        same("after an empty draft", empty, clean);
        Run full = clean;
        for (int i = 0; i < 50; i++) {
            full = full.put(8, -1);
        }
        CHECKS.same("a full one", full.add(2).lastAnswer(), -2);
        same("after a full one", full.add(2), clean);
    }

    private static void anAddOfANameTwiceInAJar() {
        Run run = some().scrap().put(new ClassMaker("a/A").using("d/E", "new/Name"));
        for (int jar : new int[] {0, 4}) {
            refused("add(" + jar + ") of a name that the jar has", run, s -> s.add(jar), -1000);
        }
        CHECKS.same("another jar takes it", run.add(0).add(4).add(2).lastAnswer(), 4);
    }

    /** As many names as 48 less some, in three class files. */
    private static Run names(int many) {
        Run run = new Run();
        for (int first = 0; first < many; first += 16) {
            ClassMaker maker = new ClassMaker("k/" + first);
            for (int n = first + 1; n < Math.min(many, first + 16); n++) {
                maker.using("k/" + n);
            }
            run = run.add(first / 16, maker);
        }
        return run;
    }

    private static void anAddOfA49thName() {
        for (int left = 0; left <= 3; left++) {
            Run run = names(48 - left);
            CHECKS.same("names", run.ask(ModuleScanner::names), 48 - left);
            // Packages of its own and long names, so that what would stay of them is seen.
            ClassMaker maker = new ClassMaker("long/package/N1").using("long/package/N2", "other/N3", "N4");
            refused("add of four names when " + left + " are left", run.put(maker), s -> s.add(4), -1001);
            maker = new ClassMaker("k/1").pair("x", "(La/1;La/2;)La/3;").field(1, "La/4;");
            refused("add of four names in types when " + left + " are left", run.put(maker), s -> s.add(0), -1001);
            Run next = run.put(maker).add(3).scrap().put(new ClassMaker("k/2").flags(0).parent("k/0"));
            same("the next one", next, run.put(new ClassMaker("k/2").flags(0).parent("k/0")));
        }
        Run three = names(45).put(new ClassMaker("long/package/N1").using("long/package/N2", "other/N3", "N4")).add(4).scrap();
        ClassMaker others = new ClassMaker("N").using("p", "q");
        same("names that come in their places", three.add(2, others), names(45).add(2, others));
    }

    private static void aDropOfNoJar() {
        for (int jar : NO_JARS) {
            refused("drop(" + jar + ")", some(), s -> s.drop(jar), -1);
            refused("drop(" + jar + ") of 16", sixteen(), s -> s.drop(jar), -1);
        }
    }

    private static void questionsAboutNothing() {
        for (int n : new int[] {-1, 48, 64, Integer.MIN_VALUE, Integer.MAX_VALUE}) {
            refused("letter(" + n + ", 0)", some(), s -> s.letter(n, 0), -1);
            refused("letter(0, " + n + ")", some(), s -> s.letter(0, n), -1);
            refused("provider(" + n + ")", some(), s -> s.provider(n), -1);
            refused("file(" + n + ", 0)", some(), s -> s.file(n, 0), -1);
            refused("file(0, " + n + ")", some(), s -> s.file(0, n), -1);
            refused("component(" + n + ")", some(), s -> s.component(n), -1);
            refused("layer(" + n + ")", some(), s -> s.layer(n), -1);
            refused("packageOf(" + n + ")", some(), s -> s.packageOf(n), -1);
            refused("problems(" + n + ")", some(), s -> s.problems(n), -1);
            refused("uses(" + n + ", false)", some(), s -> s.uses(n, false), 0);
            refused("uses(" + n + ", true)", some(), s -> s.uses(n, true), 0);
            refused("closure(" + n + ")", some(), s -> s.closure(n), 0);
            refused("jars(" + n + ")", some(), s -> s.jars(n), 0);
            refused("jar(" + n + ", 0)", some(), s -> s.jar(n, 0), 0);
            refused("jar(0, " + n + ")", some(), s -> s.jar(0, n), 0);
            refused("exports(" + n + ")", some(), s -> s.exports(n), 0);
        }
    }

    private static void questionsChangeNothing() {
        Run run = some();
        Run longer = run.then(s -> s.letter(0, 0)).then(s -> s.provider(0)).then(s -> s.file(0, 2)).then(s -> s.uses(1, true))
                .then(s -> s.closure(0)).then(s -> s.component(0)).then(s -> s.layer(0)).then(s -> s.packageOf(0))
                .then(s -> s.jars(0)).then(s -> s.jar(0, 2)).then(s -> s.exports(0));
        for (int which = 0; which < 5; which++) {
            int problem = which;
            longer = longer.then(s -> s.problems(problem));
        }
        same("after questions", longer, run);
    }
}
