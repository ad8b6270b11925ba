/** Promises 4 to 9: add, drop, names, letter, provider and file. */
public final class AddingTest {
    private static final Checks CHECKS = new Checks("AddingTest");

    public static void main(String[] args) {
        addNumbersInOrder();
        addRefusesOtherJars();
        addRefusesASeventeenth();
        addEmptiesAWrongDraft();
        addRefusesANameTwiceInAJar();
        addRefusesA49thName();
        refusalsComeInOrder();
        dropMovesTheOthersUp();
        namesComeInTheOrderOfTheirMeeting();
        namesStay();
        providers();
        filesTellTheirParts();
        CHECKS.end();
    }

    /** "The draft is added as a class file to the jar: its number; the draft is empty then." */
    private static void addNumbersInOrder() {
        ModuleScanner s = new ModuleScanner();
        CHECKS.same("the first", Checks.add(s, 3, new ClassMaker("A")), 0);
        CHECKS.same("the draft is empty then", s.add(3), -2);
        CHECKS.same("the second", Checks.add(s, 0, new ClassMaker("B")), 1);
        CHECKS.same("the third", Checks.add(s, 4, new ClassMaker("A")), 2);
        CHECKS.same("names", s.names(), 2);
    }

    /** "NONE when there is no such jar". */
    private static void addRefusesOtherJars() {
        ModuleScanner s = new ModuleScanner();
        Checks.put(s, new ClassMaker("A").bytes());
        for (int jar : new int[] {-1, 5, 6, 32, Integer.MAX_VALUE, Integer.MIN_VALUE}) {
            CHECKS.same("add to jar " + jar, s.add(jar), -1);
        }
        CHECKS.same("the draft stays", s.add(4), 0);
        s.put(1, 0);
        CHECKS.same("the jar comes before the fault", s.add(5), -1);
        CHECKS.same("a wrong draft stays then too", s.add(0), -2);
    }

    private static String letterName(int n) {
        return "n/" + (char) ('A' + n);
    }

    /** "NONE when ... 16 are there". */
    private static void addRefusesASeventeenth() {
        ModuleScanner s = new ModuleScanner();
        for (int n = 0; n < 16; n++) {
            CHECKS.same("class file " + n, Checks.add(s, n % 5, new ClassMaker(letterName(n))), n);
        }
        CHECKS.same("class file 16", Checks.add(s, 0, new ClassMaker(letterName(16))), -1);
        CHECKS.same("names after it", s.names(), 16);
        CHECKS.same("no class file 16", s.file(16, 0), -1);
        CHECKS.same("drop of jar 2", s.drop(2), 3);
        CHECKS.same("the draft stayed", s.add(0), 13);
        CHECKS.same("another", Checks.add(s, 1, new ClassMaker(letterName(17))), 14);
        CHECKS.same("the last", Checks.add(s, 2, new ClassMaker(letterName(2))), 15);
        CHECKS.same("none more", Checks.add(s, 2, new ClassMaker(letterName(3))), -1);
        s.scrap();
        s.put(1, 1);
        CHECKS.same("16 come before the fault", s.add(0), -1);
        CHECKS.same("then the draft stays", s.drop(0) > 0 ? s.add(0) : 0, -2);
    }

    /** "-2 - k when it is wrong at k", "The draft becomes empty when it is wrong, too." */
    private static void addEmptiesAWrongDraft() {
        ModuleScanner s = new ModuleScanner();
        Checks.put(s, new ClassMaker("A").bytes());
        s.put(1, 0);
        CHECKS.same("a byte too many", s.add(0), -2 - new ClassMaker("A").bytes().length);
        CHECKS.same("names after a wrong one", s.names(), 0);
        CHECKS.same("class files after a wrong one", s.file(0, 0), -1);
        Checks.put(s, new ClassMaker("A").bytes());
        CHECKS.same("the draft was empty", s.add(0), 0);
    }

    /** "-1000 when the jar has one with this name". */
    private static void addRefusesANameTwiceInAJar() {
        ModuleScanner s = new ModuleScanner();
        Checks.add(s, 1, new ClassMaker("a/B"));
        Checks.add(s, 1, new ClassMaker("a/C"));
        CHECKS.same("twice in a jar", Checks.add(s, 1, new ClassMaker("a/B").using("new/Name")), -1000);
        CHECKS.same("no name is met", s.names(), 2);
        CHECKS.same("still refused", s.add(1), -1000);
        CHECKS.same("the draft stays", s.add(2), 2);
        CHECKS.names("its names", s, "a/B a/C new/Name");
        CHECKS.same("a name that is only used is no class file", Checks.add(s, 1, new ClassMaker("new/Name")), 3);
        CHECKS.same("the same name in front", Checks.add(s, 1, new ClassMaker("a")), 4);
        CHECKS.same("dropped", s.drop(1), 4);
        CHECKS.same("again after the drop", Checks.add(s, 1, new ClassMaker("a/B")), 1);
    }

    /** Class files of ten names each. */
    private static ClassMaker ten(int n) {
        ClassMaker maker = new ClassMaker("t/" + n);
        for (int i = 1; i < 10; i++) {
            maker.using("u" + n + "/" + i);
        }
        return maker;
    }

    /** "-1001 when a 49th name would be met". */
    private static void addRefusesA49thName() {
        ModuleScanner s = new ModuleScanner();
        for (int n = 0; n < 4; n++) {
            CHECKS.same("ten names", Checks.add(s, n, ten(n)), n);
        }
        CHECKS.same("names", s.names(), 40);
        CHECKS.same("ten more", Checks.add(s, 0, ten(4)), -1001);
        CHECKS.same("names after a refusal", s.names(), 40);
        CHECKS.same("no letter of a refused name", s.letter(40, 0), -1);
        CHECKS.same("refused again", s.add(1), -1001);
        CHECKS.same("no class file", s.file(4, 0), -1);
        CHECKS.same("eight more", Checks.add(s, 4, new ClassMaker("1").using("2", "3", "4", "5", "6", "7", "8")), 4);
        CHECKS.same("48 names", s.names(), 48);
        CHECKS.same("the last name", s.letter(47, 0), '8');
        CHECKS.same("it is used", s.uses(4, false), 254L << 40);
        CHECKS.same("old names alone", Checks.add(s, 0, new ClassMaker("8").using("t/0", "u3/9", "1")), 5);
        CHECKS.same("one more as THIS", Checks.add(s, 0, new ClassMaker("9")), -1001);
        CHECKS.same("one more in a field", Checks.add(s, 0, new ClassMaker("7").field(0, "L9;")), -1001);
        CHECKS.same("one more in a method", Checks.add(s, 0, new ClassMaker("7").method(0, "(L9;)V")), -1001);
        CHECKS.same("one more in a pair", Checks.add(s, 0, new ClassMaker("7").pair("x", "[L9;")), -1001);
        CHECKS.same("one more in an array type", Checks.add(s, 0, new ClassMaker("7").using("[[L9;")), -1001);
        CHECKS.same("names stay 48", s.names(), 48);
        CHECKS.same("texts are no names", Checks.add(s, 0, new ClassMaker("7").pair("L9;", "I")), 6);
        CHECKS.same("the layer of the last", s.layer(47), 2);
    }

    /** "NONE ...; else -2 - k ...; else -1000 ...; else -1001". */
    private static void refusalsComeInOrder() {
        ModuleScanner s = new ModuleScanner();
        for (int n = 0; n < 4; n++) {
            Checks.add(s, n, ten(n));
        }
        ClassMaker twice = ten(4).self("t/0");
        CHECKS.same("the jar's name before the names", Checks.add(s, 0, twice), -1000);
        CHECKS.same("in another jar the names", s.add(1), -1001);
        s.put(1, 0);
        CHECKS.same("the fault before both", s.add(0), -2 - twice.bytes().length);
    }

    /** "All class files of a jar go", "those behind one that goes move up". */
    private static void dropMovesTheOthersUp() {
        ModuleScanner s = new ModuleScanner();
        int[] jars = {0, 1, 0, 2, 1, 0};
        for (int n = 0; n < jars.length; n++) {
            Checks.add(s, jars[n], new ClassMaker(letterName(n)).flags(n));
        }
        CHECKS.same("drop of jar -1", s.drop(-1), -1);
        CHECKS.same("drop of jar 5", s.drop(5), -1);
        CHECKS.same("drop of the least int", s.drop(Integer.MIN_VALUE), -1);
        CHECKS.same("nothing changed", s.file(5, 3), 5);
        CHECKS.same("drop of an empty jar", s.drop(4), 0);
        CHECKS.same("drop of jar 0", s.drop(0), 3);
        int[] left = {1, 3, 4};
        for (int c = 0; c < left.length; c++) {
            CHECKS.same("flags of what is left", s.file(c, 3), left[c]);
            CHECKS.same("name of what is left", s.file(c, 1), left[c]);
            CHECKS.same("provider of what is left", s.provider(left[c]), c);
        }
        CHECKS.same("no fourth", s.file(3, 3), -1);
        CHECKS.same("not found any more", s.provider(0), -1);
        CHECKS.same("names stay", s.names(), 6);
        CHECKS.same("drop again", s.drop(0), 0);
        CHECKS.same("the next one", Checks.add(s, 0, new ClassMaker(letterName(0)).flags(9)), 3);
        CHECKS.same("its flags", s.file(3, 3), 9);
        CHECKS.same("the others keep theirs", s.file(2, 3), 4);
        CHECKS.same("drop of jar 1", s.drop(1), 2);
        CHECKS.same("drop of jar 2", s.drop(2), 1);
        CHECKS.same("drop of the last", s.drop(0), 1);
        CHECKS.same("none left", s.file(0, 0), -1);
    }

    /** "that of THIS; those of the classes in the pool ...; ... of pairs ...; of the fields, then of the methods". */
    private static void namesComeInTheOrderOfTheirMeeting() {
        ModuleScanner s = new ModuleScanner();
        ClassMaker maker = new ClassMaker().method(0, "(Lm/2;[Lm/1;)Lm/3;").field(0, "[[Lf/1;").field(0, "Lf/0;");
        maker.pair("q", "(Lp/2;I)Lp/1;").pair("q", "Lp/0;").wide(5).using("c/1", "[[Lc/0;", "[I", "c/3").self("t/T");
        maker.parent("c/4").implementing("c/2");
        CHECKS.same("added", Checks.add(s, 0, maker), 0);
        CHECKS.names("their order", s, "t/T c/1 c/0 c/3 c/4 c/2 p/2 p/1 p/0 f/1 f/0 m/2 m/1 m/3");
        Checks.add(s, 1, new ClassMaker("c/9").using("m/1", "t/T").parent("c/8").field(0, "I"));
        CHECKS.same("two more", s.names(), 16);
        CHECKS.same("that of THIS first", s.file(1, 1), 14);
        CHECKS.same("then that of SUPER", s.file(1, 2), 15);
    }

    /** "names stay". */
    private static void namesStay() {
        ModuleScanner s = new ModuleScanner();
        Checks.add(s, 0, new ClassMaker("A").using("B"));
        s.drop(0);
        CHECKS.names("after the drop", s, "A B");
        Checks.add(s, 0, new ClassMaker("C").using("B", "A"));
        CHECKS.names("after the next", s, "A B C");
        CHECKS.same("its name", s.file(0, 1), 2);
        CHECKS.same("what it uses", s.uses(0, false), Checks.set(0, 1));
    }

    /** "of several that in the jar with the least number". */
    private static void providers() {
        ModuleScanner s = new ModuleScanner();
        Checks.add(s, 3, new ClassMaker("A").using("B"));
        CHECKS.same("found", s.provider(0), 0);
        CHECKS.same("not found", s.provider(1), -1);
        Checks.add(s, 4, new ClassMaker("A"));
        CHECKS.same("a greater jar", s.provider(0), 0);
        Checks.add(s, 1, new ClassMaker("A"));
        CHECKS.same("a lesser jar", s.provider(0), 2);
        Checks.add(s, 2, new ClassMaker("A"));
        CHECKS.same("one between", s.provider(0), 2);
        s.drop(1);
        CHECKS.same("the next one, moved up", s.provider(0), 2);
        s.drop(2);
        CHECKS.same("the first again", s.provider(0), 0);
        s.drop(3);
        CHECKS.same("the last one", s.provider(0), 0);
        CHECKS.same("in its jar", s.file(s.provider(0), 0), 4);
        s.drop(4);
        CHECKS.same("none", s.provider(0), -1);
        for (int name : new int[] {-1, 2, 47, 48, 64, Integer.MAX_VALUE, Integer.MIN_VALUE}) {
            CHECKS.same("provider of no name " + name, s.provider(name), -1);
        }
    }

    /** "0 its jar, 1 its name, 2 the name of SUPER (NONE for 0), 3 its flags, 4 how many interfaces, ..." */
    private static void filesTellTheirParts() {
        ModuleScanner s = new ModuleScanner();
        Checks.add(s, 2, new ClassMaker("A").flags(0xFFFF).parent("P").implementing("I").implementing("I").implementing("K")
                .field(0, "I").method(1, "()V").method(1, "()V"));
        Checks.add(s, 0, new ClassMaker("P").flags(0));
        Checks.add(s, 1, new ClassMaker("Q").parent("Q"));
        int[][] due = {{2, 0, 1, 0xFFFF, 3, 1, 2}, {0, 1, -1, 0, 0, 0, 0}, {1, 4, 4, 1, 0, 0, 0}};
        for (int c = 0; c < due.length; c++) {
            for (int which = 0; which < 7; which++) {
                CHECKS.same("file(" + c + ", " + which + ")", s.file(c, which), due[c][which]);
            }
            CHECKS.same("which -1", s.file(c, -1), -1);
            CHECKS.same("which 7", s.file(c, 7), -1);
            CHECKS.same("the greatest which", s.file(c, Integer.MAX_VALUE), -1);
            CHECKS.same("the least which", s.file(c, Integer.MIN_VALUE), -1);
        }
        for (int c : new int[] {-1, 3, 15, 16, 17, Integer.MAX_VALUE, Integer.MIN_VALUE}) {
            CHECKS.same("no class file " + c, s.file(c, 0), -1);
        }
    }
}
