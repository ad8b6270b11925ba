import java.util.regex.Pattern;

/** "Terms", what texts can be: class names, types, array types and method types. */
public final class TextsTest {
    private static final Checks CHECKS = new Checks("TextsTest");
    private static final String LETTERS = "abcdefghijklmnopqrstuvwxyzABCDEFGHIJKLMNOPQRSTUVWXYZ0123456789_$";

    public static void main(String[] args) {
        classNamesHave1To16Characters();
        longPartsAndManyParts();
        charactersOfClassNames();
        partsHaveOneOrMoreLetters();
        typesOfOneLetter();
        typesWithAClassName();
        typesBehindBrackets();
        methodTypesOfNoTypes();
        methodTypesOfAnyNumberOfTypes();
        whatAMethodTypeAnswers();
        textsEndWhereTheyEnd();
        allShortTexts();
        theNamesThatTypesHave();
        CHECKS.end();
    }

    private static int fault(ByteRow row) {
        int answer = Checks.add(new ModuleScanner(), 0, row.bytes());
        return answer >= 0 ? -1 : -2 - answer;
    }

    /** Puts the text wherever one of its shapes is asked for. */
    private static void shape(String text, boolean isClassName, boolean isType, boolean isMethodType) {
        boolean isArrayType = isType && text.startsWith("[");
        ByteRow row = ByteRow.head(5).text("A").u1(7).u2(1).text(text).u1(7).mark("use").u2(3).tail(2);
        CHECKS.same(text + " as a class", fault(row), isClassName || isArrayType ? -1 : row.place("use"));
        row = ByteRow.head(4).text("A").text(text).u1(7).mark("use").u2(2).tail(3);
        int place = isClassName ? -1 : row.place(isArrayType ? "this" : "use");
        CHECKS.same(text + " as THIS", fault(row), place);
        row = ByteRow.head(5).text("A").u1(7).u2(1).text(text).u1(12).u2(1).mark("use").u2(3).tail(2);
        CHECKS.same(text + " in a pair", fault(row), isType || isMethodType ? -1 : row.place("use"));
        row = ByteRow.head(4).text("A").u1(7).u2(1).text(text).u2(0).u2(2).u2(0).u2(0);
        row.u2(1).u2(0).u2(3).mark("use").u2(3).u2(0).u2(0).u2(0);
        CHECKS.same(text + " of a field", fault(row), isType ? -1 : row.place("use"));
        row = ByteRow.head(4).text("A").u1(7).u2(1).text(text).u2(0).u2(2).u2(0).u2(0).u2(0);
        row.u2(1).u2(0).u2(3).mark("use").u2(3).u2(0).u2(0);
        CHECKS.same(text + " of a method", fault(row), isMethodType ? -1 : row.place("use"));
    }

    /** The text as a class name, and wherever a class name stands in another text. */
    private static void className(String text, boolean right) {
        shape(text, right, false, false);
        inTypes(text, right);
    }

    private static void inTypes(String text, boolean right) {
        shape("L" + text + ";", false, right, false);
        shape("[L" + text + ";", false, right, false);
        shape("(L" + text + ";)V", false, false, right);
        shape("(I[L" + text + ";I)I", false, false, right);
        shape("()L" + text + ";", false, false, right);
        shape("()[[L" + text + ";", false, false, right);
    }

    private static void type(String text) {
        shape(text, false, true, false);
    }

    private static void methodType(String text) {
        shape(text, false, false, true);
    }

    private static void nothing(String... texts) {
        for (String text : texts) {
            shape(text, false, false, false);
        }
    }

    /** "A CLASS NAME has 1 to 16 characters". */
    private static void classNamesHave1To16Characters() {
        for (int length = 0; length <= 40; length++) {
            className("x".repeat(length), length >= 1 && length <= 16);
        }
        className("", false);
        className("x", true);
        className("abcdefghijklmnop", true);
        className("abcdefghijklmnopq", false);
    }

    /** The characters between parts count among the 16. */
    private static void longPartsAndManyParts() {
        for (int first = 1; first <= 16; first++) {
            for (int second = 1; second <= 16; second++) {
                className("a".repeat(first) + "/" + "B".repeat(second), first + 1 + second <= 16);
            }
        }
        className("a/b/c/d/e/f/g/h", true);
        className("a/b/c/d/e/f/g/hi", true);
        className("a/b/c/d/e/f/g/h/i", false);
    }

    /** "letters a .. z, A .. Z, figures, _ and $". */
    private static void charactersOfClassNames() {
        for (char c = 1; c < 128; c++) {
            boolean letter = LETTERS.indexOf(c) >= 0;
            if ("BCDFIJSZ".indexOf(c) < 0) {
                shape("" + c, letter, false, false);
            }
            shape("x" + c, letter, false, false);
            shape(c + "x", letter, false, false);
            shape("x" + c + "y", letter || c == '/', false, false);
            shape("Lx" + c + "y;", false, letter || c == '/', false);
            shape("L" + c + "y;", false, letter, false);
            shape("Lx" + c + ";", false, letter, false);
        }
    }

    /** "parts of one or more letters ..., with a / between two". */
    private static void partsHaveOneOrMoreLetters() {
        for (String text : new String[] {"a/b", "a/b/c", "9/9", "_/$", "ab/cd/ef"}) {
            className(text, true);
        }
        for (String text : new String[] {"/", "//", "/a", "a/", "a//b", "a/b/", "/a/b", "a///b", "a/b//", "a/b//c"}) {
            className(text, false);
        }
    }

    /** "A TYPE is one of the letters B C D F I J S Z". */
    private static void typesOfOneLetter() {
        for (char c = 1; c < 128; c++) {
            boolean type = "BCDFIJSZ".indexOf(c) >= 0;
            boolean letter = LETTERS.indexOf(c) >= 0;
            shape("" + c, letter, type, false);
            shape("[" + c, false, type, false);
            shape("[[" + c, false, type, false);
            shape("" + c + c, letter, false, false);
            shape("I" + c, letter, false, false);
        }
    }

    /** "or L, a class name, and ;". */
    private static void typesWithAClassName() {
        inTypes("a", true);
        inTypes("L", true);
        inTypes("V", true);
        inTypes("LL", true);
        nothing("L;", "LA;;", "LA;I", "ILA;", "LLA;;", "L[A;", "L[I;", "LA;LB;", ";", "A;", "l;", "KA;", "MA;", "LA:", "LA<");
        // Without an end these are class names alone.
        shape("L", true, false, false);
        shape("LA", true, false, false);
        shape("La/b", true, false, false);
    }

    /** "or [ and a type. An ARRAY TYPE is a type that begins with [." */
    private static void typesBehindBrackets() {
        for (String text : new String[] {"I", "LA;", "La/b;"}) {
            for (int depth = 1; depth <= 6; depth++) {
                type("[".repeat(depth) + text);
            }
        }
        nothing("[", "[[", "[[[", "[V", "[[V", "[A", "[a/b", "[LA", "[L;", "[L", "[II", "[I[", "[I]", "[LA;I", "[LA;;", "[(I)V",
                "[()V", "]I", "I[", "I[I", "A[", "[I[I", "[[I[");
        deepestArrayType();
    }

    /** As deep as 400 bytes allow. */
    private static void deepestArrayType() {
        ByteRow row = ByteRow.head(5).text("A").u1(7).u2(1).text("[".repeat(362) + "I").u1(7).u2(3).tail(2);
        CHECKS.same("the longest row", row.size(), 400);
        CHECKS.same("the deepest array type", fault(row), -1);
        row = ByteRow.head(5).text("A").u1(7).u2(1).text("[".repeat(363)).u1(7).mark("use").u2(3).tail(2);
        CHECKS.same("the deepest array of nothing", fault(row), row.place("use"));
        row = ByteRow.head(5).text("A").u1(7).u2(1).text("[".repeat(359) + "LB;").u1(7).u2(3).tail(2);
        ModuleScanner s = new ModuleScanner();
        CHECKS.same("a deep array of B", Checks.add(s, 0, row.bytes()), 0);
        CHECKS.names("the class name in it", s, "A B");
    }

    /** "A METHOD TYPE is ( and any number of types, ) and a type or V": none. */
    private static void methodTypesOfNoTypes() {
        for (String answer : new String[] {"V", "I", "[I", "LA;", "[[La/b;"}) {
            methodType("()" + answer);
        }
        nothing("()", "(", ")", "(V", ")V", "(()V", "())V", "()VV", "()(V", ")(V", "()V)", " ()V", "() V", "()V ", "( )V");
        // These have characters of class names alone, or are types.
        shape("V", true, false, false);
        shape("I", true, true, false);
        nothing("V()", "I()V", "[()V");
    }

    /** "any number of types": one, two, and as many as 400 bytes allow. */
    private static void methodTypesOfAnyNumberOfTypes() {
        for (char c = 1; c < 128; c++) {
            boolean type = "BCDFIJSZ".indexOf(c) >= 0;
            shape("(" + c + ")V", false, false, type);
            shape("(" + c + "I)V", false, false, type || c == '[');
            shape("(I" + c + ")V", false, false, type);
            shape("(LA;" + c + "[I)V", false, false, type || c == '[');
        }
        for (int many = 1; many <= 20; many++) {
            methodType("(" + "I".repeat(many) + ")V");
            methodType("(" + "[LA;".repeat(many) + ")[I");
            nothing("(" + "I".repeat(many) + "V)V", "(" + "I".repeat(many) + "[)V", "(" + "LA;".repeat(many) + "LA)V",
                    "(" + "I".repeat(many) + "V", "(" + "I".repeat(many), "I".repeat(many) + ")V");
        }
        ByteRow row = ByteRow.head(5).text("A").u1(7).u2(1).text("(" + "I".repeat(358) + ")V").u1(12).u2(1).u2(3).tail(2);
        CHECKS.same("the longest row", row.size(), 400);
        CHECKS.same("the longest method type", fault(row), -1);
        nothing("(L;)V", "(LA)V", "(LA;", "(LA;V", "([)V", "([V)V", "((I)V)V", "(A)V", "(a/b)V", "(I;)V", "(LA;;)V", "(I,I)V");
    }

    /** ") and a type or V". */
    private static void whatAMethodTypeAnswers() {
        for (char c = 1; c < 128; c++) {
            boolean type = "BCDFIJSZ".indexOf(c) >= 0;
            shape("()" + c, false, false, type || c == 'V');
            shape("(I)" + c, false, false, type || c == 'V');
            shape("()[" + c, false, false, type);
            shape("()I" + c, false, false, false);
            shape("()V" + c, false, false, false);
            shape("()LA" + c, false, false, c == ';');
        }
        nothing("(I)", "(I)[", "(I)[V", "(I)II", "(I)LA", "(I)L;", "(I)LA;;", "(I)LA;V", "(I)a/b", "(I)()V", "(I)v");
    }

    /** The byte behind the last text is the high one of the flags, which may look like a part of it. */
    private static void textsEndWhereTheyEnd() {
        for (String text : new String[] {"[", "[[", "LA", "[LA", "(I", "(", "()", "(LA", "()LA", "()[", "(I)", "(I)["}) {
            for (char next : new char[] {'I', ';', ')', 'V', '['}) {
                ByteRow row = ByteRow.head(5).text("A").u1(7).u2(1).u1(12).u2(1).mark("use").u2(4).text(text);
                row.u2(next << 8 | 'V').u2(2).u2(0).u2(0).u2(0).u2(0).u2(0);
                CHECKS.same(text + " before " + next, fault(row), row.place("use"));
            }
        }
    }

    /** All texts of up to four of the characters that mean something, against the same rules as patterns. */
    private static void allShortTexts() {
        String part = "[a-zA-Z0-9_$]+";
        String name = part + "(/" + part + ")*";
        String type = "\\[*([BCDFIJSZ]|L" + name + ";)";
        Pattern names = Pattern.compile(name);
        Pattern types = Pattern.compile(type);
        Pattern methods = Pattern.compile("\\((" + type + ")*\\)(V|" + type + ")");
        String characters = "()[LI;/V";
        for (int length = 0; length <= 4; length++) {
            for (int n = 0; n < 1 << 3 * length; n++) {
                StringBuilder text = new StringBuilder();
                for (int i = 0; i < length; i++) {
                    text.append(characters.charAt(n >> 3 * i & 7));
                }
                shape(text.toString(), names.matcher(text).matches(), types.matcher(text).matches(),
                        methods.matcher(text).matches());
            }
        }
    }

    /** "A type HAS the class name that stands in it, if there is one; a method type those of all its types." */
    private static void theNamesThatTypesHave() {
        String[][] due = {
            {"I", ""}, {"[[J", ""}, {"La;", " a"}, {"[[La/b;", " a/b"}, {"LL;", " L"}, {"LLL;", " LL"}, {"LaLb;", " aLb"},
            {"LI;", " I"}, {"LV;", " V"}, {"Labcdefgh/klmnopq;", " abcdefgh/klmnopq"}};
        for (String[] each : due) {
            ModuleScanner s = new ModuleScanner();
            Checks.add(s, 0, new ClassMaker("A").field(0, each[0]));
            CHECKS.names("of the type " + each[0], s, "A" + each[1]);
        }
        String[][] methods = {
            {"()V", ""}, {"(IJ[[Z)[B", ""}, {"(La;)V", " a"}, {"()La;", " a"}, {"(La;Lb;[Lc;)[[Ld;", " a b c d"},
            {"(ILLI;JLL;)LLL;", " LI L LL"}, {"(Lb;La;Lb;)La;", " b a"}, {"(LV;I)LI;", " V I"}};
        for (String[] each : methods) {
            ModuleScanner s = new ModuleScanner();
            Checks.add(s, 0, new ClassMaker("A").method(0, each[0]));
            CHECKS.names("of the method type " + each[0], s, "A" + each[1]);
        }
    }
}
