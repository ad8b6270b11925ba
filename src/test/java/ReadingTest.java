import java.util.Arrays;

/** Promise 4, what is refused: where a class file is wrong. */
public final class ReadingTest {
    private static final Checks CHECKS = new Checks("ReadingTest");

    public static void main(String[] args) {
        everyItemMayBeCutOff();
        theHead();
        theKinds();
        theTexts();
        thePoolIsCheckedAgain();
        theOrderOfTheChecks();
        theClasses();
        theMembers();
        theAttributes();
        nothingIsLeft();
        classNames();
        types();
        methodTypes();
        textsEndWhereTheyEnd();
        CHECKS.end();
    }

    private static int fault(byte[] bytes) {
        int answer = Checks.add(new ModuleScanner(), 0, bytes);
        return answer >= 0 ? -1 : -2 - answer;
    }

    private static void wrongAt(String what, byte[] bytes, int place) {
        CHECKS.same(what + ": wrong at", fault(bytes), place);
    }

    private static void right(String what, byte[] bytes) {
        wrongAt(what, bytes, -1);
    }

    /** A class file with an entry of each kind and all that may stand behind the pool. */
    private static ByteRow whole() {
        ByteRow row = new ByteRow();
        row.mark("magic").u4(3405691582L).mark("minor").u2(3).mark("major").u2(52).mark("c").u2(20);
        row.mark("e1").text("a/B");
        row.mark("e2").u1(7).mark("e2a").u2(1);
        row.mark("e3").text("[La/B;");
        row.mark("e4").u1(7).mark("e4a").u2(3);
        row.mark("e5").u1(5).mark("e5a").u4(-1).mark("e5b").u4(-1);
        row.mark("e7").u1(3).mark("e7a").u4(-1);
        row.mark("e8").u1(4).mark("e8a").u4(-1);
        row.mark("e9").u1(6).mark("e9a").u4(-1).mark("e9b").u4(-1);
        row.mark("e11").u1(8).mark("e11a").u2(12);
        row.mark("e12").u1(1).mark("e12length").u2(0);
        row.mark("e13").text("I");
        row.mark("e14").text("(ILa/B;)V");
        row.mark("e15").u1(12).mark("e15a").u2(13).mark("e15b").u2(14);
        row.mark("e16").u1(9).mark("e16a").u2(2).mark("e16b").u2(15);
        row.mark("e17").u1(10).mark("e17a").u2(4).mark("e17b").u2(15);
        row.mark("e18").u1(11).mark("e18a").u2(2).mark("e18b").u2(19);
        row.mark("e19").u1(12).mark("e19a").u2(14).mark("e19b").u2(13);
        row.mark("flags").u2(0xFFFF).mark("this").u2(2).mark("super").u2(2);
        row.mark("interfaces").u2(2).mark("i0").u2(2).mark("i1").u2(2);
        row.mark("fields").u2(2);
        row.mark("f0flags").u2(1).mark("f0name").u2(12).mark("f0type").u2(13).mark("f0attributes").u2(0);
        row.mark("f1flags").u2(1).mark("f1name").u2(1).mark("f1type").u2(3).mark("f1attributes").u2(2);
        row.mark("f1x0").u2(12).mark("f1n0").u4(3).mark("f1b0").u1(255).u1(0).u1(7);
        row.mark("f1x1").u2(1).mark("f1n1").u4(0);
        row.mark("methods").u2(1);
        row.mark("m0flags").u2(1).mark("m0name").u2(12).mark("m0type").u2(14).mark("m0attributes").u2(0);
        row.mark("attributes").u2(1).mark("x0").u2(13).mark("n0").u4(2).mark("b0").u1(0).u1(0);
        return row.mark("end");
    }

    /** Cut off anywhere, it is wrong at the item that is cut, be it in its first byte or later. */
    private static void everyItemMayBeCutOff() {
        ByteRow row = whole();
        byte[] bytes = row.bytes();
        right("the whole", bytes);
        int[] starts = new int[bytes.length];
        fillStarts(starts, row, 4, "magic", "e5a", "e5b", "e7a", "e8a", "e9a", "e9b", "f1n0", "f1n1", "n0");
        fillStarts(starts, row, 2, "minor", "major", "c", "e2a", "e4a", "e11a", "e12length", "e15a", "e15b",
                "e16a", "e16b", "e17a", "e17b", "e18a", "e18b", "e19a", "e19b", "flags", "this", "super",
                "interfaces", "i0", "i1", "fields", "f0flags", "f0name", "f0type", "f0attributes", "f1flags",
                "f1name", "f1type", "f1attributes", "f1x0", "f1x1", "methods", "m0flags", "m0name", "m0type",
                "m0attributes", "attributes", "x0");
        for (String text : new String[] {"e1", "e3", "e13", "e14"}) {
            starts[row.place(text) + 2] = -1;
        }
        int lastPool = row.place("flags");
        for (int length = 0; length < bytes.length; length++) {
            int start = length + starts[length];
            // Bytes of an attribute that are cut off make its n too great.
            if (length >= row.place("f1b0") && length < row.place("f1x1") && length < row.place("f1b0") + 3) {
                start = row.place("f1n0");
            }
            if (length >= row.place("b0")) {
                start = row.place("n0");
            }
            wrongAt("cut to " + length + (length < lastPool ? " in the pool" : ""), Arrays.copyOf(bytes, length), start);
        }
    }

    private static void fillStarts(int[] starts, ByteRow row, int size, String... labels) {
        for (String label : labels) {
            for (int i = 1; i < size; i++) {
                starts[row.place(label) + i] = -i;
            }
        }
    }

    private static void each(ByteRow row, String label, int size, long[] wrong, long[] right) {
        for (long value : wrong) {
            wrongAt(label + " " + value, row.with(label, size, value), row.place(label));
        }
        for (long value : right) {
            right(label + " " + value, row.with(label, size, value));
        }
    }

    private static long[] of(long... values) {
        return values;
    }

    private static void theHead() {
        ByteRow row = whole();
        each(row, "magic", 4, of(0, 3405691581L, 3405691583L, 0x4AFEBABEL, 0xCAFEBABFL), of(3405691582L));
        each(row, "minor", 2, of(), of(0, 1, 65535));
        each(row, "major", 2, of(0, 44, 66, 65535, 45 << 8, 256 + 52), of(45, 46, 64, 65));
        each(row, "c", 2, of(0, 65, 66, 65535, 1 << 8), of(20));
        // A pool that is too short or too long is wrong further on.
        wrongAt("c 1", row.with("c", 2, 1), row.place("e1") + 2);
        ByteRow most = new ByteRow().u4(3405691582L).u2(0).u2(65).u2(64).text("A").u1(7).u2(1);
        for (int entry = 3; entry < 64; entry++) {
            most.u1(3).u4(0);
        }
        right("63 entries", most.u2(0).u2(2).u2(0).u2(0).u2(0).u2(0).u2(0).bytes());
        ByteRow least = new ByteRow().u4(3405691582L).u2(0).u2(45).u2(1).u2(0).u2(1).u2(0).u2(0).u2(0).u2(0).u2(0);
        wrongAt("no entries", least.bytes(), 12);
    }

    private static void theKinds() {
        ByteRow row = whole();
        each(row, "e1", 1, of(0, 2, 13, 14, 15, 16, 17, 18, 19, 20, 127, 128, 129, 133, 255), of(1));
        each(row, "e7", 1, of(0, 2, 13, 18, 255), of(3, 4));
        each(row, "e5", 1, of(2, 13), of(5, 6));
        each(row, "e16", 1, of(0, 13), of(9, 10, 11));
        for (int kind = 5; kind <= 6; kind++) {
            ByteRow last = new ByteRow().u4(3405691582L).u2(0).u2(45).u2(4).text("A").u1(7).u2(1);
            last.mark("wide").u1(kind).u4(0).u4(0).u2(0).u2(2).u2(0).u2(0).u2(0).u2(0).u2(0);
            wrongAt("a wide entry without a second number", last.bytes(), last.place("wide"));
            byte[] longer = last.bytes();
            longer[9] = 5;
            right("a wide entry at the end", longer);
            wrongAt("its kind is wrong before its items", Arrays.copyOf(last.bytes(), last.place("wide") + 1), last.place("wide"));
        }
    }

    private static void theTexts() {
        ByteRow row = whole();
        int first = row.place("e13") + 3;
        for (int value : new int[] {0, 128, 255}) {
            byte[] bytes = row.bytes();
            bytes[first] = (byte) value;
            wrongAt("character " + value, bytes, first);
        }
        for (int value : new int[] {1, 32, 127}) {
            ByteRow free = new ByteRow().u4(3405691582L).u2(0).u2(45).u2(4).text("A").u1(7).u2(1);
            free.text("x" + (char) value).u2(0).u2(2).u2(0).u2(0).u2(0).u2(0).u2(0);
            right("character " + value, free.bytes());
        }
        // The length of a text is any number: what is missing is its bytes.
        ByteRow longText = new ByteRow().u4(3405691582L).u2(0).u2(45).u2(2).u1(1).u2(65535).u1('A').u1('B');
        wrongAt("a text beyond the end", longText.bytes(), longText.size());
        wrongAt("a text with a wrong byte before the end", longText.u1(0).u1('C').bytes(), longText.size() - 2);
    }

    private static void thePoolIsCheckedAgain() {
        ByteRow row = whole();
        each(row, "e2a", 2, of(0, 2, 6, 12, 13 + 256, 14, 20, 65535), of());
        each(row, "e4a", 2, of(0, 4, 5, 6, 7, 12, 14, 20, 65535), of(1, 3, 13));
        each(row, "e11a", 2, of(0, 2, 6, 10, 15, 20, 65535), of(1, 3, 12, 13, 14));
        for (String kind : new String[] {"e16", "e17", "e18"}) {
            each(row, kind + "a", 2, of(0, 1, 5, 6, 11, 15, 16, 20, 65535), of(2, 4));
            each(row, kind + "b", 2, of(0, 1, 2, 6, 16, 17, 20, 65535), of(15, 19));
        }
        each(row, "e15a", 2, of(0, 2, 6, 12, 15, 20, 65535), of(1, 3, 13, 14));
        each(row, "e15b", 2, of(0, 1, 2, 6, 12, 15, 20, 65535), of(3, 13, 14));
    }

    private static void theOrderOfTheChecks() {
        ByteRow row = whole();
        // A wrong kind further on comes before a wrong number that is checked again.
        byte[] bytes = row.with("e2a", 2, 0);
        bytes[row.place("e19")] = 2;
        wrongAt("kinds before numbers", bytes, row.place("e19"));
        bytes = row.with("e2a", 2, 0);
        wrongAt("too few bytes in the pool before numbers", Arrays.copyOf(bytes, row.place("flags") - 1), row.place("e19b"));
        wrongAt("numbers before too few bytes behind the pool", Arrays.copyOf(bytes, row.place("flags")), row.place("e2a"));
        bytes = row.with("e19b", 2, 0);
        bytes[row.place("this") + 1] = 0;
        wrongAt("numbers before THIS", bytes, row.place("e19b"));
        bytes = row.with("e15b", 2, 0);
        bytes[row.place("e15a") + 1] = 0;
        wrongAt("the first number before the second", bytes, row.place("e15a"));
        bytes = row.with("e17b", 2, 0);
        bytes[row.place("e19a") + 1] = 0;
        wrongAt("entry by entry", bytes, row.place("e17b"));
        bytes = row.with("e16b", 2, 13);
        bytes[row.place("e4a") + 1] = 0;
        wrongAt("entry by entry from the first", bytes, row.place("e4a"));
        bytes = row.with("magic", 4, 0);
        wrongAt("the head first of all", Arrays.copyOf(bytes, 7), 0);
        wrongAt("too few bytes for the head", Arrays.copyOf(bytes, 3), 0);
    }

    private static void theClasses() {
        ByteRow row = whole();
        each(row, "flags", 2, of(), of(0, 1, 32, 65535));
        each(row, "this", 2, of(0, 1, 4, 5, 6, 15, 20, 65535), of(2));
        each(row, "super", 2, of(1, 4, 5, 6, 15, 20, 65535), of(0, 2));
        each(row, "i0", 2, of(0, 1, 4, 6, 20, 65535), of(2));
        each(row, "i1", 2, of(0, 1, 4, 6, 20, 65535), of(2));
        ByteRow many = new ByteRow().u4(3405691582L).u2(0).u2(45).u2(3).text("A").u1(7).u2(1);
        many.u2(0).u2(2).u2(0).u2(180);
        for (int i = 0; i < 180; i++) {
            many.u2(2);
        }
        ModuleScanner s = new ModuleScanner();
        CHECKS.same("180 interfaces", Checks.add(s, 0, many.u2(0).u2(0).u2(0).bytes()), 0);
        CHECKS.same("how many interfaces", s.file(0, 4), 180);
        ByteRow tooMany = new ByteRow().u4(3405691582L).u2(0).u2(45).u2(3).text("A").u1(7).u2(1);
        tooMany.u2(0).u2(2).u2(0).u2(65535).u2(2).u2(2);
        wrongAt("65535 interfaces", tooMany.bytes(), tooMany.size());
    }

    private static void theMembers() {
        ByteRow row = whole();
        each(row, "f0flags", 2, of(), of(0, 4, 65535));
        each(row, "f0name", 2, of(0, 2, 6, 15, 20, 65535), of(1, 3, 12, 13, 14));
        each(row, "f0type", 2, of(0, 1, 2, 6, 12, 14, 15, 20, 65535), of(3, 13));
        each(row, "f1type", 2, of(0, 1, 14), of(3, 13));
        each(row, "m0flags", 2, of(), of(0, 4, 65535));
        each(row, "m0name", 2, of(0, 2, 6, 15, 20, 65535), of(1, 3, 12, 13, 14));
        each(row, "m0type", 2, of(0, 1, 2, 3, 6, 12, 13, 20, 65535), of(14));
        ByteRow many = new ByteRow().u4(3405691582L).u2(0).u2(45).u2(4).text("I").u1(7).u2(1).text("()V");
        many.u2(0).u2(2).u2(0).u2(0).u2(30);
        for (int i = 0; i < 30; i++) {
            many.u2(0).u2(1).u2(1).u2(0);
        }
        many.u2(13);
        for (int i = 0; i < 13; i++) {
            many.u2(0).u2(1).u2(3).u2(0);
        }
        ModuleScanner s = new ModuleScanner();
        CHECKS.same("43 members", Checks.add(s, 0, many.u2(0).bytes()), 0);
        CHECKS.same("how many fields", s.file(0, 5), 30);
        CHECKS.same("how many methods", s.file(0, 6), 13);
        asManyFieldsAsFit();
        ByteRow tooMany = new ByteRow().u4(3405691582L).u2(0).u2(45).u2(3).text("I").u1(7).u2(1);
        tooMany.u2(0).u2(2).u2(0).u2(0).u2(65535).u2(0).u2(1).u2(1).u2(0);
        wrongAt("65535 fields", tooMany.bytes(), tooMany.size());
    }

    private static void asManyFieldsAsFit() {
        ByteRow row = new ByteRow().u4(3405691582L).u2(0).u2(45).u2(3).text("I").u1(7).u2(1);
        row.u2(0).u2(2).u2(0).u2(0).u2(46);
        for (int i = 0; i < 46; i++) {
            row.u2(0).u2(1).u2(1).u2(0);
        }
        ModuleScanner s = new ModuleScanner();
        CHECKS.same("46 fields", Checks.add(s, 0, row.u2(0).u2(0).bytes()), 0);
        CHECKS.same("how many of them", s.file(0, 5), 46);
        CHECKS.same("and no methods", s.file(0, 6), 0);
    }

    private static void theAttributes() {
        ByteRow row = whole();
        each(row, "f1x0", 2, of(0, 2, 6, 15, 20, 65535), of(1, 3, 12, 13, 14));
        each(row, "x0", 2, of(0, 2, 6, 15, 20, 65535), of(1, 3, 12, 13, 14));
        each(row, "n0", 4, of(3, 4, 256, 65536, 0x7FFFFFFFL, 0x80000000L, 0x80000002L, 0xFFFFFFFEL, 0xFFFFFFFFL), of(2));
        each(row, "f1n0", 4, of(400, 0x80000003L, 0xFFFFFFFFL), of());
        wrongAt("bytes behind a shorter attribute", row.with("n0", 4, 1), row.place("end") - 1);
        wrongAt("bytes behind an empty attribute", row.with("n0", 4, 0), row.place("b0"));
        // The n of the last attribute of a field may take in all that is left, but not one more.
        int left = row.size() - row.place("f1n1") - 4;
        wrongAt("an attribute up to the end", row.with("f1n1", 4, left), row.size());
        wrongAt("an attribute beyond the end", row.with("f1n1", 4, left + 1), row.place("f1n1"));
        wrongAt("an attribute too many", row.with("attributes", 2, 2), row.size());
        wrongAt("65535 attributes", row.with("attributes", 2, 65535), row.size());
        wrongAt("an attribute too few", row.with("attributes", 2, 0), row.place("x0"));
    }

    private static void nothingIsLeft() {
        ByteRow row = whole();
        wrongAt("one byte left", row.u1(0).bytes(), row.place("end"));
        wrongAt("more bytes left", row.u1(255).u4(0).bytes(), row.place("end"));
    }

    private static void shape(String what, String text, boolean isClass, boolean isField, boolean isMethod) {
        ByteRow row = new ByteRow().u4(3405691582L).u2(0).u2(45).u2(5).text("A").u1(7).u2(1).text(text);
        row.u1(7).mark("class").u2(3).u2(0).u2(2).u2(0).u2(0).u2(0).u2(0).u2(0);
        wrongAt(what + " " + text + " as a class", row.bytes(), isClass ? -1 : row.place("class"));
        row = new ByteRow().u4(3405691582L).u2(0).u2(45).u2(5).text("A").u1(7).u2(1).text(text);
        row.u1(12).u2(1).mark("pair").u2(3).u2(0).u2(2).u2(0).u2(0).u2(0).u2(0).u2(0);
        wrongAt(what + " " + text + " in a pair", row.bytes(), isField || isMethod ? -1 : row.place("pair"));
        row = new ByteRow().u4(3405691582L).u2(0).u2(45).u2(4).text("A").u1(7).u2(1).text(text);
        row.u2(0).u2(2).u2(0).u2(0).u2(1).u2(0).u2(3).mark("type").u2(3).u2(0).u2(0).u2(0);
        wrongAt(what + " " + text + " of a field", row.bytes(), isField ? -1 : row.place("type"));
        row = new ByteRow().u4(3405691582L).u2(0).u2(45).u2(4).text("A").u1(7).u2(1).text(text);
        row.u2(0).u2(2).u2(0).u2(0).u2(0).u2(1).u2(0).u2(3).mark("type").u2(3).u2(0).u2(0);
        wrongAt(what + " " + text + " of a method", row.bytes(), isMethod ? -1 : row.place("type"));
    }

    private static void classNames() {
        for (String text : new String[] {"a", "a/b", "a/b/c", "aZ09_$", "0", "_", "$", "azAZ", "9/9", "V", "La",
            "abcdefghijklmnop", "a/b/c/d/e/f/g/hi", "abcdefg/ijklmnop"}) {
            shape("class name", text, true, false, false);
            shape("its type", "L" + text + ";", false, true, false);
            shape("its array type", "[L" + text + ";", true, true, false);
            shape("its method type", "(L" + text + ";)L" + text + ";", false, false, true);
        }
        for (String text : new String[] {"", "/", "/a", "a/", "a//b", "a/b/", "a.b", "a b", "a-b", "a;", "[", "[a", "a[",
            "a`", "a{", "a@", "a^", "a:", "a#", "a%", "abcdefghijklmnopq", "abcdefgh/jklmnopq", "a\u007f", "a\u0001"}) {
            shape("no class name", text, false, false, false);
            shape("no type", "L" + text + ";", false, false, false);
            shape("no array type", "[L" + text + ";", false, false, false);
            shape("no method type", "(L" + text + ";)V", false, false, false);
        }
    }

    private static void types() {
        for (String text : new String[] {"B", "C", "D", "F", "I", "J", "S", "Z"}) {
            shape("type, and class name too", text, true, true, false);
            shape("array type", "[" + text, true, true, false);
            shape("array type", "[[[" + text, true, true, false);
            shape("method type", "(" + text + ")" + text, false, false, true);
        }
        shape("a deep array type", "[".repeat(300) + "I", true, true, false);
        shape("a deep array of nothing", "[".repeat(300), false, false, false);
        for (String text : new String[] {"[", "[[", "[V", "[LA", "LA;I", "[II", "[LA;;", "[(I)V", "I;", "L;", "[L;"}) {
            shape("no type", text, false, false, false);
        }
        // These are class names, but no types.
        for (String text : new String[] {"V", "II", "LA", "L", "A", "E", "b"}) {
            shape("no type", text, true, false, false);
        }
    }

    /** The byte behind the last text is the high one of the flags, which may look like a part of it. */
    private static void textsEndWhereTheyEnd() {
        String[] texts = {"[", "[[", "LA", "[LA", "(I", "(", "()", "(LA", "()LA", "()["};
        for (String text : texts) {
            for (char next : new char[] {'I', ';', ')', 'V', '['}) {
                ByteRow row = new ByteRow().u4(3405691582L).u2(0).u2(45).u2(5).text("A").u1(7).u2(1).u1(12).u2(1);
                row.mark("pair").u2(4).text(text).u2(next << 8 | 'V').u2(2).u2(0).u2(0).u2(0).u2(0).u2(0);
                wrongAt(text + " before " + next, row.bytes(), row.place("pair"));
            }
        }
    }

    private static void methodTypes() {
        for (String text : new String[] {"()V", "()I", "()[I", "(I)V", "(II)V", "(BCDFIJSZ)V", "(LA;)V", "(LA;LB;I[LC;)[LD;",
            "([[I[[LA;)[[Z", "(La/b;)LV;"}) {
            shape("method type", text, false, false, true);
        }
        for (String text : new String[] {"()", "(", ")", ")V", "V()", "(V)V", "(I)VV", "(I)II", "(I", "(I)", "I)V", "(I)[V", "(I)[",
            "([)V", "((I)V", "(I))V", "(A)V", "(LA)V", "(LA;", "()LA", "(L;)V", "()L;", "()VI", " ()V", "() V", "()V ", "()v"}) {
            shape("no method type", text, false, false, false);
        }
    }
}
