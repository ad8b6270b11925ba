import java.util.Arrays;
import java.util.List;

/** "Terms", the items of a class file: the bounds of each, and the place at which it is wrong. */
public final class ItemsTest {
    private static final Checks CHECKS = new Checks("ItemsTest");

    public static void main(String[] args) {
        placesAreCountedFrom0();
        numbersHaveNoSign();
        theHighestByteIsFirst();
        tooFewBytesAreLeft();
        theFirstItemThatIsWrongCounts();
        whatIsCheckedAgainIsSoBehindAllBefore();
        magic();
        minor();
        version();
        howManyEntries();
        kinds();
        lengthsOfTexts();
        charactersOfTexts();
        numbersOfFourBytesAreAny();
        wideEntriesTakeTwoNumbers();
        wideEntriesNeedASecondNumber();
        theSecondNumberIsNoEntry();
        numbersOfEntries();
        flagsAreAny();
        thisAndSuper();
        interfaces();
        fields();
        methods();
        attributes();
        howManyBytesAnAttributeHas();
        noByteIsLeft();
        CHECKS.end();
    }

    private static int fault(byte[] bytes) {
        int answer = Checks.add(new ModuleScanner(), 0, bytes);
        return answer >= 0 ? -1 : -2 - answer;
    }

    private static void wrongAt(String what, byte[] bytes, int place) {
        CHECKS.same(what + ": wrong at", fault(bytes), place);
    }

    private static void right(String what, byte[] bytes) {
        wrongAt(what, bytes, -1);
    }

    private static void each(ByteRow row, String label, int size, long[] wrong, long[] right) {
        for (long value : wrong) {
            wrongAt(label + " " + value, row.with(label, size, value), row.place(label));
        }
        for (long value : right) {
            right(label + " " + value, row.with(label, size, value));
        }
    }

    private static long[] of(long... values) {
        return values;
    }

    private static boolean isIn(int[] row, int value) {
        for (int each : row) {
            if (each == value) {
                return true;
            }
        }
        return false;
    }

    /** Of all numbers, those of no entry too, only these may stand in the item. */
    private static void onlyThese(String what, ByteRow row, String label, int... allowed) {
        for (int value = 0; value < Zoo.C + 70; value++) {
            int place = isIn(allowed, value) ? -1 : row.place(label);
            wrongAt(what + " " + label + " " + value, row.with(label, 2, value), place);
        }
        for (int value : allowed) {
            // Both bytes count, and the first one has no sign.
            wrongAt(what + " " + label + " + 256", row.with(label, 2, value + 256), row.place(label));
            wrongAt(what + " " + label + " + 32768", row.with(label, 2, value + 32768), row.place(label));
        }
        wrongAt(what + " " + label + " 65535", row.with(label, 2, 65535), row.place(label));
    }

    /** "each has as its PLACE that of its first byte, from 0": the least place and the greatest. */
    private static void placesAreCountedFrom0() {
        wrongAt("an empty row", new byte[0], 0);
        wrongAt("a wrong first byte", ByteRow.head(3).with("magic", 4, 0), 0);
        ByteRow row = ByteRow.head(3).text("A").u1(7).u2(1).u2(0).u2(2).u2(0).u2(0).u2(0).u2(0).u2(1).u2(1);
        int left = 400 - row.size() - 4;
        byte[] full = row.body(new int[left]).bytes();
        CHECKS.same("a row of 400 bytes", full.length, 400);
        right("400 bytes", full);
        full[row.size() - left - 1]--;
        wrongAt("one of 400 bytes is left", full, 399);
        full[row.size() - left - 1]++;
        full[row.size() - left - 7]++;
        wrongAt("the second attribute of a row of 400 bytes is missing", full, 400);
    }

    /** "numbers of 1, 2 or 4 bytes, ... without a sign". */
    private static void numbersHaveNoSign() {
        ByteRow row = ByteRow.head(3).text("A").u1(7).u2(1).tail(2);
        for (int flags : new int[] {0, 1, 127, 128, 255, 256, 32767, 32768, 65535}) {
            ModuleScanner s = new ModuleScanner();
            Checks.add(s, 0, row.with("flags", 2, flags));
            CHECKS.same("flags of 2 bytes", s.file(0, 3), flags);
        }
        each(row, "version", 2, of(0xFF34, 0x8034), of());
        each(row, "c", 2, of(0xFF03, 0x8003), of());
        ByteRow zoo = Zoo.whole();
        each(zoo, "e1", 1, of(129, 255), of());
        each(zoo, "n1", 4, of(0x80000000L, 0x80000003L, 0xFFFFFFFDL, 0xFFFFFFFFL), of(3));
        ByteRow many = ByteRow.head(3).text("A").u1(7).u2(1).u2(0).u2(2).u2(0).u2(0xFFFF).u2(2);
        wrongAt("65535 interfaces, not -1", many.bytes(), many.size());
    }

    /** "the highest byte first". */
    private static void theHighestByteIsFirst() {
        ByteRow row = ByteRow.head(3).text("A").u1(7).u2(1).tail(2);
        ModuleScanner s = new ModuleScanner();
        Checks.add(s, 0, row.with("flags", 2, 0x0102));
        CHECKS.same("flags 1, 2", s.file(0, 3), 258);
        each(row, "magic", 4, of(0xBEBAFECAL, 0xFECABEBAL, 0xBABECAFEL), of(0xCAFEBABEL));
        each(row, "version", 2, of(52 << 8), of());
        each(row, "c", 2, of(3 << 8), of());
        each(row, "this", 2, of(2 << 8), of());
        each(Zoo.whole(), "n1", 4, of(3 << 8, 3 << 16, 3 << 24), of());
    }

    /** "the first item ... for which too few bytes are left": cut off in or before any byte of it. */
    private static void tooFewBytesAreLeft() {
        ByteRow row = Zoo.whole();
        right("the whole", row.bytes());
        for (int length = 0; length < row.size(); length++) {
            wrongAt("cut to " + length, row.cut(length), row.cutPlace(length));
        }
    }

    /** "WRONG AT the place of the first item, in the order in which they are told here". */
    private static void theFirstItemThatIsWrongCounts() {
        ByteRow row = Zoo.whole();
        List<Zoo.Fault> faults = Zoo.faults();
        for (int i = 0; i < faults.size(); i++) {
            Zoo.Fault first = faults.get(i);
            byte[] once = row.with(first.label(), first.size(), first.value());
            wrongAt(first.label(), once, row.place(first.label()));
            for (Zoo.Fault second : faults.subList(i + 1, faults.size())) {
                byte[] twice = row.with(once, second.label(), second.size(), second.value());
                wrongAt(first.label() + " and " + second.label(), twice, row.place(first.label()));
            }
        }
    }

    /** "(What is checked AGAIN is so behind all items before.)": also when bytes are missing. */
    private static void whatIsCheckedAgainIsSoBehindAllBefore() {
        ByteRow row = Zoo.whole();
        for (Zoo.Fault fault : Zoo.faults()) {
            int place = row.place(fault.label());
            byte[] broken = row.with(fault.label(), fault.size(), fault.value());
            for (int length = 0; length < broken.length; length++) {
                int cut = row.cutPlace(length);
                boolean first = Zoo.isCheckedAgain(fault) ? cut >= row.place("flags") : place < cut;
                wrongAt(fault.label() + ", cut to " + length, Arrays.copyOf(broken, length), first ? place : cut);
            }
        }
    }

    /** "4 bytes: 3405691582." */
    private static void magic() {
        each(Zoo.whole(), "magic", 4, of(0, 3405691581L, 3405691583L, 0x4AFEBABEL, 0xCAFEBA3EL, 0xFFFFFFFFL), of(3405691582L));
    }

    /** "2: any." */
    private static void minor() {
        each(Zoo.whole(), "minor", 2, of(), of(0, 1, 44, 66, 32768, 65535));
    }

    /** "2: 45 .. 65." */
    private static void version() {
        ByteRow row = Zoo.whole();
        for (int value = 0; value < 400; value++) {
            wrongAt("version " + value, row.with("version", 2, value), value >= 45 && value <= 65 ? -1 : row.place("version"));
        }
        each(row, "version", 2, of(44, 66, 65535), of(45, 65));
    }

    /** A class file with just c - 1 entries, the first two of which THIS needs. */
    private static ByteRow withEntries(int c) {
        ByteRow row = ByteRow.head(c);
        for (int entry = 1; entry < c; entry++) {
            if (entry == 1) {
                row.text("A");
            } else if (entry == 2) {
                row.u1(7).u2(1);
            } else {
                row.u1(3).u4(0);
            }
        }
        return row.tail(2);
    }

    /** "2: c, 1 .. 64. Then the POOL, ENTRIES with the numbers 1 .. c - 1". */
    private static void howManyEntries() {
        for (int c = 0; c <= 66; c++) {
            ByteRow row = withEntries(c);
            // A pool of none or one is right, but has no class for THIS.
            int place = c < 1 || c > 64 ? row.place("c") : c < 3 ? row.place("this") : -1;
            wrongAt("c " + c, row.bytes(), place);
        }
        each(withEntries(3), "c", 2, of(0, 65, 256, 320, 65535), of(3));
        ByteRow small = withEntries(64);
        // The kind and the zeros of the entry that is not told are taken for FLAGS and THIS.
        wrongAt("c one too small", small.with("c", 2, 63), small.place("flags") - 5 + 2);
        ByteRow large = withEntries(63);
        wrongAt("c one too large", large.with("c", 2, 64), large.place("flags"));
    }

    /** A pool whose fourth entry has this kind, with what belongs to it. */
    private static ByteRow withKind(int kind) {
        ByteRow row = ByteRow.head(kind == 5 || kind == 6 ? 6 : 5).text("I").u1(7).u2(1).u1(12).u2(1).u2(1).mark("kind").u1(kind);
        switch (kind) {
            case 1 -> row.u2(0);
            case 3, 4 -> row.u4(0);
            case 5, 6 -> row.u4(0).u4(0);
            case 7, 8 -> row.u2(1);
            case 9, 10, 11 -> row.u2(2).u2(3);
            default -> row.u2(1).u2(1);
        }
        return row.tail(2);
    }

    /** "Other kinds are wrong." */
    private static void kinds() {
        for (int kind = 0; kind < 256; kind++) {
            ByteRow row = withKind(kind);
            boolean known = kind == 1 || kind >= 3 && kind <= 12;
            wrongAt("kind " + kind, row.bytes(), known ? -1 : row.place("kind"));
            ByteRow first = ByteRow.head(4).mark("kind").u1(kind);
            wrongAt("the kind alone is there: " + kind, first.bytes(), known ? first.size() : first.place("kind"));
        }
    }

    /** "a length, and as many items of 1 byte". */
    private static void lengthsOfTexts() {
        for (int length : new int[] {0, 1, 2, 127, 128, 255, 256, 257, 366}) {
            ByteRow row = ByteRow.head(4).text("A").u1(7).u2(1).text("t".repeat(length)).tail(2);
            right("a text of " + length, row.bytes());
            CHECKS.same("which would be too long with one more", row.size() > 399 ? 1 : 0, length == 366 ? 1 : 0);
        }
        for (int length = 0; length <= 12; length++) {
            ByteRow row = ByteRow.head(2).u1(1).u2(length).mark("text").u1('A').u1('B').u1('C').mark("end");
            // The bytes that are left over are those of FLAGS and THIS.
            int place = length > 3 ? row.place("end") : length > 1 ? row.place("text") + length : row.place("text") + length + 2;
            wrongAt("length " + length + " of 3 bytes", row.bytes(), place);
        }
        ByteRow far = ByteRow.head(2).u1(1).u2(65535).u1('A').u1('B').mark("c").u1(0).u1('C');
        wrongAt("length 65535", far.cut(far.place("c")), far.place("c"));
        wrongAt("length 65535 and a wrong character", far.bytes(), far.place("c"));
        ByteRow half = ByteRow.head(2).u1(1).u2(32768).u1('A');
        wrongAt("length 32768", half.bytes(), half.size());
    }

    /** "each 1 .. 127": the first character, one within and the last. */
    private static void charactersOfTexts() {
        for (int at = 0; at < 5; at++) {
            for (int value = 0; value < 256; value++) {
                ByteRow row = ByteRow.head(4).text("A").u1(7).u2(1).u1(1).u2(5).mark("text");
                for (int i = 0; i < 5; i++) {
                    row.u1(i == at ? value : 'A');
                }
                int place = value >= 1 && value <= 127 ? -1 : row.place("text") + at;
                wrongAt("character " + value, row.tail(2).bytes(), place);
            }
        }
    }

    /** "3, 4 one item of 4;  5, 6 two items of 4". */
    private static void numbersOfFourBytesAreAny() {
        ByteRow row = Zoo.whole();
        for (String label : new String[] {"e5a", "e5b", "e7a", "e8a", "e9a", "e9b"}) {
            each(row, label, 4, of(), of(0, 1, 0x7FFFFFFFL, 0x80000000L, 0xFFFFFFFFL));
        }
    }

    /** "such an entry takes two numbers". */
    private static void wideEntriesTakeTwoNumbers() {
        for (int kind = 5; kind <= 6; kind++) {
            ByteRow row = ByteRow.head(9).u1(kind).u4(0).u4(0).u1(kind).u4(0).u4(0).text("A").u1(7).u2(5);
            row.u1(3).u4(0).u1(4).u4(0).tail(6);
            right("behind two wide entries the numbers 5 and 6", row.bytes());
            each(row, "this", 2, of(1, 2, 3, 4, 5, 7, 8, 9), of(6));
        }
    }

    /** A pool of c - 1 numbers, the last of which is that of a wide entry, or its second one. */
    private static ByteRow wideAtEnd(int c, int kind, int numbersLeft) {
        ByteRow row = ByteRow.head(c);
        for (int entry = 1; entry < c - numbersLeft; entry++) {
            row.u1(3).u4(0);
        }
        return row.mark("wide").u1(kind).u4(0).u4(0).tail(1);
    }

    /** "the kind is wrong if there is no second one". */
    private static void wideEntriesNeedASecondNumber() {
        for (int kind = 5; kind <= 6; kind++) {
            for (int c : new int[] {2, 3, 4, 63, 64}) {
                ByteRow none = wideAtEnd(c, kind, 1);
                wrongAt("c " + c + ", no second number", none.bytes(), none.place("wide"));
                wrongAt("its kind comes before its items", none.cut(none.place("wide") + 1), none.place("wide"));
                if (c > 2) {
                    ByteRow one = wideAtEnd(c, kind, 2);
                    // There is no class for THIS.
                    wrongAt("c " + c + ", a second number", one.bytes(), one.place("this"));
                }
            }
            ByteRow two = ByteRow.head(4).u1(kind).u4(0).u4(0).mark("wide").u1(kind).u4(0).u4(0).tail(1);
            wrongAt("a wide entry behind another", two.bytes(), two.place("wide"));
            right("a wide entry at the end", ByteRow.head(5).text("A").u1(7).u2(1).u1(kind).u4(0).u4(0).tail(2).bytes());
        }
    }

    /** "of which the second is no entry": even if the object has read one with this number before. */
    private static void theSecondNumberIsNoEntry() {
        for (int before = 0; before < 3; before++) {
            ModuleScanner s = new ModuleScanner();
            ByteRow row = ByteRow.head(6).text("A").u1(7).u2(1).u1(3).u4(0).u1(before == 1 ? 8 : 7).u2(1).text("b/B").tail(2);
            if (before == 2) {
                row.u1(0);
            }
            CHECKS.same("an entry 4 and 5", Checks.add(s, 0, row.bytes()), before == 2 ? -2 - row.place("end") : 0);
            ByteRow wide = ByteRow.head(6).text("B").u1(7).u2(1).mark("wide").u1(5).u4(0).u4(0).u1(8).mark("text").u2(1).tail(2);
            CHECKS.same("4 is not THIS", Checks.add(s, 1, wide.with("this", 2, 4)), -2 - wide.place("this"));
            CHECKS.same("4 is not SUPER", Checks.add(s, 1, wide.with("super", 2, 4)), -2 - wide.place("super"));
            CHECKS.same("4 is no text", Checks.add(s, 1, wide.with("text", 2, 4)), -2 - wide.place("text"));
            CHECKS.same("nor is 3", Checks.add(s, 1, wide.with("text", 2, 3)), -2 - wide.place("text"));
            CHECKS.same("5 is the string, and no text", Checks.add(s, 1, wide.with("text", 2, 5)), -2 - wide.place("text"));
            CHECKS.same("1 is one", Checks.add(s, 1, wide.bytes()), before == 2 ? 0 : 1);
        }
    }

    /** "they are numbers of entries: for 7 of a text that is a class name or an array type; ..." */
    private static void numbersOfEntries() {
        onlyThese("kind 7", Zoo.withLoose(7, 1), "e22a", Zoo.CLASS_NAMES_OR_ARRAY_TYPES);
        onlyThese("kind 8", Zoo.withLoose(8, 12), "e22a", Zoo.TEXTS);
        for (int kind = 9; kind <= 11; kind++) {
            onlyThese("kind " + kind, Zoo.withLoose(kind, 2, 17), "e22a", Zoo.CLASSES);
            onlyThese("kind " + kind, Zoo.withLoose(kind, 4, 21), "e22b", Zoo.PAIRS);
        }
        onlyThese("kind 12", Zoo.withLoose(12, 1, 3), "e22a", Zoo.FILLED_TEXTS);
        onlyThese("kind 12", Zoo.withLoose(12, 1, 3), "e22b", Zoo.TYPES_OR_METHOD_TYPES);
        // The first entry is checked too, and may point at the last one.
        ByteRow row = ByteRow.head(4).u1(7).mark("text").u2(3).u1(7).u2(3).text("A").tail(2);
        each(row, "text", 2, of(0, 1, 2, 4), of(3));
        row = ByteRow.head(5).u1(12).mark("name").u2(4).mark("type").u2(4).u1(7).u2(4).text("").text("I").tail(2);
        each(row, "name", 2, of(0, 1, 2, 3, 5), of(4));
        each(row, "type", 2, of(0, 1, 2, 3, 5), of(4));
    }

    /** "2: FLAGS, any." */
    private static void flagsAreAny() {
        ByteRow row = Zoo.whole();
        for (String label : new String[] {"flags", "f0flags", "f1flags", "m0flags", "m1flags"}) {
            each(row, label, 2, of(), of(0, 1, 2, 4, 32, 32767, 32768, 65535));
        }
    }

    /** "2: THIS, the number of a class.  2: SUPER, 0 or the number of a class." */
    private static void thisAndSuper() {
        ByteRow row = Zoo.whole();
        onlyThese("THIS", row, "this", Zoo.NAMED_CLASSES);
        onlyThese("SUPER", row, "super", 0, 2);
    }

    /** "2: how many INTERFACES, and for each 2, the number of a class. (... not array types.)" */
    private static void interfaces() {
        onlyThese("interface", Zoo.whole(), "i0", Zoo.NAMED_CLASSES);
        onlyThese("interface", Zoo.whole(), "i1", Zoo.NAMED_CLASSES);
        for (int many : new int[] {0, 1, 2, 127, 128, 184}) {
            ByteRow row = ByteRow.head(3).text("A").u1(7).u2(1).u2(0).u2(2).u2(0).u2(many);
            for (int i = 0; i < many; i++) {
                row.u2(2);
            }
            ModuleScanner s = new ModuleScanner();
            CHECKS.same(many + " interfaces", Checks.add(s, 0, row.u2(0).u2(0).u2(0).bytes()), 0);
            CHECKS.same("how many interfaces", s.file(0, 4), many);
            CHECKS.same("with one more it is too long", row.size() > 398 ? 1 : 0, many == 184 ? 1 : 0);
        }
        for (int many : new int[] {3, 4, 256, 32768, 65535}) {
            ByteRow row = ByteRow.head(3).text("A").u1(7).u2(1).u2(0).u2(2).u2(0).u2(many).u2(2).u2(2);
            wrongAt(many + " interfaces, two of them there", row.bytes(), row.size());
        }
    }

    /** So many fields or methods, each of 8 bytes, with the text 1 and the type 1 or 3. */
    private static ByteRow members(ByteRow row, int told, int there, int type) {
        row.u2(told);
        for (int i = 0; i < there; i++) {
            row.u2(0).u2(1).u2(type).u2(0);
        }
        return row;
    }

    /** "2: how many FIELDS, and for each: 2, its flags; 2, a text; 2, a text that is a type". */
    private static void fields() {
        for (String label : new String[] {"f0", "f1"}) {
            onlyThese("field", Zoo.whole(), label + "name", Zoo.TEXTS);
            onlyThese("field", Zoo.whole(), label + "type", Zoo.TYPES);
        }
        for (int many : new int[] {0, 1, 2, 45, 46}) {
            ByteRow row = members(ByteRow.head(3).text("I").u1(7).u2(1).u2(0).u2(2).u2(0).u2(0), many, many, 1).u2(0).u2(0);
            ModuleScanner s = new ModuleScanner();
            CHECKS.same(many + " fields", Checks.add(s, 0, row.bytes()), 0);
            CHECKS.same("how many fields", s.file(0, 5), many);
            CHECKS.same("no methods", s.file(0, 6), 0);
            CHECKS.same("with one more it is too long", row.size() > 392 ? 1 : 0, many == 46 ? 1 : 0);
        }
        for (int many : new int[] {3, 256, 32768, 65535}) {
            ByteRow row = members(ByteRow.head(3).text("I").u1(7).u2(1).u2(0).u2(2).u2(0).u2(0), many, 2, 1);
            wrongAt(many + " fields, two of them there", row.bytes(), row.size());
        }
    }

    /** "2: how many METHODS, and for each the same, but the last text is a method type." */
    private static void methods() {
        for (String label : new String[] {"m0", "m1"}) {
            onlyThese("method", Zoo.whole(), label + "name", Zoo.TEXTS);
            onlyThese("method", Zoo.whole(), label + "type", Zoo.METHOD_TYPES);
        }
        for (int many : new int[] {0, 1, 2, 44, 45}) {
            ByteRow row = ByteRow.head(4).text("I").u1(7).u2(1).text("()V").u2(0).u2(2).u2(0).u2(0).u2(0);
            ModuleScanner s = new ModuleScanner();
            CHECKS.same(many + " methods", Checks.add(s, 0, members(row, many, many, 3).u2(0).bytes()), 0);
            CHECKS.same("how many methods", s.file(0, 6), many);
            CHECKS.same("no fields", s.file(0, 5), 0);
            CHECKS.same("with one more it is too long", row.size() > 392 ? 1 : 0, many == 45 ? 1 : 0);
        }
        for (int many : new int[] {3, 256, 32768, 65535}) {
            ByteRow row = ByteRow.head(4).text("I").u1(7).u2(1).text("()V").u2(0).u2(2).u2(0).u2(0).u2(0);
            wrongAt(many + " methods, two of them there", members(row, many, 2, 3).bytes(), row.size());
        }
    }

    /** "ATTRIBUTES are 2: how many, and for each 2: a text". */
    private static void attributes() {
        for (String label : new String[] {"f1x0", "f1x1", "m1x0", "x0", "x1"}) {
            onlyThese("attribute", Zoo.whole(), label, Zoo.TEXTS);
        }
        for (int many : new int[] {0, 1, 2, 60, 61}) {
            ByteRow row = ByteRow.head(3).text("A").u1(7).u2(1).u2(0).u2(2).u2(0).u2(0).u2(0).u2(0).u2(many);
            for (int i = 0; i < many; i++) {
                row.u2(1).u4(0);
            }
            right(many + " attributes", row.bytes());
            CHECKS.same("with one more it is too long", row.size() > 394 ? 1 : 0, many == 61 ? 1 : 0);
        }
        ByteRow row = Zoo.whole();
        for (int many : new int[] {3, 256, 32768, 65535}) {
            wrongAt(many + " attributes", row.with("attributes", 2, many), row.size());
        }
        wrongAt("an attribute too few", row.with("attributes", 2, 1), row.place("x1"));
        wrongAt("no attributes", row.with("attributes", 2, 0), row.place("x0"));
    }

    /** "4: n, not more than there are bytes left behind it; and n bytes, any." */
    private static void howManyBytesAnAttributeHas() {
        ByteRow row = Zoo.whole();
        for (String label : new String[] {"f1n0", "f1n1", "m1n0", "n0", "n1"}) {
            int left = row.size() - row.place(label) - 4;
            each(row, label, 4, of(left + 1, left + 2, left + 256, left + 65536, 0x7FFFFFFFL, 0x80000000L, 0x80000000L + left,
                    0x100000000L - left, 0xFFFFFFFFL), of());
        }
        each(row, "n1", 4, of(4), of(3));
        wrongAt("n one too small", row.with("n1", 4, 2), row.size() - 1);
        wrongAt("n 0", row.with("n1", 4, 0), row.place("n1") + 4);
        // The last attribute of a field may take in all that is left; then METHODS are missing.
        wrongAt("n up to the end", row.with("f1n1", 4, row.size() - row.place("f1n1") - 4), row.size());
        ByteRow bare = ByteRow.head(3).text("A").u1(7).u2(1).u2(0).u2(2).u2(0).u2(0).u2(0).u2(0).u2(1).u2(1).mark("n").body();
        right("n 0 and nothing left", bare.bytes());
        each(bare, "n", 4, of(1, 2, 0xFFFFFFFFL), of(0));
        for (int value = 0; value < 256; value++) {
            byte[] bytes = row.bytes();
            bytes[row.place("f1n0") + 4] = (byte) value;
            bytes[row.place("end") - 1] = (byte) value;
            right("bytes " + value + " in an attribute", bytes);
        }
    }

    /** "Then no byte is left; if one is, it is wrong at its place." */
    private static void noByteIsLeft() {
        for (int value : new int[] {0, 1, 128, 255}) {
            ByteRow row = Zoo.whole();
            wrongAt("one byte left", row.u1(value).bytes(), row.place("end"));
            wrongAt("two bytes left", row.u1(value).bytes(), row.place("end"));
            wrongAt("six bytes left", row.u4(value).bytes(), row.place("end"));
        }
    }
}
