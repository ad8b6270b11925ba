/** Promises 1 to 3: a new object, put and scrap. */
public final class DraftTest {
    private static final Checks CHECKS = new Checks("DraftTest");

    public static void main(String[] args) {
        aNewObjectIsEmpty();
        putTakesTheLowestBytesHighestFirst();
        putRefusesOtherCounts();
        putRefusesMoreThan400Bytes();
        aRefusedPutChangesNothing();
        scrapEmptiesTheDraft();
        CHECKS.end();
    }

    /** "No class files, no names, an empty draft." */
    private static void aNewObjectIsEmpty() {
        ModuleScanner s = new ModuleScanner();
        CHECKS.same("NONE", ModuleScanner.NONE, -1);
        CHECKS.same("names of a new object", s.names(), 0);
        CHECKS.same("file of a new object", s.file(0, 0), -1);
        CHECKS.same("uses of a new object", s.uses(0, false), 0);
        CHECKS.same("closure of a new object", s.closure(0), 0);
        CHECKS.same("component of a new object", s.component(0), -1);
        CHECKS.same("layer of a new object", s.layer(0), -1);
        CHECKS.same("packageOf of a new object", s.packageOf(0), -1);
        CHECKS.same("jars of a new object", s.jars(0), 0);
        CHECKS.same("provider of a new object", s.provider(0), -1);
        CHECKS.same("letter of a new object", s.letter(0, 0), -1);
        for (int jar = 0; jar < 5; jar++) {
            CHECKS.same("needs of a new object", s.jar(jar, 0), 0);
            CHECKS.same("offers of a new object", s.jar(jar, 1), 0);
            CHECKS.same("reads of a new object", s.jar(jar, 2), 0);
            CHECKS.same("exports of a new object", s.exports(jar), 0);
            CHECKS.same("drop of a new object", s.drop(jar), 0);
        }
        for (int which = 0; which < 5; which++) {
            CHECKS.same("problems of a new object", s.problems(which), 0);
        }
        CHECKS.same("an empty draft is wrong at 0", s.add(0), -2);
    }

    /** "the lowest 8 * n bits of bytes, the highest first". */
    private static void putTakesTheLowestBytesHighestFirst() {
        byte[] bytes = new ClassMaker("a/B").parent("c/D").field(1, "I").bytes();
        for (int n = 1; n <= 8; n++) {
            ModuleScanner s = new ModuleScanner();
            for (int at = 0; at < bytes.length;) {
                int many = Math.min(n, bytes.length - at);
                // The bits above those that are asked for must not count.
                long packed = -1;
                for (int i = 0; i < many; i++) {
                    packed = packed << 8 | bytes[at + i] & 255;
                }
                CHECKS.holds("put of " + many, s.put(many, packed));
                at += many;
            }
            CHECKS.same("add after puts of " + n, s.add(0), 0);
            CHECKS.names("names after puts of " + n, s, "a/B c/D");
        }
    }

    /** "false when n is not 1 .. 8". */
    private static void putRefusesOtherCounts() {
        ModuleScanner s = new ModuleScanner();
        for (int n : new int[] {0, -1, 9, 10, 16, -8, Integer.MIN_VALUE, Integer.MAX_VALUE, 65, 1 << 30}) {
            CHECKS.fails("put of " + n, s.put(n, 0));
        }
    }

    /** "false when ... it would have more than 400": each count behind each number of bytes. */
    private static void putRefusesMoreThan400Bytes() {
        for (int length = 384; length <= 400; length++) {
            for (int n = -1; n <= 10; n++) {
                ModuleScanner s = new ModuleScanner();
                Checks.put(s, new byte[length]);
                boolean fits = n >= 1 && n <= 8 && length + n <= 400;
                CHECKS.same("put(" + n + ") behind " + length, s.put(n, 0) ? 1 : 0, fits ? 1 : 0);
                CHECKS.same("a byte behind it", s.put(1, 0) ? 1 : 0, length + (fits ? n : 0) < 400 ? 1 : 0);
            }
        }
        ModuleScanner s = new ModuleScanner();
        for (int i = 0; i < 400; i++) {
            CHECKS.holds("one byte a put", s.put(1, i));
        }
        CHECKS.fails("the 401st", s.put(1, 0));
        CHECKS.fails("a count that would wrap", s.put(Integer.MAX_VALUE, 0));
        s.scrap();
        CHECKS.holds("put into a draft that was full", s.put(8, 0));
    }

    /** "A call that answers ... false changes nothing". */
    private static void aRefusedPutChangesNothing() {
        byte[] bytes = new ClassMaker("A").bytes();
        ModuleScanner s = new ModuleScanner();
        Checks.put(s, bytes);
        CHECKS.fails("put of 9", s.put(9, 0));
        CHECKS.fails("put of 0", s.put(0, 0));
        CHECKS.same("add after refused puts", s.add(0), 0);
        byte[] full = filledTo400();
        Checks.put(s, full);
        CHECKS.fails("put beyond 400", s.put(1, 0));
        CHECKS.same("add of 400 bytes", s.add(1), 1);
    }

    /** A right class file of just 400 bytes: its last attribute takes what is left. */
    private static byte[] filledTo400() {
        byte[] bytes = new ClassMaker("A").bytes();
        ByteRow row = new ByteRow();
        for (int i = 0; i < bytes.length - 2; i++) {
            row.u1(bytes[i]);
        }
        int left = 400 - row.size() - 8;
        return row.u2(1).u2(1).u4(left).all(new byte[left]).bytes();
    }

    /** "The draft becomes empty." */
    private static void scrapEmptiesTheDraft() {
        ModuleScanner s = new ModuleScanner();
        s.put(8, 0x0123456789ABCDEFL);
        s.scrap();
        CHECKS.same("add of a scrapped draft", s.add(0), -2);
        s.put(8, 0x0123456789ABCDEFL);
        s.scrap();
        s.scrap();
        Checks.put(s, new ClassMaker("A").bytes());
        CHECKS.same("add after a scrap", s.add(0), 0);
        s.scrap();
        CHECKS.same("names after a scrap", s.names(), 1);
        CHECKS.same("class files after a scrap", s.file(0, 1), 0);
    }
}
