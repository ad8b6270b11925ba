import java.util.ArrayList;
import java.util.List;

/** A right class file with entries of every kind, texts of every shape and all that may follow. */
final class Zoo {
    static final int C = 23;
    /** The last entry, to which nothing points, so that it may be anything. */
    static final int LOOSE = 22;

    static final int[] TEXTS = {1, 3, 12, 13, 14, 15, 16};
    static final int[] FILLED_TEXTS = {1, 3, 13, 14, 15, 16};
    static final int[] CLASS_NAMES_OR_ARRAY_TYPES = {1, 3, 13};
    static final int[] TYPES = {3, 13, 14};
    static final int[] METHOD_TYPES = {15};
    static final int[] TYPES_OR_METHOD_TYPES = {3, 13, 14, 15};
    static final int[] CLASSES = {2, 4};
    static final int[] NAMED_CLASSES = {2};
    static final int[] PAIRS = {17, 21};

    /** An item that can be made wrong. */
    record Fault(String label, int size, long value) {
    }

    private Zoo() {
    }

    /** The class file whose last entry has this kind and points at these entries. */
    static ByteRow withLoose(int kind, int... numbers) {
        ByteRow row = ByteRow.head(C);
        row.mark("e1").u1(1).u2(3).mark("e1c0").u1('a').u1('/').mark("e1c2").u1('B');
        row.mark("e2").u1(7).mark("e2a").u2(1);
        row.mark("e3").text("[La/B;");
        row.mark("e4").u1(7).mark("e4a").u2(3);
        row.mark("e5").u1(5).mark("e5a").u4(-1).mark("e5b").u4(-1);
        row.mark("e7").u1(3).mark("e7a").u4(-1);
        row.mark("e8").u1(4).mark("e8a").u4(-1);
        row.mark("e9").u1(6).mark("e9a").u4(-1).mark("e9b").u4(-1);
        row.mark("e11").u1(8).mark("e11a").u2(12);
        row.mark("e12").u1(1).mark("e12length").u2(0);
        row.mark("e13").u1(1).u2(1).mark("e13c0").u1('I');
        row.mark("e14").text("La/B;");
        row.mark("e15").text("(I)V");
        row.mark("e16").text("-");
        row.mark("e17").u1(12).mark("e17a").u2(16).mark("e17b").u2(14);
        row.mark("e18").u1(9).mark("e18a").u2(2).mark("e18b").u2(17);
        row.mark("e19").u1(10).mark("e19a").u2(4).mark("e19b").u2(17);
        row.mark("e20").u1(11).mark("e20a").u2(2).mark("e20b").u2(21);
        row.mark("e21").u1(12).mark("e21a").u2(1).mark("e21b").u2(15);
        row.mark("e22").u1(kind).mark("e22a").u2(numbers[0]);
        if (numbers.length > 1) {
            row.mark("e22b").u2(numbers[1]);
        }
        row.mark("flags").u2(0xFFFF).mark("this").u2(2).mark("super").u2(2);
        row.mark("interfaces").u2(2).mark("i0").u2(2).mark("i1").u2(2);
        row.mark("fields").u2(2);
        row.mark("f0flags").u2(1).mark("f0name").u2(12).mark("f0type").u2(13).mark("f0attributes").u2(0);
        row.mark("f1flags").u2(1).mark("f1name").u2(1).mark("f1type").u2(3).mark("f1attributes").u2(2);
        row.mark("f1x0").u2(12).mark("f1n0").body(255, 0, 7);
        row.mark("f1x1").u2(1).mark("f1n1").body();
        row.mark("methods").u2(2);
        row.mark("m0flags").u2(1).mark("m0name").u2(12).mark("m0type").u2(15).mark("m0attributes").u2(0);
        row.mark("m1flags").u2(1).mark("m1name").u2(3).mark("m1type").u2(15).mark("m1attributes").u2(1);
        row.mark("m1x0").u2(12).mark("m1n0").body(1);
        row.mark("attributes").u2(2).mark("x0").u2(13).mark("n0").body(0, 128);
        return row.mark("x1").u2(16).mark("n1").body(202, 254, 186).mark("end");
    }

    static ByteRow whole() {
        return withLoose(12, 16, 3);
    }

    /** What may be wrong, in the order in which the document tells it. */
    static List<Fault> faults() {
        List<Fault> faults = new ArrayList<>();
        faults.add(new Fault("magic", 4, 0));
        faults.add(new Fault("version", 2, 0));
        faults.add(new Fault("c", 2, 0));
        for (String label : new String[] {"e1", "e1c0", "e1c2", "e2", "e5", "e7", "e9", "e11", "e12", "e13", "e13c0", "e21",
            "e22"}) {
            faults.add(new Fault(label, 1, 0));
        }
        for (String label : new String[] {"e2a", "e4a", "e11a", "e17a", "e17b", "e18a", "e18b", "e19a", "e19b", "e20a",
            "e20b", "e21a", "e21b", "e22a", "e22b", "this", "super", "i0", "i1", "f0name", "f0type", "f1name",
            "f1type", "f1x0"}) {
            faults.add(new Fault(label, 2, 65535));
        }
        faults.add(new Fault("f1n0", 4, 0xFFFFFFFFL));
        faults.add(new Fault("f1x1", 2, 65535));
        faults.add(new Fault("f1n1", 4, 0x80000000L));
        for (String label : new String[] {"m0name", "m0type", "m1name", "m1type", "m1x0"}) {
            faults.add(new Fault(label, 2, 65535));
        }
        faults.add(new Fault("m1n0", 4, 0x7FFFFFFFL));
        faults.add(new Fault("x0", 2, 65535));
        faults.add(new Fault("n0", 4, 0xFFFFFFFFL));
        faults.add(new Fault("x1", 2, 65535));
        faults.add(new Fault("n1", 4, 4));
        return faults;
    }

    /** The items of 2 bytes in the pool are looked at when all of it has been read. */
    static boolean isCheckedAgain(Fault fault) {
        return fault.label().startsWith("e") && fault.size() == 2;
    }
}
