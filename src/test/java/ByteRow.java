import java.io.ByteArrayOutputStream;
import java.util.ArrayList;
import java.util.Arrays;
import java.util.HashMap;
import java.util.List;
import java.util.Map;

/** A row of items, some of them marked so that a test can break one and tell its place. */
final class ByteRow {
    private final ByteArrayOutputStream out = new ByteArrayOutputStream();
    private final Map<String, Integer> places = new HashMap<>();
    // For each byte the place at which the row is wrong when it ends before this byte.
    private final List<Integer> cuts = new ArrayList<>();

    /** The items that every class file begins with, up to c, which tells how many entries follow. */
    static ByteRow head(int c) {
        return new ByteRow().mark("magic").u4(3405691582L).mark("minor").u2(0).mark("version").u2(52).mark("c").u2(c);
    }

    /** What stands behind the pool, all counts being 0. */
    ByteRow tail(int self) {
        return mark("flags").u2(1).mark("this").u2(self).mark("super").u2(0).u2(0).u2(0).u2(0).u2(0).mark("end");
    }

    ByteRow mark(String label) {
        places.put(label, out.size());
        return this;
    }

    int place(String label) {
        return places.get(label);
    }

    /** The place of the item that is cut off when only so many bytes are there. */
    int cutPlace(int length) {
        return cuts.get(length);
    }

    ByteRow item(int size, long value) {
        int place = out.size();
        for (int left = size - 1; left >= 0; left--) {
            out.write((int) (value >>> 8 * left) & 255);
            cuts.add(place);
        }
        return this;
    }

    ByteRow u1(int value) {
        return item(1, value);
    }

    ByteRow u2(int value) {
        return item(2, value);
    }

    ByteRow u4(long value) {
        return item(4, value);
    }

    ByteRow text(String text) {
        u1(1).u2(text.length());
        for (int i = 0; i < text.length(); i++) {
            u1(text.charAt(i));
        }
        return this;
    }

    ByteRow all(byte[] bytes) {
        for (byte each : bytes) {
            u1(each);
        }
        return this;
    }

    /** The n of an attribute and its bytes; when one of these is missing, n is too great. */
    ByteRow body(int... bytes) {
        int place = out.size();
        u4(bytes.length);
        for (int each : bytes) {
            out.write(each);
            cuts.add(place);
        }
        return this;
    }

    int size() {
        return out.size();
    }

    byte[] bytes() {
        return out.toByteArray();
    }

    byte[] cut(int length) {
        return Arrays.copyOf(bytes(), length);
    }

    /** A copy in which the item of this size at the mark has another value. */
    byte[] with(String label, int size, long value) {
        return with(bytes(), label, size, value);
    }

    /** The same in a copy of a row that has been changed before. */
    byte[] with(byte[] bytes, String label, int size, long value) {
        byte[] copy = bytes.clone();
        for (int i = 0; i < size; i++) {
            copy[place(label) + i] = (byte) (value >>> 8 * (size - 1 - i));
        }
        return copy;
    }
}
