import java.io.ByteArrayOutputStream;
import java.util.HashMap;
import java.util.Map;

/** A row of items, some of them marked so that a test can break one and tell its place. */
final class ByteRow {
    private final ByteArrayOutputStream out = new ByteArrayOutputStream();
    private final Map<String, Integer> places = new HashMap<>();

    ByteRow mark(String label) {
        places.put(label, out.size());
        return this;
    }

    int place(String label) {
        return places.get(label);
    }

    ByteRow item(int size, long value) {
        for (int left = size - 1; left >= 0; left--) {
            out.write((int) (value >>> 8 * left) & 255);
        }
        return this;
    }

    ByteRow u1(int value) {
        return item(1, value);
    }

    ByteRow u2(int value) {
        return item(2, value);
    }

    ByteRow u4(long value) {
        return item(4, value);
    }

    ByteRow text(String text) {
        u1(1).u2(text.length());
        for (int i = 0; i < text.length(); i++) {
            u1(text.charAt(i));
        }
        return this;
    }

    ByteRow all(byte[] bytes) {
        out.write(bytes, 0, bytes.length);
        return this;
    }

    int size() {
        return out.size();
    }

    byte[] bytes() {
        return out.toByteArray();
    }

    /** A copy in which the item of this size at the mark has another value. */
    byte[] with(String label, int size, long value) {
        byte[] copy = bytes();
        for (int i = 0; i < size; i++) {
            copy[place(label) + i] = (byte) (value >>> 8 * (size - 1 - i));
        }
        return copy;
    }
}
