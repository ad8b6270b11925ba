import java.util.ArrayList;
import java.util.Collections;
import java.util.LinkedHashMap;
import java.util.List;
import java.util.Map;
import java.util.Random;

/** Class files made by lot from a fixed seed, right ones and such as are wrong in one place. */
final class RandomClasses {
    private static final String[] PACKAGES = {"", "a/", "b/", "a/b/", "a_$9/", "x/y/z/"};
    private static final String[] ODD_TEXTS = {
        "", "V", "[V", "L;", "La//B;", "a/", "/a", "a//b", "abcdefghijklmnopq", "Labcdefghijklmnopq;",
        "()", "(V)V", "(I)VV", "(I", "I)V", "[", "[[", "(La;", "a.b", "a-b", "La/B", "II", "(L;)V", "([)V", "()[",
        "Labcdefghijklmnop;", "abcdefghijklmnop", "[Labcdefghijklmnop;", "()[[D", "(BCDFIJSZ)Z", "LI;", "B"};

    private final Random random;
    private final String[] names;

    RandomClasses(Random random, int names) {
        this.random = random;
        this.names = new String[names];
        for (int i = 0; i < names; i++) {
            this.names[i] = PACKAGES[random.nextInt(PACKAGES.length)] + (char) ('A' + i % 26) + (i < 26 ? "" : "" + i / 26);
        }
    }

    /** The entries in an order of their own, so that they point forward and back. */
    private final class Entries {
        final Map<String, Integer> numbers = new LinkedHashMap<>();
        final List<String> wanted = new ArrayList<>();

        String want(String key) {
            if (!wanted.contains(key)) {
                wanted.add(key);
            }
            return key;
        }

        String text(String text) {
            return want("1" + text);
        }

        String classNamed(String name) {
            text(name);
            return want("7" + name);
        }

        int number(String key) {
            return numbers.getOrDefault(key, 0);
        }

        int size() {
            int next = 1;
            Collections.shuffle(wanted, random);
            for (String key : wanted) {
                numbers.put(key, next);
                next += key.charAt(0) == '5' || key.charAt(0) == '6' ? 2 : 1;
            }
            return next;
        }

        void write(ByteRow row) {
            for (String key : wanted) {
                writeOne(row, key.charAt(0), key.substring(1));
            }
        }

        private void writeOne(ByteRow row, char kind, String rest) {
            String[] parts = rest.split("\\|", -1);
            switch (kind) {
                case '1' -> row.text(rest);
                case '3', '4' -> row.u1(kind - '0').u4(random.nextInt());
                case '5', '6' -> row.u1(kind - '0').u4(random.nextInt()).u4(random.nextInt());
                case '7', '8' -> row.u1(kind - '0').u2(number("1" + rest));
                case 'p' -> row.u1(12).u2(number("1" + parts[0])).u2(number("1" + parts[1]));
                default -> row.u1(kind - 'r' + 9).u2(number("7" + parts[0])).u2(number("p" + parts[1] + "|" + parts[2]));
            }
        }
    }

    private String name() {
        return names[random.nextInt(names.length)];
    }

    private boolean one(int of) {
        return random.nextInt(of) == 0;
    }

    private String type() {
        String brackets = "[".repeat(one(3) ? random.nextInt(3) : 0);
        return brackets + (one(2) ? "L" + name() + ";" : "" + "BCDFIJSZ".charAt(random.nextInt(8)));
    }

    private String methodType() {
        StringBuilder text = new StringBuilder("(");
        for (int i = random.nextInt(3); i > 0; i--) {
            text.append(type());
        }
        return text.append(')').append(one(2) ? "V" : type()).toString();
    }

    private String odd(String usual) {
        return one(60) ? ODD_TEXTS[random.nextInt(ODD_TEXTS.length)] : usual;
    }

    private void wantExtras(Entries entries) {
        for (int i = random.nextInt(4); i > 0; i--) {
            switch (random.nextInt(7)) {
                case 0 -> entries.want("" + (3 + random.nextInt(4)) + i);
                case 1 -> {
                    String text = entries.text(odd("s"));
                    entries.want("8" + text.substring(1));
                }
                case 2 -> entries.classNamed(odd("[" + type()));
                case 3 -> wantReference(entries);
                case 4 -> wantPair(entries, odd(one(2) ? type() : methodType()));
                default -> entries.classNamed(odd(name()));
            }
        }
    }

    private void wantPair(Entries entries, String type) {
        String first = one(40) ? "" : "q";
        entries.text(first);
        entries.text(type);
        entries.want("p" + first + "|" + type);
    }

    private void wantReference(Entries entries) {
        String type = methodType();
        String owner = one(4) ? "[" + type() : name();
        entries.text("q");
        entries.text(type);
        entries.want("pq|" + type);
        entries.classNamed(owner);
        entries.want((char) ('r' + random.nextInt(3)) + owner + "|q|" + type);
    }

    private List<String> members(Entries entries, boolean methods) {
        List<String> types = new ArrayList<>();
        for (int i = one(2) ? random.nextInt(4) : 0; i > 0; i--) {
            types.add(entries.text(odd(methods ? methodType() : type())));
        }
        return types;
    }

    private void writeAttributes(ByteRow row, Entries entries, String text) {
        int many = one(4) ? 1 + random.nextInt(2) : 0;
        row.u2(many);
        for (int i = 0; i < many; i++) {
            byte[] body = new byte[random.nextInt(4)];
            random.nextBytes(body);
            row.u2(entries.number(text)).u4(body.length).all(body);
        }
    }

    private void writeMembers(ByteRow row, Entries entries, List<String> types, String text) {
        row.u2(types.size());
        for (String type : types) {
            row.u2(random.nextInt(8)).u2(entries.number(text)).u2(entries.number(type));
            writeAttributes(row, entries, text);
        }
    }

    byte[] right() {
        Entries entries = new Entries();
        String self = entries.classNamed(one(80) ? "[" + type() : name());
        String parent = one(3) ? null : entries.classNamed(one(80) ? "[" + type() : name());
        List<String> interfaces = new ArrayList<>();
        for (int i = one(3) ? random.nextInt(4) : 0; i > 0; i--) {
            interfaces.add(entries.classNamed(one(80) ? "[" + type() : name()));
        }
        String text = entries.text(one(10) ? "" : "t");
        List<String> fields = members(entries, false);
        List<String> methods = members(entries, true);
        wantExtras(entries);
        ByteRow row = new ByteRow().u4(0xCAFEBABEL).u2(random.nextInt(65536)).u2(45 + random.nextInt(21));
        row.u2(entries.size());
        entries.write(row);
        row.u2(random.nextInt(65536)).u2(entries.number(self)).u2(entries.number(parent)).u2(interfaces.size());
        interfaces.forEach(each -> row.u2(entries.number(each)));
        writeMembers(row, entries, fields, text);
        writeMembers(row, entries, methods, text);
        writeAttributes(row, entries, text);
        return row.size() <= 400 ? row.bytes() : right();
    }

    byte[] broken() {
        byte[] bytes = right();
        int place = random.nextInt(bytes.length);
        switch (random.nextInt(4)) {
            case 0 -> bytes[place] = (byte) random.nextInt(256);
            case 1 -> bytes[place] = (byte) random.nextInt(20);
            case 2 -> bytes = java.util.Arrays.copyOf(bytes, place);
            default -> bytes = java.util.Arrays.copyOf(bytes, Math.min(400, bytes.length + 1 + random.nextInt(3)));
        }
        return bytes;
    }
}
