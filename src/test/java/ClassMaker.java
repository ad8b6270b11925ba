import java.util.ArrayList;
import java.util.HashMap;
import java.util.List;
import java.util.Map;

/** Makes right class files for the tests; entries that are asked for twice are made once. */
final class ClassMaker {
    private final ByteRow pool = new ByteRow();
    private final Map<String, Integer> known = new HashMap<>();
    private int nextEntry = 1;
    private int flags = 1;
    private int self;
    private int parent;
    private final List<Integer> interfaces = new ArrayList<>();
    private final List<int[]> fields = new ArrayList<>();
    private final List<int[]> methods = new ArrayList<>();

    ClassMaker(String name) {
        self = classEntry(name);
    }

    /** A class file without THIS: it is given later with self(), to test the order of names. */
    ClassMaker() {
    }

    ClassMaker self(String name) {
        self = classEntry(name);
        return this;
    }

    int text(String text) {
        Integer entry = known.get("text " + text);
        if (entry == null) {
            entry = nextEntry++;
            known.put("text " + text, entry);
            pool.text(text);
        }
        return entry;
    }

    int classEntry(String name) {
        int text = text(name);
        Integer entry = known.get("class " + name);
        if (entry == null) {
            entry = nextEntry++;
            known.put("class " + name, entry);
            pool.u1(7).u2(text);
        }
        return entry;
    }

    ClassMaker flags(int flags) {
        this.flags = flags;
        return this;
    }

    ClassMaker parent(String name) {
        parent = classEntry(name);
        return this;
    }

    ClassMaker implementing(String name) {
        interfaces.add(classEntry(name));
        return this;
    }

    ClassMaker using(String... names) {
        for (String name : names) {
            classEntry(name);
        }
        return this;
    }

    ClassMaker pair(String name, String type) {
        int first = text(name);
        int second = text(type);
        pool.u1(12).u2(first).u2(second);
        nextEntry++;
        return this;
    }

    ClassMaker wide(int kind) {
        pool.u1(kind).u4(7).u4(7);
        nextEntry += 2;
        return this;
    }

    ClassMaker field(int flags, String type) {
        fields.add(new int[] {flags, text("f"), text(type)});
        return this;
    }

    ClassMaker method(int flags, String type) {
        methods.add(new int[] {flags, text("m"), text(type)});
        return this;
    }

    byte[] bytes() {
        ByteRow row = new ByteRow().u4(0xCAFEBABEL).u2(0).u2(52).u2(nextEntry).all(pool.bytes());
        row.u2(flags).u2(self).u2(parent).u2(interfaces.size());
        for (int entry : interfaces) {
            row.u2(entry);
        }
        writeMembers(row, fields);
        writeMembers(row, methods);
        return row.u2(0).bytes();
    }

    private static void writeMembers(ByteRow row, List<int[]> members) {
        row.u2(members.size());
        for (int[] member : members) {
            row.u2(member[0]).u2(member[1]).u2(member[2]).u2(0);
        }
    }
}
