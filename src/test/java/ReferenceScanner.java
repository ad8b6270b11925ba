import java.util.ArrayList;
import java.util.LinkedHashSet;
import java.util.List;
import java.util.Set;
import java.util.TreeSet;
import java.util.regex.Matcher;
import java.util.regex.Pattern;

/**
 * The document once more, by other means than the program's (texts, patterns, sets and lists of the
 * Java library), so that long runs of calls can be compared. It has the same author as the program:
 * it finds slips of the one or the other, not a sentence of the document that both take wrongly.
 */
final class ReferenceScanner {
    private static final String NAME = "(?=[^;]{1,16}(?:;|$))[a-zA-Z0-9_$]+(?:/[a-zA-Z0-9_$]+)*";
    private static final Pattern CLASS_NAME = Pattern.compile("(?=.{1,16}$)[a-zA-Z0-9_$]+(?:/[a-zA-Z0-9_$]+)*");
    private static final String ONE_TYPE = "\\[*+(?:[BCDFIJSZ]|L" + NAME + ";)";
    private static final Pattern TYPE = Pattern.compile(ONE_TYPE);
    private static final Pattern ARRAY = Pattern.compile("\\[" + ONE_TYPE);
    private static final Pattern METHOD = Pattern.compile("\\((?:" + ONE_TYPE + ")*\\)(?:V|" + ONE_TYPE + ")");
    private static final Pattern IN_TYPE = Pattern.compile("L([^;]*);");

    private static final class Wrong extends RuntimeException {
        private static final long serialVersionUID = 1;
        final int place;

        Wrong(int place) {
            super(null, null, false, false);
            this.place = place;
        }
    }

    private static final class Entry {
        int kind;
        int place;
        String text;
        int a;
        int b;
    }

    private static final class Unit {
        int jar;
        String self;
        String parent;
        int flags;
        int interfaces;
        int fields;
        int methods;
        final Set<String> met = new LinkedHashSet<>();
        final Set<String> shown = new TreeSet<>();

        Set<String> used() {
            Set<String> used = new TreeSet<>(met);
            used.remove(self);
            return used;
        }
    }

    private final List<Integer> draft = new ArrayList<>();
    private final List<String> names = new ArrayList<>();
    private final List<Unit> units = new ArrayList<>();

    // The reading of a class file.
    private int at;
    private Entry[] pool;

    boolean put(int n, long bytes) {
        if (n < 1 || n > 8 || draft.size() + n > 400) {
            return false;
        }
        for (int i = n - 1; i >= 0; i--) {
            draft.add((int) (bytes >> (i * 8)) & 255);
        }
        return true;
    }

    void scrap() {
        draft.clear();
    }

    int add(int jar) {
        if (jar < 0 || jar > 4 || units.size() == 16) {
            return -1;
        }
        Unit unit;
        try {
            unit = read();
        } catch (Wrong wrong) {
            draft.clear();
            return -2 - wrong.place;
        }
        for (Unit other : units) {
            if (other.jar == jar && other.self.equals(unit.self)) {
                return -1000;
            }
        }
        Set<String> all = new LinkedHashSet<>(names);
        all.addAll(unit.met);
        if (all.size() > 48) {
            return -1001;
        }
        names.clear();
        names.addAll(all);
        unit.jar = jar;
        units.add(unit);
        draft.clear();
        return units.size() - 1;
    }

    private long take(int size) {
        if (at + size > draft.size()) {
            throw new Wrong(at);
        }
        long value = 0;
        for (int i = 0; i < size; i++) {
            value = value * 256 + draft.get(at++);
        }
        return value;
    }

    private long take(int size, long least, long most) {
        int place = at;
        long value = take(size);
        if (value < least || value > most) {
            throw new Wrong(place);
        }
        return value;
    }

    private Unit read() {
        at = 0;
        take(4, 3405691582L, 3405691582L);
        take(2);
        take(2, 45, 65);
        readPool((int) take(2, 1, 64));
        checkPool();
        Unit unit = new Unit();
        unit.flags = (int) take(2);
        boolean open = unit.flags % 2 == 1;
        unit.self = takeClass();
        unit.met.add(unit.self);
        meetPool(unit);
        if (at + 2 <= draft.size() && draft.get(at) == 0 && draft.get(at + 1) == 0) {
            at += 2;
        } else {
            unit.parent = takeClass();
            unit.shown.add(unit.parent);
        }
        unit.interfaces = (int) take(2);
        for (int i = 0; i < unit.interfaces; i++) {
            unit.shown.add(takeClass());
        }
        unit.fields = readMembers(unit, TYPE);
        unit.methods = readMembers(unit, METHOD);
        readAttributes();
        if (at < draft.size()) {
            throw new Wrong(at);
        }
        unit.shown.remove(unit.self);
        if (!open) {
            unit.shown.clear();
        }
        return unit;
    }

    private void readPool(int c) {
        pool = new Entry[c];
        for (int i = 1; i < c; i++) {
            Entry entry = new Entry();
            entry.place = at;
            entry.kind = (int) take(1);
            pool[i] = entry;
            if (entry.kind == 1) {
                entry.text = takeText();
            } else if (entry.kind == 3 || entry.kind == 4) {
                take(4);
            } else if (entry.kind == 5 || entry.kind == 6) {
                i++;
                if (i >= c) {
                    throw new Wrong(entry.place);
                }
                take(4);
                take(4);
            } else if (entry.kind >= 7 && entry.kind <= 12) {
                entry.a = (int) take(2);
                entry.b = entry.kind >= 9 ? (int) take(2) : 0;
            } else {
                throw new Wrong(entry.place);
            }
        }
    }

    private String takeText() {
        StringBuilder text = new StringBuilder();
        int length = (int) take(2);
        while (text.length() < length) {
            text.append((char) take(1, 1, 127));
        }
        return text.toString();
    }

    private Entry entry(int number, int kind) {
        boolean there = number > 0 && number < pool.length && pool[number] != null;
        return there && pool[number].kind == kind ? pool[number] : null;
    }

    private boolean isText(int number, Pattern... shapes) {
        Entry entry = entry(number, 1);
        if (entry == null) {
            return false;
        }
        for (Pattern shape : shapes) {
            if (shape.matcher(entry.text).matches()) {
                return true;
            }
        }
        return shapes.length == 0;
    }

    private void need(boolean right, int place) {
        if (!right) {
            throw new Wrong(place);
        }
    }

    private void checkPool() {
        for (Entry entry : pool) {
            if (entry == null) {
                continue;
            }
            if (entry.kind == 7) {
                need(isText(entry.a, CLASS_NAME, ARRAY), entry.place + 1);
            } else if (entry.kind == 8) {
                need(isText(entry.a), entry.place + 1);
            } else if (entry.kind >= 9 && entry.kind <= 11) {
                need(entry(entry.a, 7) != null, entry.place + 1);
                need(entry(entry.b, 12) != null, entry.place + 3);
            } else if (entry.kind == 12) {
                need(isText(entry.a) && !pool[entry.a].text.isEmpty(), entry.place + 1);
                need(isText(entry.b, TYPE, METHOD), entry.place + 3);
            }
        }
    }

    private String takeClass() {
        int place = at;
        Entry entry = entry((int) take(2), 7);
        need(entry != null && isText(entry.a, CLASS_NAME), place);
        return pool[entry.a].text;
    }

    private static List<String> namesIn(String type) {
        List<String> found = new ArrayList<>();
        Matcher matcher = IN_TYPE.matcher(type);
        while (matcher.find()) {
            found.add(matcher.group(1));
        }
        return found;
    }

    private void meetPool(Unit unit) {
        for (Entry entry : pool) {
            if (entry != null && entry.kind == 7) {
                String text = pool[entry.a].text;
                unit.met.addAll(text.startsWith("[") ? namesIn(text) : List.of(text));
            }
        }
        for (Entry entry : pool) {
            if (entry != null && entry.kind == 12) {
                unit.met.addAll(namesIn(pool[entry.b].text));
            }
        }
    }

    private int readMembers(Unit unit, Pattern shape) {
        int count = (int) take(2);
        for (int i = 0; i < count; i++) {
            int flags = (int) take(2);
            need(isText(lookAhead()), at);
            at += 2;
            int type = lookAhead();
            need(isText(type, shape), at);
            at += 2;
            List<String> inType = namesIn(pool[type].text);
            unit.met.addAll(inType);
            if ((flags & 1) == 1 || (flags & 4) == 4) {
                unit.shown.addAll(inType);
            }
            readAttributes();
        }
        return count;
    }

    private int lookAhead() {
        int value = (int) take(2);
        at -= 2;
        return value;
    }

    private void readAttributes() {
        int count = (int) take(2);
        for (int i = 0; i < count; i++) {
            need(isText(lookAhead()), at);
            at += 2;
            int n = (int) take(4, 0, draft.size() - at - 4);
            at += n;
        }
    }

    int drop(int jar) {
        if (jar < 0 || jar > 4) {
            return -1;
        }
        int before = units.size();
        units.removeIf(unit -> unit.jar == jar);
        return before - units.size();
    }

    int names() {
        return names.size();
    }

    private boolean isName(int name) {
        return name >= 0 && name < names.size();
    }

    int letter(int name, int i) {
        return isName(name) && i >= 0 && i < names.get(name).length() ? names.get(name).charAt(i) : -1;
    }

    private Unit found(String name) {
        Unit best = null;
        for (Unit unit : units) {
            if (unit.self.equals(name) && (best == null || unit.jar < best.jar)) {
                best = unit;
            }
        }
        return best;
    }

    int provider(int name) {
        return isName(name) ? units.indexOf(found(names.get(name))) : -1;
    }

    int file(int c, int which) {
        if (c < 0 || c >= units.size()) {
            return -1;
        }
        Unit unit = units.get(c);
        return switch (which) {
            case 0 -> unit.jar;
            case 1 -> names.indexOf(unit.self);
            case 2 -> names.indexOf(unit.parent);
            case 3 -> unit.flags;
            case 4 -> unit.interfaces;
            case 5 -> unit.fields;
            case 6 -> unit.methods;
            default -> -1;
        };
    }

    private long set(Iterable<String> some) {
        long set = 0;
        for (String name : some) {
            set |= 1L << names.indexOf(name);
        }
        return set;
    }

    long uses(int c, boolean shown) {
        if (c < 0 || c >= units.size()) {
            return 0;
        }
        return set(shown ? units.get(c).shown : units.get(c).used());
    }

    private Set<String> reached(String name) {
        Set<String> reached = new TreeSet<>();
        List<String> todo = new ArrayList<>(List.of(name));
        while (!todo.isEmpty()) {
            String next = todo.remove(todo.size() - 1);
            if (reached.add(next) && found(next) != null) {
                todo.addAll(found(next).used());
            }
        }
        return reached;
    }

    long closure(int name) {
        return isName(name) ? set(reached(names.get(name))) : 0;
    }

    private Set<String> circle(String name) {
        Set<String> circle = new TreeSet<>();
        for (String other : reached(name)) {
            if (reached(other).contains(name)) {
                circle.add(other);
            }
        }
        return circle;
    }

    int component(int name) {
        return isName(name) ? Long.numberOfTrailingZeros(set(circle(names.get(name)))) : -1;
    }

    private int height(String name) {
        if (found(name) == null) {
            return 0;
        }
        Set<String> circle = circle(name);
        int height = 1;
        for (String member : circle) {
            for (String next : found(member).used()) {
                if (!circle.contains(next)) {
                    height = Math.max(height, 1 + height(next));
                }
            }
        }
        return height;
    }

    int layer(int name) {
        return isName(name) ? height(names.get(name)) : -1;
    }

    private static String packageName(String name) {
        return name.contains("/") ? name.substring(0, name.lastIndexOf('/')) : "";
    }

    private int home(String packageName) {
        for (int i = 0; i < names.size(); i++) {
            if (packageName(names.get(i)).equals(packageName)) {
                return i;
            }
        }
        return -1;
    }

    int packageOf(int name) {
        return isName(name) ? home(packageName(names.get(name))) : -1;
    }

    private Set<Integer> jarsOf(String packageName) {
        Set<Integer> jars = new TreeSet<>();
        for (Unit unit : units) {
            if (packageName(unit.self).equals(packageName)) {
                jars.add(unit.jar);
            }
        }
        return jars;
    }

    private static int jarSet(Iterable<Integer> jars) {
        int set = 0;
        for (int jar : jars) {
            set |= 1 << jar;
        }
        return set;
    }

    int jars(int name) {
        return isName(name) ? jarSet(jarsOf(packageName(names.get(name)))) : 0;
    }

    private Set<Integer> linked(int jar, boolean shown) {
        Set<Integer> linked = new TreeSet<>();
        for (Unit unit : units) {
            if (unit.jar == jar) {
                for (String name : shown ? unit.shown : unit.used()) {
                    if (found(name) != null && found(name).jar != jar) {
                        linked.add(found(name).jar);
                    }
                }
            }
        }
        return linked;
    }

    private Set<Integer> read(int jar) {
        Set<Integer> read = new TreeSet<>(linked(jar, false));
        for (boolean growing = true; growing;) {
            Set<Integer> more = new TreeSet<>(read);
            for (int other : read) {
                more.addAll(linked(other, true));
            }
            more.remove(jar);
            growing = more.size() > read.size();
            read = more;
        }
        return read;
    }

    int jar(int jar, int which) {
        if (jar < 0 || jar > 4 || which < 0 || which > 2) {
            return 0;
        }
        return jarSet(which == 2 ? read(jar) : linked(jar, which == 1));
    }

    long exports(int jar) {
        long set = 0;
        for (Unit unit : units) {
            for (String name : unit.used()) {
                Unit target = found(name);
                if (target != null && target.jar == jar && unit.jar != jar) {
                    set |= 1L << home(packageName(name));
                }
            }
        }
        return set;
    }

    private int missing() {
        Set<String> missing = new TreeSet<>();
        for (Unit unit : units) {
            if (found(unit.self) == unit) {
                missing.addAll(unit.used());
            }
        }
        missing.removeIf(name -> found(name) != null);
        return missing.size();
    }

    private boolean comesBack(int jar) {
        Set<Integer> reached = new TreeSet<>();
        List<Integer> todo = new ArrayList<>(linked(jar, false));
        while (!todo.isEmpty()) {
            int next = todo.remove(todo.size() - 1);
            if (reached.add(next)) {
                todo.addAll(linked(next, false));
            }
        }
        return reached.contains(jar);
    }

    int problems(int which) {
        int count = 0;
        switch (which) {
            case 0:
                return missing();
            case 1:
                Set<String> packages = new TreeSet<>();
                units.forEach(unit -> packages.add(packageName(unit.self)));
                for (String each : packages) {
                    count += jarsOf(each).size() > 1 ? 1 : 0;
                }
                return count;
            case 2:
                for (int jar = 0; jar < 5; jar++) {
                    count += comesBack(jar) ? 1 : 0;
                }
                return count;
            case 3:
                for (Unit unit : units) {
                    count += unit.self.indexOf('/') < 0 ? 1 : 0;
                }
                return count;
            case 4:
                for (Unit unit : units) {
                    count += found(unit.self) != unit ? 1 : 0;
                }
                return count;
            default:
                return -1;
        }
    }
}
