/**
 * Reads class files byte by byte, refuses wrong ones with the place of the fault, and tells for
 * jars of them who uses whom: closures, components and layers of classes, what each jar must
 * require, read and export, and what is wrong with them.
 */
public final class ModuleScanner {
    public static final int NONE = -1;

    private static final int MOST_BYTES = 400;
    private static final int MOST_ENTRIES = 64;
    // A field or a method takes at least 8 bytes.
    private static final int MOST_MEMBERS = MOST_BYTES / 8;
    private static final int MOST_NAMES = 48;
    private static final int LONGEST_NAME = 16;
    private static final int MOST_FILES = 16;
    private static final int JARS = 5;

    private static final int FIRST_FAULT = -2;
    private static final int TWICE_IN_JAR = -1000;
    private static final int TOO_MANY_NAMES = -1001;

    private static final int MAGIC = 0xCAFEBABE;
    private static final int OLDEST = 45;
    private static final int NEWEST = 65;

    private static final int TEXT = 1;
    private static final int CLASS = 7;
    private static final int PAIR = 12;

    private static final int CLASS_NAME = 1;
    private static final int TYPE = 2;
    private static final int ARRAY_TYPE = 4;
    private static final int METHOD_TYPE = 8;

    private static final int PUBLIC = 1;
    private static final int PROTECTED = 4;

    private final ClassReader reader;
    private final NameTable table;
    private final Shelf shelf;
    private final JarMap jarMap;

    public ModuleScanner() {
        reader = new ClassReader();
        table = new NameTable();
        shelf = new Shelf();
        jarMap = new JarMap();
    }

    public boolean put(int n, long bytes) {
        return reader.draft.append(n, bytes);
    }

    public void scrap() {
        reader.draft.clear();
    }

    public int add(int jar) {
        if (!isJar(jar) || shelf.count >= MOST_FILES) {
            return NONE;
        }
        int fault = reader.readAll();
        if (fault != NONE) {
            reader.draft.clear();
            return FIRST_FAULT - fault;
        }
        if (shelf.holds(jar, ownName())) {
            return TWICE_IN_JAR;
        }
        int namesBefore = table.count;
        fill(shelf.files[shelf.count], jar);
        if (table.overflowed) {
            table.forgetFrom(namesBefore);
            return TOO_MANY_NAMES;
        }
        reader.draft.clear();
        shelf.count++;
        settle();
        return shelf.count - 1;
    }

    public int drop(int jar) {
        if (!isJar(jar)) {
            return NONE;
        }
        int gone = shelf.takeOut(jar);
        settle();
        return gone;
    }

    public int names() {
        return table.count;
    }

    public int letter(int name, int i) {
        return table.letterOf(name, i);
    }

    public int provider(int name) {
        return shelf.foundAs(name);
    }

    public int file(int c, int which) {
        if (!isFile(c)) {
            return NONE;
        }
        ClassFile f = shelf.files[c];
        switch (which) {
            case 0:
                return f.inJar;
            case 1:
                return f.self;
            case 2:
                return f.parent;
            case 3:
                return f.flags;
            case 4:
                return f.interfaces;
            case 5:
                return f.fields;
            case 6:
                return f.methods;
            default:
                return NONE;
        }
    }

    public long uses(int c, boolean shown) {
        if (!isFile(c)) {
            return 0;
        }
        return shown ? shelf.files[c].shown : shelf.files[c].used;
    }

    public long closure(int name) {
        if (!table.isName(name)) {
            return 0;
        }
        int c = shelf.foundAs(name);
        return c == NONE ? 1L << name : shelf.reached[c];
    }

    public int component(int name) {
        if (!table.isName(name)) {
            return NONE;
        }
        int c = shelf.foundAs(name);
        return c == NONE ? name : Long.numberOfTrailingZeros(shelf.circles[c]);
    }

    public int layer(int name) {
        if (!table.isName(name)) {
            return NONE;
        }
        int c = shelf.foundAs(name);
        return c == NONE ? 0 : shelf.heights[c];
    }

    public int packageOf(int name) {
        return table.homeOf(name);
    }

    public int jars(int name) {
        return table.isName(name) ? jarsWithPackage(table.homeOf(name)) : 0;
    }

    public int jar(int jar, int which) {
        if (!isJar(jar)) {
            return 0;
        }
        switch (which) {
            case 0:
                return jarMap.needed[jar];
            case 1:
                return jarMap.offered[jar];
            case 2:
                return jarMap.readBy(jar);
            default:
                return 0;
        }
    }

    public long exports(int jar) {
        if (!isJar(jar)) {
            return 0;
        }
        long wanted = jarMap.wantedFrom(jar);
        long homes = 0;
        for (int name = 0; name < table.count; name++) {
            if (contains(wanted, name)) {
                homes |= 1L << table.homeOf(name);
            }
        }
        return homes;
    }

    public int problems(int which) {
        switch (which) {
            case 0:
                return Long.bitCount(shelf.missing());
            case 1:
                return splitPackages();
            case 2:
                return jarMap.circling();
            case 3:
                return filesWithoutPackage();
            case 4:
                return shelf.hidden();
            default:
                return NONE;
        }
    }

    private static boolean isJar(int jar) {
        return jar >= 0 && jar < JARS;
    }

    private static boolean contains(long set, int n) {
        return (set >>> n & 1) != 0;
    }

    private boolean isFile(int c) {
        return c >= 0 && c < shelf.count;
    }

    private int ownName() {
        int text = reader.pool.firstOf(reader.self);
        return table.numberOf(reader.draft, reader.pool.firstOf(text), reader.pool.secondOf(text));
    }

    /** The order of the meetings here is the order in which new names get their numbers. */
    private void fill(ClassFile f, int jar) {
        table.overflowed = false;
        f.inJar = jar;
        f.self = meetClass(reader.self);
        f.used = meetPool();
        f.shown = 0;
        meetMembers(f);
        f.parent = reader.parent == 0 ? NONE : meetClass(reader.parent);
        f.shown |= setOf(f.parent) | interfaceNames();
        f.flags = reader.flags;
        f.interfaces = reader.interfaces;
        f.fields = reader.fields;
        f.methods = reader.members - reader.fields;
        f.used &= ~setOf(f.self);
        f.shown &= (f.flags & PUBLIC) != 0 ? f.used : 0;
    }

    private static long setOf(int name) {
        return name == NONE ? 0 : 1L << name;
    }

    private int meetClass(int entry) {
        int text = reader.pool.firstOf(entry);
        return table.meet(reader.draft, reader.pool.firstOf(text), reader.pool.secondOf(text));
    }

    private long meetPool() {
        Pool pool = reader.pool;
        long met = 0;
        for (int entry = 1; entry < pool.size; entry++) {
            if (pool.isNamedClass(entry)) {
                met |= setOf(meetClass(entry));
            } else if (pool.kindOf(entry) == CLASS) {
                met |= table.meetTypes(reader.draft, pool, pool.firstOf(entry));
            }
        }
        for (int entry = 1; entry < pool.size; entry++) {
            if (pool.kindOf(entry) == PAIR) {
                met |= table.meetTypes(reader.draft, pool, pool.secondOf(entry));
            }
        }
        return met;
    }

    private void meetMembers(ClassFile f) {
        for (int m = 0; m < reader.members; m++) {
            long met = table.meetTypes(reader.draft, reader.pool, reader.memberTypes[m]);
            f.used |= met;
            if ((reader.memberFlags[m] & (PUBLIC | PROTECTED)) != 0) {
                f.shown |= met;
            }
        }
    }

    private long interfaceNames() {
        long met = 0;
        for (int i = 0; i < reader.interfaces; i++) {
            met |= setOf(meetClass(reader.draft.number(reader.interfacesAt + 2 * i, 2)));
        }
        return met;
    }

    private void settle() {
        shelf.settle();
        jarMap.settle(shelf);
    }

    private int jarsWithPackage(int home) {
        int set = 0;
        for (int c = 0; c < shelf.count; c++) {
            if (table.homeOf(shelf.files[c].self) == home) {
                set |= 1 << shelf.files[c].inJar;
            }
        }
        return set;
    }

    private int splitPackages() {
        int split = 0;
        for (int name = 0; name < table.count; name++) {
            if (table.homeOf(name) == name && Integer.bitCount(jarsWithPackage(name)) > 1) {
                split++;
            }
        }
        return split;
    }

    private int filesWithoutPackage() {
        int bare = 0;
        for (int c = 0; c < shelf.count; c++) {
            if (table.hasEmptyPackage(shelf.files[c].self)) {
                bare++;
            }
        }
        return bare;
    }

    /** The bytes that were put and are not yet a class file. */
    private static final class Draft {
        private final int[] bytes = new int[MOST_BYTES];
        int length;

        boolean append(int n, long source) {
            if (n < 1 || n > 8 || length + n > MOST_BYTES) {
                return false;
            }
            for (int left = n - 1; left >= 0; left--) {
                bytes[length] = (int) (source >>> 8 * left) & 255;
                length++;
            }
            return true;
        }

        void clear() {
            length = 0;
        }

        int byteAt(int place) {
            return place >= 0 && place < length ? bytes[place] : 0;
        }

        /** A number of 4 bytes from 2147483648 on comes out below 0. */
        int number(int place, int size) {
            if (place < 0 || length - place < size) {
                return 0;
            }
            int value = 0;
            for (int i = 0; i < size; i++) {
                value = value << 8 | bytes[place + i];
            }
            return value;
        }

        boolean hasAt(int place, int[] row, int from, int many) {
            if (place < 0 || length - place < many || from < 0 || row.length - from < many) {
                return false;
            }
            for (int i = 0; i < many; i++) {
                if (bytes[place + i] != row[from + i]) {
                    return false;
                }
            }
            return true;
        }
    }

    /** What a text can be, told from its bytes in the draft. */
    private static final class Grammar {
        static boolean isClassName(Draft draft, int from, int to) {
            if (to - from > LONGEST_NAME) {
                return false;
            }
            boolean inPart = false;
            for (int at = from; at < to; at++) {
                int c = draft.byteAt(at);
                boolean slash = c == '/';
                if (slash ? !inPart : !isNameLetter(c)) {
                    return false;
                }
                inPart = !slash;
            }
            return inPart;
        }

        private static boolean isNameLetter(int c) {
            return c >= 'a' && c <= 'z' || c >= 'A' && c <= 'Z' || c >= '0' && c <= '9'
                    || c == '_' || c == '$';
        }

        /** The place behind the type that begins at from, NONE if none does. */
        static int typeEnd(Draft draft, int from, int to) {
            int at = from;
            while (at < to && draft.byteAt(at) == '[') {
                at++;
            }
            if (at >= to) {
                return NONE;
            }
            if (draft.byteAt(at) != 'L') {
                return isPlainType(draft.byteAt(at)) ? at + 1 : NONE;
            }
            int end = at + 1;
            while (end < to && draft.byteAt(end) != ';') {
                end++;
            }
            return end < to && isClassName(draft, at + 1, end) ? end + 1 : NONE;
        }

        private static boolean isPlainType(int c) {
            switch (c) {
                case 'B':
                case 'C':
                case 'D':
                case 'F':
                case 'I':
                case 'J':
                case 'S':
                case 'Z':
                    return true;
                default:
                    return false;
            }
        }

        static boolean isMethodType(Draft draft, int from, int to) {
            if (from >= to || draft.byteAt(from) != '(') {
                return false;
            }
            int at = from + 1;
            // Each type takes a byte or more, so there are fewer of them than bytes.
            for (int types = from; types < to; types++) {
                if (at == NONE || at >= to || draft.byteAt(at) == ')') {
                    break;
                }
                at = typeEnd(draft, at, to);
            }
            if (at == NONE || at >= to || draft.byteAt(at) != ')') {
                return false;
            }
            boolean isVoid = to - at == 2 && draft.byteAt(at + 1) == 'V';
            return isVoid || typeEnd(draft, at + 1, to) == to;
        }
    }

    /** The entries of the class file that is being read. */
    private static final class Pool {
        private final int[] kinds = new int[MOST_ENTRIES];
        private final int[] places = new int[MOST_ENTRIES];
        // Of a text the place of its first byte and the place behind it; else its items of 2.
        private final int[] firsts = new int[MOST_ENTRIES];
        private final int[] seconds = new int[MOST_ENTRIES];
        private final int[] shapes = new int[MOST_ENTRIES];
        int size;

        void begin(int entries) {
            size = entries >= 0 && entries <= MOST_ENTRIES ? entries : 0;
            for (int entry = 0; entry < size; entry++) {
                kinds[entry] = 0;
            }
        }

        boolean isNumber(int entry) {
            return entry >= 1 && entry < size;
        }

        void open(int entry, int kind, int place) {
            if (isNumber(entry)) {
                kinds[entry] = kind;
                places[entry] = place;
                shapes[entry] = 0;
            }
        }

        void hold(int entry, int first, int second) {
            if (isNumber(entry)) {
                firsts[entry] = first;
                seconds[entry] = second;
            }
        }

        /** 0, which is no kind, for a number that is no entry. */
        int kindOf(int entry) {
            return isNumber(entry) ? kinds[entry] : 0;
        }

        int placeOf(int entry) {
            return isNumber(entry) ? places[entry] : 0;
        }

        int firstOf(int entry) {
            return isNumber(entry) ? firsts[entry] : 0;
        }

        int secondOf(int entry) {
            return isNumber(entry) ? seconds[entry] : 0;
        }

        /** So that a text that is pointed at often is looked through once. */
        void shapeTexts(Draft draft) {
            for (int entry = 1; entry < size; entry++) {
                int from = firsts[entry];
                int to = seconds[entry];
                if (kinds[entry] != TEXT) {
                    continue;
                }
                if (Grammar.isClassName(draft, from, to)) {
                    shapes[entry] |= CLASS_NAME;
                }
                if (Grammar.typeEnd(draft, from, to) == to) {
                    shapes[entry] |= draft.byteAt(from) == '[' ? TYPE | ARRAY_TYPE : TYPE;
                }
                if (Grammar.isMethodType(draft, from, to)) {
                    shapes[entry] |= METHOD_TYPE;
                }
            }
        }

        boolean isText(int entry) {
            return kindOf(entry) == TEXT;
        }

        boolean isFilledText(int entry) {
            return kindOf(entry) == TEXT && firsts[entry] < seconds[entry];
        }

        boolean isTextLike(int entry, int wanted) {
            return kindOf(entry) == TEXT && (shapes[entry] & wanted) != 0;
        }

        boolean isNamedClass(int entry) {
            return kindOf(entry) == CLASS && isTextLike(firsts[entry], CLASS_NAME);
        }

        static boolean isWide(int kind) {
            return kind == 5 || kind == 6;
        }

        boolean isSecondHalf(int entry) {
            return isWide(kindOf(entry - 1));
        }
    }

    /** Goes through the draft item by item; behind the first fault it reads no further. */
    private static final class ClassReader {
        final Draft draft = new Draft();
        private int at;
        private int fault;
        final Pool pool = new Pool();
        int flags;
        int self;
        int parent;
        int interfaces;
        int interfacesAt;
        int fields;
        // Fields and methods together, the fields first.
        int members;
        final int[] memberFlags = new int[MOST_MEMBERS];
        final int[] memberTypes = new int[MOST_MEMBERS];

        /** The place at which the draft is wrong, NONE when it is not. */
        int readAll() {
            at = 0;
            fault = NONE;
            members = 0;
            readHead();
            readPool();
            if (fault == NONE) {
                pool.shapeTexts(draft);
            }
            checkPool();
            readClass();
            readMembers(TYPE);
            fields = members;
            readMembers(METHOD_TYPE);
            readAttributes();
            demand(at == draft.length, at);
            return fault;
        }

        private int item(int size) {
            if (fault != NONE) {
                return 0;
            }
            if (draft.length - at < size) {
                fault = at;
                return 0;
            }
            at += size;
            return draft.number(at - size, size);
        }

        private void demand(boolean right, int place) {
            if (!right && fault == NONE) {
                fault = place;
            }
        }

        private void readHead() {
            demand(item(4) == MAGIC, 0);
            item(2);
            int place = at;
            int version = item(2);
            demand(version >= OLDEST && version <= NEWEST, place);
        }

        private void readPool() {
            int place = at;
            int entries = item(2);
            demand(entries >= 1 && entries <= MOST_ENTRIES, place);
            pool.begin(entries);
            for (int entry = 1; entry < pool.size && fault == NONE; entry++) {
                if (!pool.isSecondHalf(entry)) {
                    readEntry(entry);
                }
            }
        }

        private void readEntry(int entry) {
            int place = at;
            int kind = item(1);
            demand(!Pool.isWide(kind) || pool.isNumber(entry + 1), place);
            pool.open(entry, kind, place);
            switch (kind) {
                case TEXT:
                    readText(entry);
                    break;
                case 3:
                case 4:
                    item(4);
                    break;
                case 5:
                case 6:
                    item(4);
                    item(4);
                    break;
                case CLASS:
                case 8:
                    pool.hold(entry, item(2), 0);
                    break;
                case 9:
                case 10:
                case 11:
                case PAIR:
                    pool.hold(entry, item(2), item(2));
                    break;
                default:
                    demand(false, place);
                    break;
            }
        }

        private void readText(int entry) {
            int length = item(2);
            int from = at;
            for (int i = 0; i < length && fault == NONE; i++) {
                int place = at;
                int c = item(1);
                demand(c >= 1 && c <= 127, place);
            }
            pool.hold(entry, from, at);
        }

        private void checkPool() {
            for (int entry = 1; entry < pool.size && fault == NONE; entry++) {
                checkEntry(entry);
            }
        }

        private void checkEntry(int entry) {
            int first = pool.firstOf(entry);
            int second = pool.secondOf(entry);
            int firstPlace = pool.placeOf(entry) + 1;
            int secondPlace = firstPlace + 2;
            switch (pool.kindOf(entry)) {
                case CLASS:
                    demand(pool.isTextLike(first, CLASS_NAME | ARRAY_TYPE), firstPlace);
                    break;
                case 8:
                    demand(pool.isText(first), firstPlace);
                    break;
                case 9:
                case 10:
                case 11:
                    demand(pool.kindOf(first) == CLASS, firstPlace);
                    demand(pool.kindOf(second) == PAIR, secondPlace);
                    break;
                case PAIR:
                    demand(pool.isFilledText(first), firstPlace);
                    demand(pool.isTextLike(second, TYPE | METHOD_TYPE), secondPlace);
                    break;
                default:
                    break;
            }
        }

        private void readClass() {
            flags = item(2);
            int place = at;
            self = item(2);
            demand(pool.isNamedClass(self), place);
            place = at;
            parent = item(2);
            demand(parent == 0 || pool.isNamedClass(parent), place);
            interfaces = item(2);
            interfacesAt = at;
            for (int i = 0; i < interfaces && fault == NONE; i++) {
                place = at;
                demand(pool.isNamedClass(item(2)), place);
            }
        }

        private void readMembers(int wantedType) {
            int count = item(2);
            for (int i = 0; i < count && fault == NONE; i++) {
                int memberFlag = item(2);
                int place = at;
                demand(pool.isText(item(2)), place);
                place = at;
                int type = item(2);
                demand(pool.isTextLike(type, wantedType), place);
                keepMember(memberFlag, type);
                readAttributes();
            }
        }

        private void keepMember(int memberFlag, int type) {
            if (fault == NONE && members < MOST_MEMBERS) {
                memberFlags[members] = memberFlag;
                memberTypes[members] = type;
                members++;
            }
        }

        private void readAttributes() {
            int count = item(2);
            for (int i = 0; i < count && fault == NONE; i++) {
                int place = at;
                demand(pool.isText(item(2)), place);
                place = at;
                int n = item(4);
                // Below 0 is a number of 4 bytes that is too great for any draft.
                demand(n >= 0 && n <= draft.length - at, place);
                if (fault == NONE) {
                    at += n;
                }
            }
        }
    }

    /** The names that were met, with the packages that they are in. */
    private static final class NameTable {
        private final int[] letters = new int[MOST_NAMES * LONGEST_NAME];
        private final int[] lengths = new int[MOST_NAMES];
        private final int[] packageLengths = new int[MOST_NAMES];
        // The least name in the package of each.
        private final int[] homes = new int[MOST_NAMES];
        int count;
        boolean overflowed;

        boolean isName(int name) {
            return name >= 0 && name < count;
        }

        int letterOf(int name, int i) {
            if (!isName(name) || i < 0 || i >= lengths[name]) {
                return NONE;
            }
            return letters[name * LONGEST_NAME + i];
        }

        int homeOf(int name) {
            return isName(name) ? homes[name] : NONE;
        }

        boolean hasEmptyPackage(int name) {
            return isName(name) && packageLengths[name] == 0;
        }

        int numberOf(Draft draft, int from, int to) {
            for (int name = 0; name < count; name++) {
                int start = name * LONGEST_NAME;
                if (lengths[name] == to - from && draft.hasAt(from, letters, start, to - from)) {
                    return name;
                }
            }
            return NONE;
        }

        /** The number of the name that stands there, NONE when it would be one too many. */
        int meet(Draft draft, int from, int to) {
            int known = numberOf(draft, from, to);
            if (known != NONE) {
                return known;
            }
            if (count >= MOST_NAMES || to - from > LONGEST_NAME) {
                overflowed = true;
                return NONE;
            }
            write(draft, from, to);
            count++;
            homes[count - 1] = findHome(count - 1);
            return count - 1;
        }

        private void write(Draft draft, int from, int to) {
            lengths[count] = to - from;
            packageLengths[count] = 0;
            for (int i = 0; i < to - from; i++) {
                int c = draft.byteAt(from + i);
                letters[count * LONGEST_NAME + i] = c;
                if (c == '/') {
                    packageLengths[count] = i;
                }
            }
        }

        private int findHome(int name) {
            for (int other = 0; other < name; other++) {
                if (isSamePackage(other, name)) {
                    return other;
                }
            }
            return name;
        }

        private boolean isSamePackage(int a, int b) {
            if (packageLengths[a] != packageLengths[b]) {
                return false;
            }
            for (int i = 0; i < packageLengths[a]; i++) {
                if (letters[a * LONGEST_NAME + i] != letters[b * LONGEST_NAME + i]) {
                    return false;
                }
            }
            return true;
        }

        /** The names in a text that has been found to be a type or a method type. */
        long meetTypes(Draft draft, Pool pool, int text) {
            int to = pool.secondOf(text);
            long met = 0;
            // Behind the L of a class name the place where it begins.
            int open = NONE;
            for (int at = pool.firstOf(text); at < to; at++) {
                int c = draft.byteAt(at);
                if (open == NONE) {
                    open = c == 'L' ? at + 1 : NONE;
                } else if (c == ';') {
                    met |= setOf(meet(draft, open, at));
                    open = NONE;
                }
            }
            return met;
        }

        void forgetFrom(int first) {
            count = first;
        }
    }

    private static final class ClassFile {
        int inJar;
        int self;
        int parent;
        int flags;
        int interfaces;
        int fields;
        int methods;
        long used;
        long shown;
    }

    /** The class files of all jars, and what follows from them for names. */
    private static final class Shelf {
        final ClassFile[] files = new ClassFile[MOST_FILES];
        int count;
        private final int[] providers = new int[MOST_NAMES];
        // For class files that are found: their closure, their component and their layer.
        final long[] reached = new long[MOST_FILES];
        final long[] circles = new long[MOST_FILES];
        final int[] heights = new int[MOST_FILES];

        Shelf() {
            for (int c = 0; c < MOST_FILES; c++) {
                files[c] = new ClassFile();
            }
            for (int name = 0; name < MOST_NAMES; name++) {
                providers[name] = NONE;
            }
        }

        boolean holds(int inJar, int name) {
            for (int c = 0; c < count; c++) {
                if (files[c].inJar == inJar && files[c].self == name) {
                    return true;
                }
            }
            return false;
        }

        /** Those that go are kept behind those that stay, to be filled again. */
        int takeOut(int fromJar) {
            int kept = 0;
            for (int c = 0; c < count; c++) {
                ClassFile f = files[c];
                if (f.inJar != fromJar) {
                    files[c] = files[kept];
                    files[kept] = f;
                    kept++;
                }
            }
            int gone = count - kept;
            count = kept;
            return gone;
        }

        int foundAs(int name) {
            return name >= 0 && name < MOST_NAMES ? providers[name] : NONE;
        }

        boolean isFound(int c) {
            return foundAs(files[c].self) == c;
        }

        void settle() {
            settleProviders();
            settleReached();
            settleCircles();
            settleHeights();
        }

        private void settleProviders() {
            for (int name = 0; name < MOST_NAMES; name++) {
                providers[name] = NONE;
            }
            for (int c = 0; c < count; c++) {
                int name = files[c].self;
                int other = foundAs(name);
                if (other == NONE || files[c].inJar < files[other].inJar) {
                    providers[name] = c;
                }
            }
        }

        private void settleReached() {
            for (int c = 0; c < count; c++) {
                reached[c] = isFound(c) ? files[c].used | 1L << files[c].self : 0;
            }
            // Each class file in turn is let in as a stop on the way.
            for (int stop = 0; stop < count; stop++) {
                if (isFound(stop)) {
                    reachThrough(stop);
                }
            }
        }

        private void reachThrough(int stop) {
            for (int c = 0; c < count; c++) {
                if (reaches(c, stop)) {
                    reached[c] |= reached[stop];
                }
            }
        }

        private boolean reaches(int c, int other) {
            return contains(reached[c], files[other].self);
        }

        private void settleCircles() {
            for (int c = 0; c < count; c++) {
                circles[c] = 0;
                for (int other = 0; other < count; other++) {
                    if (reaches(c, other) && reaches(other, c)) {
                        circles[c] |= 1L << files[other].self;
                    }
                }
            }
        }

        private void settleHeights() {
            for (int c = 0; c < count; c++) {
                heights[c] = isFound(c) ? 1 : 0;
            }
            boolean rising = true;
            // No chain of components is longer than there are class files.
            for (int round = 0; round < count && rising; round++) {
                rising = raiseHeights();
            }
        }

        private boolean raiseHeights() {
            boolean rising = false;
            for (int c = 0; c < count; c++) {
                int height = isFound(c) ? 1 + highestBelow(c) : 0;
                if (height > heights[c]) {
                    heights[c] = height;
                    rising = true;
                }
            }
            return rising;
        }

        /**
         * Looks at all that is reached, not only at what is one edge off: what is further off is
         * never higher.
         */
        private int highestBelow(int c) {
            long below = reached[c] & ~circles[c];
            int highest = 0;
            for (int other = 0; other < count; other++) {
                if (contains(below, files[other].self)) {
                    highest = Math.max(highest, heights[other]);
                }
            }
            return highest;
        }

        long missing() {
            long wanted = 0;
            long found = 0;
            for (int c = 0; c < count; c++) {
                if (isFound(c)) {
                    wanted |= files[c].used;
                    found |= 1L << files[c].self;
                }
            }
            return wanted & ~found;
        }

        int hidden() {
            int hidden = 0;
            for (int c = 0; c < count; c++) {
                if (!isFound(c)) {
                    hidden++;
                }
            }
            return hidden;
        }
    }

    /** What follows from the class files for jars. */
    private static final class JarMap {
        // Names, for each jar: those that are found in it, and those that its class files use
        // and show.
        private final long[] found = new long[JARS];
        private final long[] used = new long[JARS];
        private final long[] shown = new long[JARS];
        final int[] needed = new int[JARS];
        final int[] offered = new int[JARS];

        void settle(Shelf shelf) {
            for (int j = 0; j < JARS; j++) {
                found[j] = 0;
                used[j] = 0;
                shown[j] = 0;
            }
            for (int c = 0; c < shelf.count; c++) {
                ClassFile f = shelf.files[c];
                found[f.inJar] |= shelf.isFound(c) ? 1L << f.self : 0;
                used[f.inJar] |= f.used;
                shown[f.inJar] |= f.shown;
            }
            for (int j = 0; j < JARS; j++) {
                needed[j] = othersWith(j, used[j]);
                offered[j] = othersWith(j, shown[j]);
            }
        }

        private int othersWith(int self, long wanted) {
            int others = 0;
            for (int j = 0; j < JARS; j++) {
                if (j != self && (found[j] & wanted) != 0) {
                    others |= 1 << j;
                }
            }
            return others;
        }

        int readBy(int self) {
            return spread(needed[self], offered) & ~(1 << self);
        }

        /** How many jars come back to themselves. */
        int circling() {
            int circling = 0;
            for (int j = 0; j < JARS; j++) {
                if (contains(spread(needed[j], needed), j)) {
                    circling++;
                }
            }
            return circling;
        }

        private static int spread(int start, int[] next) {
            int set = start;
            for (int round = 0; round < JARS; round++) {
                for (int j = 0; j < JARS; j++) {
                    if (contains(set, j)) {
                        set |= next[j];
                    }
                }
            }
            return set;
        }

        long wantedFrom(int self) {
            long wanted = 0;
            for (int j = 0; j < JARS; j++) {
                if (j != self) {
                    wanted |= used[j];
                }
            }
            return wanted & found[self];
        }
    }
}
