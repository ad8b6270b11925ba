/** Counts and prints the answers that are not the ones that are due. */
final class Checks {
    private final String title;
    private int done;
    private int wrong;

    Checks(String title) {
        this.title = title;
    }

    void same(String what, long got, long due) {
        done++;
        if (got != due) {
            wrong++;
            System.out.println(title + ": " + what + " answered " + got + ", due is " + due);
        }
    }

    void holds(String what, boolean got) {
        same(what, got ? 1 : 0, 1);
    }

    void fails(String what, boolean got) {
        same(what, got ? 1 : 0, 0);
    }

    void end() {
        System.out.println(title + ": " + done + " checks, " + wrong + " wrong");
        if (wrong != 0) {
            System.exit(1);
        }
    }

    /** The set with these numbers. */
    static long set(int... numbers) {
        long set = 0;
        for (int n : numbers) {
            set |= 1L << n;
        }
        return set;
    }

    static void put(ModuleScanner scanner, byte[] bytes) {
        for (int at = 0; at < bytes.length; at += 8) {
            int n = Math.min(8, bytes.length - at);
            long packed = 0;
            for (int i = 0; i < n; i++) {
                packed = packed << 8 | bytes[at + i] & 255;
            }
            if (!scanner.put(n, packed)) {
                throw new IllegalStateException("the draft is too long");
            }
        }
    }

    static int add(ModuleScanner scanner, int jar, byte[] bytes) {
        scanner.scrap();
        put(scanner, bytes);
        return scanner.add(jar);
    }

    static int add(ModuleScanner scanner, int jar, ClassMaker maker) {
        return add(scanner, jar, maker.bytes());
    }

    static String text(ModuleScanner scanner, int name) {
        StringBuilder text = new StringBuilder();
        for (int c = scanner.letter(name, 0); c != ModuleScanner.NONE; c = scanner.letter(name, text.length())) {
            text.append((char) c);
        }
        return text.toString();
    }

    static String allNames(ModuleScanner scanner) {
        StringBuilder all = new StringBuilder();
        for (int name = 0; name < scanner.names(); name++) {
            all.append(name == 0 ? "" : " ").append(text(scanner, name));
        }
        return all.toString();
    }

    void names(String what, ModuleScanner scanner, String due) {
        String got = allNames(scanner);
        if (!got.equals(due)) {
            System.out.println(title + ": the names are '" + got + "', due is '" + due + "'");
        }
        holds(what, got.equals(due));
    }
}
