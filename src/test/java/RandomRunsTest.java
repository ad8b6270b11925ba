import java.util.Random;

/** Long runs of calls, right and wrong ones, each answered as the reference answers it. */
public final class RandomRunsTest {
    private static final int RUNS = 1500;
    private static final int CALLS = 512;

    private final Checks checks;
    private final int run;
    private final Random random;
    private final RandomClasses classes;
    private final ModuleScanner scanner = new ModuleScanner();
    private final ReferenceScanner reference = new ReferenceScanner();
    private int calls;

    private RandomRunsTest(Checks checks, int run) {
        this.checks = checks;
        this.run = run;
        this.random = new Random(run);
        int[] sizes = {4, 8, 14, 24, 60};
        this.classes = new RandomClasses(random, sizes[run % sizes.length]);
    }

    public static void main(String[] args) {
        Checks checks = new Checks("RandomRunsTest");
        for (int run = 0; run < RUNS; run++) {
            new RandomRunsTest(checks, run).go();
        }
        checks.end();
    }

    private void same(String call, long got, long due) {
        calls++;
        // What an object answers after its last promised call is free.
        if (calls > CALLS) {
            return;
        }
        checks.same("run " + run + " call " + calls + " " + call, got, due);
    }

    private void go() {
        while (calls < CALLS) {
            int lot = random.nextInt(20);
            if (lot < 7) {
                addOne();
            } else if (lot == 7 && random.nextInt(3) == 0) {
                int jar = random.nextInt(7) - 1;
                same("drop(" + jar + ")", scanner.drop(jar), reference.drop(jar));
            } else if (lot == 8 && random.nextInt(4) == 0) {
                int n = random.nextInt(12) - 1;
                long bytes = random.nextLong();
                same("put(" + n + ")", scanner.put(n, bytes) ? 1 : 0, reference.put(n, bytes) ? 1 : 0);
            } else {
                ask();
            }
        }
    }

    private void addOne() {
        boolean right = random.nextInt(3) > 0;
        byte[] bytes = right ? classes.right() : classes.broken();
        if (random.nextInt(10) > 0) {
            scanner.scrap();
            reference.scrap();
            calls++;
        }
        int at = 0;
        while (at < bytes.length) {
            int n = Math.min(random.nextInt(10) == 0 ? 1 + random.nextInt(8) : 8, bytes.length - at);
            long packed = random.nextLong();
            for (int i = 0; i < n; i++) {
                packed = packed << 8 | bytes[at + i] & 255;
            }
            at += n;
            same("put(" + n + ", " + packed + ")", scanner.put(n, packed) ? 1 : 0, reference.put(n, packed) ? 1 : 0);
        }
        // A class file that is refused for its jar may go into the next one.
        for (int tries = 0; tries < 2; tries++) {
            int jar = random.nextInt(40) == 0 ? random.nextInt(9) - 2 : random.nextInt(5);
            same("add(" + jar + ")", scanner.add(jar), reference.add(jar));
            if (random.nextInt(3) > 0) {
                break;
            }
        }
        same("names()", scanner.names(), reference.names());
    }

    private void ask() {
        int name = random.nextInt(reference.names() + 3) - 1;
        int c = random.nextInt(18) - 1;
        int jar = random.nextInt(7) - 1;
        int which = random.nextInt(9) - 1;
        int i = random.nextInt(19) - 1;
        String of = "(" + name + ")";
        switch (random.nextInt(14)) {
            case 0 -> same("letter(" + name + ", " + i + ")", scanner.letter(name, i), reference.letter(name, i));
            case 1 -> same("provider" + of, scanner.provider(name), reference.provider(name));
            case 2 -> same("file(" + c + ", " + which + ")", scanner.file(c, which), reference.file(c, which));
            case 3 -> same("uses(" + c + ", false)", scanner.uses(c, false), reference.uses(c, false));
            case 4 -> same("uses(" + c + ", true)", scanner.uses(c, true), reference.uses(c, true));
            case 5 -> same("closure" + of, scanner.closure(name), reference.closure(name));
            case 6 -> same("component" + of, scanner.component(name), reference.component(name));
            case 7 -> same("layer" + of, scanner.layer(name), reference.layer(name));
            case 8 -> same("packageOf" + of, scanner.packageOf(name), reference.packageOf(name));
            case 9 -> same("jars" + of, scanner.jars(name), reference.jars(name));
            case 10 -> same("exports(" + jar + ")", scanner.exports(jar), reference.exports(jar));
            case 11 -> same("problems(" + which + ")", scanner.problems(which), reference.problems(which));
            default -> same("jar(" + jar + ", " + which + ")", scanner.jar(jar, which % 3), reference.jar(jar, which % 3));
        }
    }
}
