/** Promises 11 to 13: closures, components and layers. */
public final class GraphTest {
    private static final Checks CHECKS = new Checks("GraphTest");

    public static void main(String[] args) {
        aChain();
        aCircle();
        twoCirclesInARow();
        onlyFoundClassFilesHaveEdges();
        layersOfWaysOfDifferentLength();
        aNameAlone();
        layersWithoutEdgesOut();
        itselfIsNoEdge();
        sixteenInAChain();
        sixteenInACircle();
        CHECKS.end();
    }

    private static void use(ModuleScanner s, int jar, String name, String... used) {
        int answer = Checks.add(s, jar, new ClassMaker(name).using(used));
        if (answer < 0) {
            throw new IllegalStateException(name + " was refused: " + answer);
        }
    }

    private static void ask(ModuleScanner s, int name, long closure, int component, int layer) {
        CHECKS.same("closure(" + name + ")", s.closure(name), closure);
        CHECKS.same("component(" + name + ")", s.component(name), component);
        CHECKS.same("layer(" + name + ")", s.layer(name), layer);
    }

    /** "The set of a name and all names that are reached from it by edges". */
    private static void aChain() {
        ModuleScanner s = new ModuleScanner();
        use(s, 0, "A", "B");
        ask(s, 0, Checks.set(0, 1), 0, 1);
        ask(s, 1, Checks.set(1), 1, 0);
        use(s, 0, "B", "C");
        use(s, 1, "C", "D");
        ask(s, 0, Checks.set(0, 1, 2, 3), 0, 3);
        ask(s, 1, Checks.set(1, 2, 3), 1, 2);
        ask(s, 2, Checks.set(2, 3), 2, 1);
        ask(s, 3, Checks.set(3), 3, 0);
        use(s, 0, "E");
        ask(s, 4, Checks.set(4), 4, 1);
        s.drop(1);
        ask(s, 0, Checks.set(0, 1, 2), 0, 2);
        ask(s, 2, Checks.set(2), 2, 0);
        ask(s, 3, Checks.set(3), 3, 0);
    }

    /** "The least of the names n for which name and n are reached from one another". */
    private static void aCircle() {
        ModuleScanner s = new ModuleScanner();
        use(s, 0, "X", "A");
        use(s, 0, "C", "A", "Y");
        use(s, 1, "B", "C");
        use(s, 2, "A", "B");
        // The names are X 0, A 1, C 2, Y 3, B 4.
        ask(s, 0, Checks.set(0, 1, 2, 3, 4), 0, 2);
        ask(s, 1, Checks.set(1, 2, 3, 4), 1, 1);
        ask(s, 2, Checks.set(1, 2, 3, 4), 1, 1);
        ask(s, 4, Checks.set(1, 2, 3, 4), 1, 1);
        ask(s, 3, Checks.set(3), 3, 0);
        use(s, 1, "Y");
        ask(s, 0, Checks.set(0, 1, 2, 3, 4), 0, 3);
        ask(s, 1, Checks.set(1, 2, 3, 4), 1, 2);
        ask(s, 4, Checks.set(1, 2, 3, 4), 1, 2);
        ask(s, 3, Checks.set(3), 3, 1);
        s.drop(2);
        ask(s, 0, Checks.set(0, 1), 0, 1);
        ask(s, 1, Checks.set(1), 1, 0);
        ask(s, 2, Checks.set(1, 2, 3), 2, 2);
        ask(s, 4, Checks.set(1, 2, 3, 4), 4, 3);
    }

    private static void twoCirclesInARow() {
        ModuleScanner s = new ModuleScanner();
        use(s, 0, "A", "B");
        use(s, 0, "B", "A", "C");
        use(s, 0, "C", "D");
        use(s, 0, "D", "C", "E");
        use(s, 0, "E");
        for (int name = 0; name < 2; name++) {
            ask(s, name, 31, 0, 3);
        }
        for (int name = 2; name < 4; name++) {
            ask(s, name, 28, 2, 2);
        }
        ask(s, 4, 16, 4, 1);
    }

    /** "EDGES go to the names that the class file it is found as uses." */
    private static void onlyFoundClassFilesHaveEdges() {
        ModuleScanner s = new ModuleScanner();
        use(s, 2, "A", "B");
        use(s, 2, "B", "A");
        ask(s, 0, 3, 0, 1);
        // Another A stands before the one that uses B.
        use(s, 1, "A", "C");
        ask(s, 0, Checks.set(0, 2), 0, 1);
        ask(s, 1, Checks.set(0, 1, 2), 1, 2);
        use(s, 3, "C", "B");
        ask(s, 0, Checks.set(0, 1, 2), 0, 1);
        ask(s, 1, Checks.set(0, 1, 2), 0, 1);
        ask(s, 2, Checks.set(0, 1, 2), 0, 1);
        use(s, 0, "C");
        ask(s, 0, Checks.set(0, 2), 0, 2);
        ask(s, 1, Checks.set(0, 1, 2), 1, 3);
        ask(s, 2, Checks.set(2), 2, 1);
    }

    /** "1 + the greatest layer of names to which edges go from names of its component". */
    private static void layersOfWaysOfDifferentLength() {
        ModuleScanner s = new ModuleScanner();
        use(s, 0, "A", "D", "B", "Z");
        use(s, 0, "B", "D", "C");
        use(s, 0, "C", "D");
        use(s, 0, "D");
        CHECKS.names("names", s, "A D B Z C");
        CHECKS.same("the longest way counts", s.layer(0), 4);
        CHECKS.same("the next", s.layer(2), 3);
        CHECKS.same("the one behind", s.layer(4), 2);
        CHECKS.same("the last", s.layer(1), 1);
        CHECKS.same("a missing one", s.layer(3), 0);
        // From a circle the edges of all its names count.
        use(s, 1, "P", "Q");
        use(s, 1, "Q", "P", "A");
        CHECKS.same("above A by its fellow", s.layer(5), 5);
        CHECKS.same("above A itself", s.layer(6), 5);
    }

    /** "0 for a name that is not found", "(name itself is one of them)". */
    private static void aNameAlone() {
        ModuleScanner s = new ModuleScanner();
        use(s, 2, "A", "B");
        ask(s, 1, Checks.set(1), 1, 0);
        s.drop(2);
        ask(s, 0, Checks.set(0), 0, 0);
        ask(s, 1, Checks.set(1), 1, 0);
        use(s, 2, "A");
        ask(s, 0, Checks.set(0), 0, 1);
    }

    /** "(1 when there are none)": no edges at all, or none that leave the component. */
    private static void layersWithoutEdgesOut() {
        ModuleScanner s = new ModuleScanner();
        use(s, 0, "A");
        ask(s, 0, Checks.set(0), 0, 1);
        use(s, 0, "B", "C");
        CHECKS.same("an edge to a name that is not found", s.layer(1), 1);
        use(s, 0, "C", "B");
        ask(s, 1, Checks.set(1, 2), 1, 1);
        ask(s, 2, Checks.set(1, 2), 1, 1);
        use(s, 1, "C", "A");
        ask(s, 2, Checks.set(1, 2), 1, 1);
        use(s, 2, "D", "C", "A");
        CHECKS.same("above a circle and one alone", s.layer(3), 2);
    }

    /** A class file does not use its own name, so no edge goes from a name to itself. */
    private static void itselfIsNoEdge() {
        ModuleScanner s = new ModuleScanner();
        Checks.add(s, 0, new ClassMaker("A").parent("A").field(1, "LA;").pair("x", "()LA;"));
        ask(s, 0, Checks.set(0), 0, 1);
    }

    private static String nth(int n) {
        return "c/" + (char) ('A' + n);
    }

    /** As many layers as there may be. */
    private static void sixteenInAChain() {
        for (int turn = 0; turn < 2; turn++) {
            ModuleScanner s = new ModuleScanner();
            for (int i = 0; i < 16; i++) {
                int n = turn == 0 ? i : 15 - i;
                use(s, i % 5, nth(n), nth(n + 1));
            }
            int first = turn == 0 ? 0 : 15 + 1;
            CHECKS.same("the highest layer", s.layer(first), 16);
            CHECKS.same("all are reached", s.closure(first), (1L << 17) - 1);
            CHECKS.same("it is alone", s.component(first), first);
            int last = turn == 0 ? 16 : 1;
            CHECKS.same("the one that is missing", s.layer(last), 0);
            CHECKS.same("the lowest layer", s.layer(turn == 0 ? 15 : 0), 1);
        }
    }

    /** As many names in one component as there may be. */
    private static void sixteenInACircle() {
        ModuleScanner s = new ModuleScanner();
        for (int n = 0; n < 16; n++) {
            use(s, n % 5, nth(n), nth((n + 15) % 16));
        }
        for (int name = 0; name < 16; name++) {
            ask(s, name, 65535, 0, 1);
        }
    }
}
