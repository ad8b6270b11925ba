/** Promise 10: what class files use and show. */
public final class UsesTest {
    private static final Checks CHECKS = new Checks("UsesTest");

    public static void main(String[] args) {
        everyMeetingIsAUse();
        showingNeedsThePublicFlag();
        membersShowByTheirFlags();
        itsOwnNameIsNeither();
        poolEntriesAreNotShown();
        allInterfacesAreShown();
        theFirstEntryIsAUseToo();
        whatIsHiddenShowsNotEvenName0();
        whatWasShownBeforeADropIsForgotten();
        CHECKS.end();
    }

    /** "It USES all names that are met when it is added (once more, if they were met before)". */
    private static void everyMeetingIsAUse() {
        ModuleScanner s = new ModuleScanner();
        ClassMaker maker = new ClassMaker("A").parent("B").implementing("C").using("[[LD;", "[I").pair("x", "(LE;)LF;");
        Checks.add(s, 0, maker.field(0, "[LG;").method(0, "(LH;LI;)LJ;"));
        CHECKS.names("all of them", s, "A B C D E F G H I J");
        CHECKS.same("the uses", s.uses(0, false), 1022);
        CHECKS.same("what it shows", s.uses(0, true), Checks.set(1, 2));
        // The same names once more are uses once more, with or without numbers of their own.
        Checks.add(s, 1, new ClassMaker("J").field(0, "LA;").pair("x", "[LC;"));
        CHECKS.same("names met before", s.uses(1, false), Checks.set(0, 2));
        CHECKS.same("no new ones", s.names(), 10);
        s.drop(0);
        CHECKS.same("moved up", s.uses(0, false), Checks.set(0, 2));
        CHECKS.same("the other one is gone", s.uses(1, false), 0);
    }

    /** "It SHOWS, if its flags have bit 0, ...; else none." */
    private static void showingNeedsThePublicFlag() {
        for (int flags : new int[] {0, 1, 2, 4, 0x20, 0x21, 0xFFFE, 0xFFFF}) {
            ModuleScanner s = new ModuleScanner();
            Checks.add(s, 0, new ClassMaker("A").flags(flags).parent("B").implementing("C").field(1, "LD;").method(4, "()LE;"));
            CHECKS.same("uses with flags " + flags, s.uses(0, false), 30);
            CHECKS.same("shows with flags " + flags, s.uses(0, true), flags % 2 == 0 ? 0 : 30);
        }
    }

    /** "fields and methods ... whose flags have bit 0 or 2". */
    private static void membersShowByTheirFlags() {
        for (int flags : new int[] {0, 1, 2, 3, 4, 5, 6, 8, 0x10, 0xFFFA, 0xFFFB, 0xFFFE, 0xFFFF}) {
            boolean shown = (flags & 1) != 0 || (flags & 4) != 0;
            ModuleScanner s = new ModuleScanner();
            Checks.add(s, 0, new ClassMaker("A").field(flags, "[LB;").method(0, "()LC;"));
            CHECKS.same("a field with flags " + flags, s.uses(0, true), shown ? Checks.set(1) : 0);
            Checks.add(s, 1, new ClassMaker("D").field(0, "LB;").method(flags, "(ILE;[LF;)LG;"));
            CHECKS.same("a method with flags " + flags, s.uses(1, true), shown ? Checks.set(4, 5, 6) : 0);
            CHECKS.same("its uses", s.uses(1, false), Checks.set(1, 4, 5, 6));
        }
    }

    /** "but its own". */
    private static void itsOwnNameIsNeither() {
        ModuleScanner s = new ModuleScanner();
        ClassMaker maker = new ClassMaker("A").parent("A").implementing("A").using("[LA;").pair("x", "LA;");
        Checks.add(s, 0, maker.field(1, "LA;").method(1, "(LA;)LA;"));
        CHECKS.same("it does not use itself", s.uses(0, false), 0);
        CHECKS.same("nor show itself", s.uses(0, true), 0);
        CHECKS.same("but it is its SUPER", s.file(0, 2), 0);
    }

    private static void poolEntriesAreNotShown() {
        ModuleScanner s = new ModuleScanner();
        Checks.add(s, 0, new ClassMaker("A").using("B", "[LC;").pair("x", "LD;").pair("L;", "I").field(1, "I"));
        CHECKS.same("used", s.uses(0, false), Checks.set(1, 2, 3));
        CHECKS.same("not shown", s.uses(0, true), 0);
        Checks.add(s, 0, new ClassMaker("E").using("B", "C").field(1, "LC;").field(0, "LB;"));
        CHECKS.same("shown by a field", s.uses(1, true), Checks.set(2));
    }

    /** "that of SUPER, those of its INTERFACES". */
    private static void allInterfacesAreShown() {
        ModuleScanner s = new ModuleScanner();
        Checks.add(s, 0, new ClassMaker("A").implementing("B").implementing("C").implementing("D").implementing("B"));
        CHECKS.same("all interfaces", s.uses(0, true), Checks.set(1, 2, 3));
    }

    /** Met entry by entry, from the first one to the last one. */
    private static void theFirstEntryIsAUseToo() {
        ModuleScanner s = new ModuleScanner();
        ByteRow row = ByteRow.head(7).u1(7).u2(5).u1(7).u2(6).u1(12).u2(5).u2(4).text("LC;").text("B").text("A").tail(2);
        CHECKS.same("a class first", Checks.add(s, 0, row.bytes()), 0);
        CHECKS.names("its names", s, "A B C");
        CHECKS.same("its uses", s.uses(0, false), Checks.set(1, 2));
        s = new ModuleScanner();
        row = ByteRow.head(6).u1(12).u2(4).u2(5).u1(7).u2(3).text("A").text("x").text("LB;").tail(2);
        CHECKS.same("a pair first", Checks.add(s, 0, row.bytes()), 0);
        CHECKS.names("its names", s, "A B");
        s = new ModuleScanner();
        row = ByteRow.head(6).text("A").u1(7).u2(1).text("LB;").text("C").u1(7).u2(4).tail(2);
        CHECKS.same("a class last", Checks.add(s, 0, row.bytes()), 0);
        CHECKS.names("its names", s, "A C");
        s = new ModuleScanner();
        row = ByteRow.head(5).text("A").u1(7).u2(1).text("LB;").u1(12).u2(1).u2(3).tail(2);
        CHECKS.same("a pair last", Checks.add(s, 0, row.bytes()), 0);
        CHECKS.names("its names", s, "A B");
    }

    private static void whatIsHiddenShowsNotEvenName0() {
        ModuleScanner s = new ModuleScanner();
        Checks.add(s, 0, new ClassMaker("A"));
        Checks.add(s, 0, new ClassMaker("B").flags(0xFFFE).parent("A").implementing("A").field(1, "LA;").method(4, "()LA;"));
        CHECKS.same("it uses name 0", s.uses(1, false), 1);
        CHECKS.same("it does not show it", s.uses(1, true), 0);
    }

    private static void whatWasShownBeforeADropIsForgotten() {
        ModuleScanner s = new ModuleScanner();
        Checks.add(s, 0, new ClassMaker("A").parent("B").field(1, "LC;"));
        CHECKS.same("shown", s.uses(0, true), Checks.set(1, 2));
        s.drop(0);
        Checks.add(s, 0, new ClassMaker("A").using("B", "C"));
        CHECKS.same("used", s.uses(0, false), Checks.set(1, 2));
        CHECKS.same("not shown any more", s.uses(0, true), 0);
        s.drop(0);
        Checks.add(s, 0, new ClassMaker("A").field(1, "LC;"));
        CHECKS.same("not used any more", s.uses(0, false), Checks.set(2));
        CHECKS.same("shown again", s.uses(0, true), Checks.set(2));
    }
}
