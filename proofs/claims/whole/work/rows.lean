section
-- ===== PART A: goes FIRST, ahead of the names: the tables' words, and 'selects' of the private methods out of them =====
/-- a private method of a class that the tables say can be made, by its rows of tables_1 -/
def lw_okq (q : MethodName × Nat) : Prop := (q.1.cls ≠ "java/lang/invoke/MethodHandle" ∧ q.1.cls ≠ "java/lang/invoke/VarHandle") ∧ Cond.instantiable q.1.cls q.2 ∈ tables_1 ∧ Cond.privateMethod q.1 ∈ tables_1 ∧ Cond.instanceMethod q.1 ∈ tables_1
theorem lw_p0 : lw_okq (⟨"ModuleScanner$ClassReader", "readHead", "()V"⟩, 13) := ⟨⟨by decide +kernel, by decide +kernel⟩, List.mem_of_getElem? (i := 23) (by decide +kernel), List.mem_of_getElem? (i := 288) (by decide +kernel), List.mem_of_getElem? (i := 289) (by decide +kernel)⟩
theorem lw_p1 : lw_okq (⟨"ModuleScanner$ClassReader", "item", "(I)I"⟩, 13) := ⟨⟨by decide +kernel, by decide +kernel⟩, List.mem_of_getElem? (i := 23) (by decide +kernel), List.mem_of_getElem? (i := 292) (by decide +kernel), List.mem_of_getElem? (i := 293) (by decide +kernel)⟩
theorem lw_p2 : lw_okq (⟨"ModuleScanner$ClassReader", "demand", "(ZI)V"⟩, 13) := ⟨⟨by decide +kernel, by decide +kernel⟩, List.mem_of_getElem? (i := 23) (by decide +kernel), List.mem_of_getElem? (i := 301) (by decide +kernel), List.mem_of_getElem? (i := 302) (by decide +kernel)⟩
theorem lw_p3 : lw_okq (⟨"ModuleScanner$ClassReader", "readPool", "()V"⟩, 13) := ⟨⟨by decide +kernel, by decide +kernel⟩, List.mem_of_getElem? (i := 23) (by decide +kernel), List.mem_of_getElem? (i := 305) (by decide +kernel), List.mem_of_getElem? (i := 306) (by decide +kernel)⟩
theorem lw_p4 : lw_okq (⟨"ModuleScanner$ClassReader", "readEntry", "(I)V"⟩, 13) := ⟨⟨by decide +kernel, by decide +kernel⟩, List.mem_of_getElem? (i := 23) (by decide +kernel), List.mem_of_getElem? (i := 328) (by decide +kernel), List.mem_of_getElem? (i := 329) (by decide +kernel)⟩
theorem lw_p5 : lw_okq (⟨"ModuleScanner$ClassReader", "readText", "(I)V"⟩, 13) := ⟨⟨by decide +kernel, by decide +kernel⟩, List.mem_of_getElem? (i := 23) (by decide +kernel), List.mem_of_getElem? (i := 338) (by decide +kernel), List.mem_of_getElem? (i := 339) (by decide +kernel)⟩
theorem lw_p6 : lw_okq (⟨"ModuleScanner$ClassReader", "checkPool", "()V"⟩, 13) := ⟨⟨by decide +kernel, by decide +kernel⟩, List.mem_of_getElem? (i := 23) (by decide +kernel), List.mem_of_getElem? (i := 372) (by decide +kernel), List.mem_of_getElem? (i := 373) (by decide +kernel)⟩
theorem lw_p7 : lw_okq (⟨"ModuleScanner$ClassReader", "checkEntry", "(I)V"⟩, 13) := ⟨⟨by decide +kernel, by decide +kernel⟩, List.mem_of_getElem? (i := 23) (by decide +kernel), List.mem_of_getElem? (i := 376) (by decide +kernel), List.mem_of_getElem? (i := 377) (by decide +kernel)⟩
theorem lw_p8 : lw_okq (⟨"ModuleScanner$ClassReader", "readClass", "()V"⟩, 13) := ⟨⟨by decide +kernel, by decide +kernel⟩, List.mem_of_getElem? (i := 23) (by decide +kernel), List.mem_of_getElem? (i := 405) (by decide +kernel), List.mem_of_getElem? (i := 406) (by decide +kernel)⟩
theorem lw_p9 : lw_okq (⟨"ModuleScanner$ClassReader", "readMembers", "(I)V"⟩, 13) := ⟨⟨by decide +kernel, by decide +kernel⟩, List.mem_of_getElem? (i := 23) (by decide +kernel), List.mem_of_getElem? (i := 414) (by decide +kernel), List.mem_of_getElem? (i := 415) (by decide +kernel)⟩
theorem lw_p10 : lw_okq (⟨"ModuleScanner$ClassReader", "keepMember", "(II)V"⟩, 13) := ⟨⟨by decide +kernel, by decide +kernel⟩, List.mem_of_getElem? (i := 23) (by decide +kernel), List.mem_of_getElem? (i := 418) (by decide +kernel), List.mem_of_getElem? (i := 419) (by decide +kernel)⟩
theorem lw_p11 : lw_okq (⟨"ModuleScanner$ClassReader", "readAttributes", "()V"⟩, 13) := ⟨⟨by decide +kernel, by decide +kernel⟩, List.mem_of_getElem? (i := 23) (by decide +kernel), List.mem_of_getElem? (i := 422) (by decide +kernel), List.mem_of_getElem? (i := 423) (by decide +kernel)⟩
theorem lw_p12 : lw_okq (⟨"ModuleScanner", "ownName", "()I"⟩, 4) := ⟨⟨by decide +kernel, by decide +kernel⟩, List.mem_of_getElem? (i := 15) (by decide +kernel), List.mem_of_getElem? (i := 426) (by decide +kernel), List.mem_of_getElem? (i := 427) (by decide +kernel)⟩
theorem lw_p13 : lw_okq (⟨"ModuleScanner", "fill", "(LModuleScanner$ClassFile;I)V"⟩, 4) := ⟨⟨by decide +kernel, by decide +kernel⟩, List.mem_of_getElem? (i := 15) (by decide +kernel), List.mem_of_getElem? (i := 444) (by decide +kernel), List.mem_of_getElem? (i := 445) (by decide +kernel)⟩
theorem lw_p14 : lw_okq (⟨"ModuleScanner", "meetClass", "(I)I"⟩, 4) := ⟨⟨by decide +kernel, by decide +kernel⟩, List.mem_of_getElem? (i := 15) (by decide +kernel), List.mem_of_getElem? (i := 448) (by decide +kernel), List.mem_of_getElem? (i := 449) (by decide +kernel)⟩
theorem lw_p15 : lw_okq (⟨"ModuleScanner$NameTable", "write", "(LModuleScanner$Draft;II)V"⟩, 6) := ⟨⟨by decide +kernel, by decide +kernel⟩, List.mem_of_getElem? (i := 122) (by decide +kernel), List.mem_of_getElem? (i := 457) (by decide +kernel), List.mem_of_getElem? (i := 458) (by decide +kernel)⟩
def lw_privs_1 : List (MethodName × Nat) := [(⟨"ModuleScanner$ClassReader", "readHead", "()V"⟩, 13), (⟨"ModuleScanner$ClassReader", "item", "(I)I"⟩, 13), (⟨"ModuleScanner$ClassReader", "demand", "(ZI)V"⟩, 13), (⟨"ModuleScanner$ClassReader", "readPool", "()V"⟩, 13), (⟨"ModuleScanner$ClassReader", "readEntry", "(I)V"⟩, 13), (⟨"ModuleScanner$ClassReader", "readText", "(I)V"⟩, 13), (⟨"ModuleScanner$ClassReader", "checkPool", "()V"⟩, 13), (⟨"ModuleScanner$ClassReader", "checkEntry", "(I)V"⟩, 13), (⟨"ModuleScanner$ClassReader", "readClass", "()V"⟩, 13), (⟨"ModuleScanner$ClassReader", "readMembers", "(I)V"⟩, 13), (⟨"ModuleScanner$ClassReader", "keepMember", "(II)V"⟩, 13), (⟨"ModuleScanner$ClassReader", "readAttributes", "()V"⟩, 13), (⟨"ModuleScanner", "ownName", "()I"⟩, 4), (⟨"ModuleScanner", "fill", "(LModuleScanner$ClassFile;I)V"⟩, 4), (⟨"ModuleScanner", "meetClass", "(I)I"⟩, 4), (⟨"ModuleScanner$NameTable", "write", "(LModuleScanner$Draft;II)V"⟩, 6)]
theorem lw_r1 : ∀ q ∈ lw_privs_1, lw_okq q := List.forall_mem_cons.mpr ⟨lw_p0, List.forall_mem_cons.mpr ⟨lw_p1, List.forall_mem_cons.mpr ⟨lw_p2, List.forall_mem_cons.mpr ⟨lw_p3, List.forall_mem_cons.mpr ⟨lw_p4, List.forall_mem_cons.mpr ⟨lw_p5, List.forall_mem_cons.mpr ⟨lw_p6, List.forall_mem_cons.mpr ⟨lw_p7, List.forall_mem_cons.mpr ⟨lw_p8, List.forall_mem_cons.mpr ⟨lw_p9, List.forall_mem_cons.mpr ⟨lw_p10, List.forall_mem_cons.mpr ⟨lw_p11, List.forall_mem_cons.mpr ⟨lw_p12, List.forall_mem_cons.mpr ⟨lw_p13, List.forall_mem_cons.mpr ⟨lw_p14, List.forall_mem_cons.mpr ⟨lw_p15, fun _ h => absurd h List.not_mem_nil⟩⟩⟩⟩⟩⟩⟩⟩⟩⟩⟩⟩⟩⟩⟩⟩
theorem lw_p16 : lw_okq (⟨"ModuleScanner$NameTable", "findHome", "(I)I"⟩, 6) := ⟨⟨by decide +kernel, by decide +kernel⟩, List.mem_of_getElem? (i := 122) (by decide +kernel), List.mem_of_getElem? (i := 462) (by decide +kernel), List.mem_of_getElem? (i := 463) (by decide +kernel)⟩
theorem lw_p17 : lw_okq (⟨"ModuleScanner$NameTable", "isSamePackage", "(II)Z"⟩, 6) := ⟨⟨by decide +kernel, by decide +kernel⟩, List.mem_of_getElem? (i := 122) (by decide +kernel), List.mem_of_getElem? (i := 466) (by decide +kernel), List.mem_of_getElem? (i := 467) (by decide +kernel)⟩
theorem lw_p18 : lw_okq (⟨"ModuleScanner", "meetPool", "()J"⟩, 4) := ⟨⟨by decide +kernel, by decide +kernel⟩, List.mem_of_getElem? (i := 15) (by decide +kernel), List.mem_of_getElem? (i := 470) (by decide +kernel), List.mem_of_getElem? (i := 471) (by decide +kernel)⟩
theorem lw_p19 : lw_okq (⟨"ModuleScanner", "meetMembers", "(LModuleScanner$ClassFile;)V"⟩, 4) := ⟨⟨by decide +kernel, by decide +kernel⟩, List.mem_of_getElem? (i := 15) (by decide +kernel), List.mem_of_getElem? (i := 487) (by decide +kernel), List.mem_of_getElem? (i := 488) (by decide +kernel)⟩
theorem lw_p20 : lw_okq (⟨"ModuleScanner", "interfaceNames", "()J"⟩, 4) := ⟨⟨by decide +kernel, by decide +kernel⟩, List.mem_of_getElem? (i := 15) (by decide +kernel), List.mem_of_getElem? (i := 491) (by decide +kernel), List.mem_of_getElem? (i := 492) (by decide +kernel)⟩
theorem lw_p21 : lw_okq (⟨"ModuleScanner", "settle", "()V"⟩, 4) := ⟨⟨by decide +kernel, by decide +kernel⟩, List.mem_of_getElem? (i := 15) (by decide +kernel), List.mem_of_getElem? (i := 501) (by decide +kernel), List.mem_of_getElem? (i := 502) (by decide +kernel)⟩
theorem lw_p22 : lw_okq (⟨"ModuleScanner$Shelf", "settleProviders", "()V"⟩, 6) := ⟨⟨by decide +kernel, by decide +kernel⟩, List.mem_of_getElem? (i := 149) (by decide +kernel), List.mem_of_getElem? (i := 509) (by decide +kernel), List.mem_of_getElem? (i := 510) (by decide +kernel)⟩
theorem lw_p23 : lw_okq (⟨"ModuleScanner$Shelf", "settleReached", "()V"⟩, 6) := ⟨⟨by decide +kernel, by decide +kernel⟩, List.mem_of_getElem? (i := 149) (by decide +kernel), List.mem_of_getElem? (i := 517) (by decide +kernel), List.mem_of_getElem? (i := 518) (by decide +kernel)⟩
theorem lw_p24 : lw_okq (⟨"ModuleScanner$Shelf", "reachThrough", "(I)V"⟩, 6) := ⟨⟨by decide +kernel, by decide +kernel⟩, List.mem_of_getElem? (i := 149) (by decide +kernel), List.mem_of_getElem? (i := 525) (by decide +kernel), List.mem_of_getElem? (i := 526) (by decide +kernel)⟩
theorem lw_p25 : lw_okq (⟨"ModuleScanner$Shelf", "reaches", "(II)Z"⟩, 6) := ⟨⟨by decide +kernel, by decide +kernel⟩, List.mem_of_getElem? (i := 149) (by decide +kernel), List.mem_of_getElem? (i := 529) (by decide +kernel), List.mem_of_getElem? (i := 530) (by decide +kernel)⟩
theorem lw_p26 : lw_okq (⟨"ModuleScanner$Shelf", "settleCircles", "()V"⟩, 6) := ⟨⟨by decide +kernel, by decide +kernel⟩, List.mem_of_getElem? (i := 149) (by decide +kernel), List.mem_of_getElem? (i := 536) (by decide +kernel), List.mem_of_getElem? (i := 537) (by decide +kernel)⟩
theorem lw_p27 : lw_okq (⟨"ModuleScanner$Shelf", "settleHeights", "()V"⟩, 6) := ⟨⟨by decide +kernel, by decide +kernel⟩, List.mem_of_getElem? (i := 149) (by decide +kernel), List.mem_of_getElem? (i := 540) (by decide +kernel), List.mem_of_getElem? (i := 541) (by decide +kernel)⟩
theorem lw_p28 : lw_okq (⟨"ModuleScanner$Shelf", "raiseHeights", "()Z"⟩, 6) := ⟨⟨by decide +kernel, by decide +kernel⟩, List.mem_of_getElem? (i := 149) (by decide +kernel), List.mem_of_getElem? (i := 544) (by decide +kernel), List.mem_of_getElem? (i := 545) (by decide +kernel)⟩
theorem lw_p29 : lw_okq (⟨"ModuleScanner$Shelf", "highestBelow", "(I)I"⟩, 6) := ⟨⟨by decide +kernel, by decide +kernel⟩, List.mem_of_getElem? (i := 149) (by decide +kernel), List.mem_of_getElem? (i := 548) (by decide +kernel), List.mem_of_getElem? (i := 549) (by decide +kernel)⟩
theorem lw_p30 : lw_okq (⟨"ModuleScanner$JarMap", "othersWith", "(IJ)I"⟩, 5) := ⟨⟨by decide +kernel, by decide +kernel⟩, List.mem_of_getElem? (i := 224) (by decide +kernel), List.mem_of_getElem? (i := 561) (by decide +kernel), List.mem_of_getElem? (i := 562) (by decide +kernel)⟩
theorem lw_p31 : lw_okq (⟨"ModuleScanner", "isFile", "(I)Z"⟩, 4) := ⟨⟨by decide +kernel, by decide +kernel⟩, List.mem_of_getElem? (i := 15) (by decide +kernel), List.mem_of_getElem? (i := 598) (by decide +kernel), List.mem_of_getElem? (i := 599) (by decide +kernel)⟩
def lw_privs_2 : List (MethodName × Nat) := [(⟨"ModuleScanner$NameTable", "findHome", "(I)I"⟩, 6), (⟨"ModuleScanner$NameTable", "isSamePackage", "(II)Z"⟩, 6), (⟨"ModuleScanner", "meetPool", "()J"⟩, 4), (⟨"ModuleScanner", "meetMembers", "(LModuleScanner$ClassFile;)V"⟩, 4), (⟨"ModuleScanner", "interfaceNames", "()J"⟩, 4), (⟨"ModuleScanner", "settle", "()V"⟩, 4), (⟨"ModuleScanner$Shelf", "settleProviders", "()V"⟩, 6), (⟨"ModuleScanner$Shelf", "settleReached", "()V"⟩, 6), (⟨"ModuleScanner$Shelf", "reachThrough", "(I)V"⟩, 6), (⟨"ModuleScanner$Shelf", "reaches", "(II)Z"⟩, 6), (⟨"ModuleScanner$Shelf", "settleCircles", "()V"⟩, 6), (⟨"ModuleScanner$Shelf", "settleHeights", "()V"⟩, 6), (⟨"ModuleScanner$Shelf", "raiseHeights", "()Z"⟩, 6), (⟨"ModuleScanner$Shelf", "highestBelow", "(I)I"⟩, 6), (⟨"ModuleScanner$JarMap", "othersWith", "(IJ)I"⟩, 5), (⟨"ModuleScanner", "isFile", "(I)Z"⟩, 4)]
theorem lw_r2 : ∀ q ∈ lw_privs_2, lw_okq q := List.forall_mem_cons.mpr ⟨lw_p16, List.forall_mem_cons.mpr ⟨lw_p17, List.forall_mem_cons.mpr ⟨lw_p18, List.forall_mem_cons.mpr ⟨lw_p19, List.forall_mem_cons.mpr ⟨lw_p20, List.forall_mem_cons.mpr ⟨lw_p21, List.forall_mem_cons.mpr ⟨lw_p22, List.forall_mem_cons.mpr ⟨lw_p23, List.forall_mem_cons.mpr ⟨lw_p24, List.forall_mem_cons.mpr ⟨lw_p25, List.forall_mem_cons.mpr ⟨lw_p26, List.forall_mem_cons.mpr ⟨lw_p27, List.forall_mem_cons.mpr ⟨lw_p28, List.forall_mem_cons.mpr ⟨lw_p29, List.forall_mem_cons.mpr ⟨lw_p30, List.forall_mem_cons.mpr ⟨lw_p31, fun _ h => absurd h List.not_mem_nil⟩⟩⟩⟩⟩⟩⟩⟩⟩⟩⟩⟩⟩⟩⟩⟩
theorem lw_p32 : lw_okq (⟨"ModuleScanner", "jarsWithPackage", "(I)I"⟩, 4) := ⟨⟨by decide +kernel, by decide +kernel⟩, List.mem_of_getElem? (i := 15) (by decide +kernel), List.mem_of_getElem? (i := 638) (by decide +kernel), List.mem_of_getElem? (i := 639) (by decide +kernel)⟩
theorem lw_p33 : lw_okq (⟨"ModuleScanner", "splitPackages", "()I"⟩, 4) := ⟨⟨by decide +kernel, by decide +kernel⟩, List.mem_of_getElem? (i := 15) (by decide +kernel), List.mem_of_getElem? (i := 677) (by decide +kernel), List.mem_of_getElem? (i := 678) (by decide +kernel)⟩
theorem lw_p34 : lw_okq (⟨"ModuleScanner", "filesWithoutPackage", "()I"⟩, 4) := ⟨⟨by decide +kernel, by decide +kernel⟩, List.mem_of_getElem? (i := 15) (by decide +kernel), List.mem_of_getElem? (i := 691) (by decide +kernel), List.mem_of_getElem? (i := 692) (by decide +kernel)⟩
theorem lw_p35 : lw_okq (⟨"ModuleScannerModel", "readAll", "()V"⟩, 36) := ⟨⟨by decide +kernel, by decide +kernel⟩, List.mem_of_getElem? (i := 703) (by decide +kernel), List.mem_of_getElem? (i := 834) (by decide +kernel), List.mem_of_getElem? (i := 835) (by decide +kernel)⟩
theorem lw_p36 : lw_okq (⟨"ModuleScannerModel", "take", "(I)J"⟩, 36) := ⟨⟨by decide +kernel, by decide +kernel⟩, List.mem_of_getElem? (i := 703) (by decide +kernel), List.mem_of_getElem? (i := 838) (by decide +kernel), List.mem_of_getElem? (i := 839) (by decide +kernel)⟩
theorem lw_p37 : lw_okq (⟨"ModuleScannerModel", "wrongAt", "(IZ)V"⟩, 36) := ⟨⟨by decide +kernel, by decide +kernel⟩, List.mem_of_getElem? (i := 703) (by decide +kernel), List.mem_of_getElem? (i := 842) (by decide +kernel), List.mem_of_getElem? (i := 843) (by decide +kernel)⟩
theorem lw_p38 : lw_okq (⟨"ModuleScannerModel", "word", "()I"⟩, 36) := ⟨⟨by decide +kernel, by decide +kernel⟩, List.mem_of_getElem? (i := 703) (by decide +kernel), List.mem_of_getElem? (i := 847) (by decide +kernel), List.mem_of_getElem? (i := 848) (by decide +kernel)⟩
theorem lw_p39 : lw_okq (⟨"ModuleScannerModel", "readPool", "()V"⟩, 36) := ⟨⟨by decide +kernel, by decide +kernel⟩, List.mem_of_getElem? (i := 703) (by decide +kernel), List.mem_of_getElem? (i := 851) (by decide +kernel), List.mem_of_getElem? (i := 852) (by decide +kernel)⟩
theorem lw_p40 : lw_okq (⟨"ModuleScannerModel", "readText", "(I)V"⟩, 36) := ⟨⟨by decide +kernel, by decide +kernel⟩, List.mem_of_getElem? (i := 703) (by decide +kernel), List.mem_of_getElem? (i := 855) (by decide +kernel), List.mem_of_getElem? (i := 856) (by decide +kernel)⟩
theorem lw_p41 : lw_okq (⟨"ModuleScannerModel", "checkPool", "()V"⟩, 36) := ⟨⟨by decide +kernel, by decide +kernel⟩, List.mem_of_getElem? (i := 703) (by decide +kernel), List.mem_of_getElem? (i := 859) (by decide +kernel), List.mem_of_getElem? (i := 860) (by decide +kernel)⟩
theorem lw_p42 : lw_okq (⟨"ModuleScannerModel", "text", "(II)Z"⟩, 36) := ⟨⟨by decide +kernel, by decide +kernel⟩, List.mem_of_getElem? (i := 703) (by decide +kernel), List.mem_of_getElem? (i := 863) (by decide +kernel), List.mem_of_getElem? (i := 864) (by decide +kernel)⟩
theorem lw_p43 : lw_okq (⟨"ModuleScannerModel", "kindOf", "(I)I"⟩, 36) := ⟨⟨by decide +kernel, by decide +kernel⟩, List.mem_of_getElem? (i := 703) (by decide +kernel), List.mem_of_getElem? (i := 867) (by decide +kernel), List.mem_of_getElem? (i := 868) (by decide +kernel)⟩
theorem lw_p44 : lw_okq (⟨"ModuleScannerModel", "behindType", "(II)I"⟩, 36) := ⟨⟨by decide +kernel, by decide +kernel⟩, List.mem_of_getElem? (i := 703) (by decide +kernel), List.mem_of_getElem? (i := 871) (by decide +kernel), List.mem_of_getElem? (i := 872) (by decide +kernel)⟩
theorem lw_p45 : lw_okq (⟨"ModuleScannerModel", "semicolon", "(II)I"⟩, 36) := ⟨⟨by decide +kernel, by decide +kernel⟩, List.mem_of_getElem? (i := 703) (by decide +kernel), List.mem_of_getElem? (i := 878) (by decide +kernel), List.mem_of_getElem? (i := 879) (by decide +kernel)⟩
theorem lw_p46 : lw_okq (⟨"ModuleScannerModel", "className", "(II)Z"⟩, 36) := ⟨⟨by decide +kernel, by decide +kernel⟩, List.mem_of_getElem? (i := 703) (by decide +kernel), List.mem_of_getElem? (i := 882) (by decide +kernel), List.mem_of_getElem? (i := 883) (by decide +kernel)⟩
theorem lw_p47 : lw_okq (⟨"ModuleScannerModel", "methodType", "(II)Z"⟩, 36) := ⟨⟨by decide +kernel, by decide +kernel⟩, List.mem_of_getElem? (i := 703) (by decide +kernel), List.mem_of_getElem? (i := 889) (by decide +kernel), List.mem_of_getElem? (i := 890) (by decide +kernel)⟩
def lw_privs_3 : List (MethodName × Nat) := [(⟨"ModuleScanner", "jarsWithPackage", "(I)I"⟩, 4), (⟨"ModuleScanner", "splitPackages", "()I"⟩, 4), (⟨"ModuleScanner", "filesWithoutPackage", "()I"⟩, 4), (⟨"ModuleScannerModel", "readAll", "()V"⟩, 36), (⟨"ModuleScannerModel", "take", "(I)J"⟩, 36), (⟨"ModuleScannerModel", "wrongAt", "(IZ)V"⟩, 36), (⟨"ModuleScannerModel", "word", "()I"⟩, 36), (⟨"ModuleScannerModel", "readPool", "()V"⟩, 36), (⟨"ModuleScannerModel", "readText", "(I)V"⟩, 36), (⟨"ModuleScannerModel", "checkPool", "()V"⟩, 36), (⟨"ModuleScannerModel", "text", "(II)Z"⟩, 36), (⟨"ModuleScannerModel", "kindOf", "(I)I"⟩, 36), (⟨"ModuleScannerModel", "behindType", "(II)I"⟩, 36), (⟨"ModuleScannerModel", "semicolon", "(II)I"⟩, 36), (⟨"ModuleScannerModel", "className", "(II)Z"⟩, 36), (⟨"ModuleScannerModel", "methodType", "(II)Z"⟩, 36)]
theorem lw_r3 : ∀ q ∈ lw_privs_3, lw_okq q := List.forall_mem_cons.mpr ⟨lw_p32, List.forall_mem_cons.mpr ⟨lw_p33, List.forall_mem_cons.mpr ⟨lw_p34, List.forall_mem_cons.mpr ⟨lw_p35, List.forall_mem_cons.mpr ⟨lw_p36, List.forall_mem_cons.mpr ⟨lw_p37, List.forall_mem_cons.mpr ⟨lw_p38, List.forall_mem_cons.mpr ⟨lw_p39, List.forall_mem_cons.mpr ⟨lw_p40, List.forall_mem_cons.mpr ⟨lw_p41, List.forall_mem_cons.mpr ⟨lw_p42, List.forall_mem_cons.mpr ⟨lw_p43, List.forall_mem_cons.mpr ⟨lw_p44, List.forall_mem_cons.mpr ⟨lw_p45, List.forall_mem_cons.mpr ⟨lw_p46, List.forall_mem_cons.mpr ⟨lw_p47, fun _ h => absurd h List.not_mem_nil⟩⟩⟩⟩⟩⟩⟩⟩⟩⟩⟩⟩⟩⟩⟩⟩
theorem lw_p48 : lw_okq (⟨"ModuleScannerModel", "readClass", "(Z)I"⟩, 36) := ⟨⟨by decide +kernel, by decide +kernel⟩, List.mem_of_getElem? (i := 703) (by decide +kernel), List.mem_of_getElem? (i := 893) (by decide +kernel), List.mem_of_getElem? (i := 894) (by decide +kernel)⟩
theorem lw_p49 : lw_okq (⟨"ModuleScannerModel", "plainClass", "(I)Z"⟩, 36) := ⟨⟨by decide +kernel, by decide +kernel⟩, List.mem_of_getElem? (i := 703) (by decide +kernel), List.mem_of_getElem? (i := 897) (by decide +kernel), List.mem_of_getElem? (i := 898) (by decide +kernel)⟩
theorem lw_p50 : lw_okq (⟨"ModuleScannerModel", "readMembers", "(I)I"⟩, 36) := ⟨⟨by decide +kernel, by decide +kernel⟩, List.mem_of_getElem? (i := 703) (by decide +kernel), List.mem_of_getElem? (i := 901) (by decide +kernel), List.mem_of_getElem? (i := 902) (by decide +kernel)⟩
theorem lw_p51 : lw_okq (⟨"ModuleScannerModel", "readTextItem", "(I)I"⟩, 36) := ⟨⟨by decide +kernel, by decide +kernel⟩, List.mem_of_getElem? (i := 703) (by decide +kernel), List.mem_of_getElem? (i := 905) (by decide +kernel), List.mem_of_getElem? (i := 906) (by decide +kernel)⟩
theorem lw_p52 : lw_okq (⟨"ModuleScannerModel", "readAttributes", "()V"⟩, 36) := ⟨⟨by decide +kernel, by decide +kernel⟩, List.mem_of_getElem? (i := 703) (by decide +kernel), List.mem_of_getElem? (i := 909) (by decide +kernel), List.mem_of_getElem? (i := 910) (by decide +kernel)⟩
theorem lw_p53 : lw_okq (⟨"ModuleScannerModel", "find", "(II)I"⟩, 36) := ⟨⟨by decide +kernel, by decide +kernel⟩, List.mem_of_getElem? (i := 703) (by decide +kernel), List.mem_of_getElem? (i := 913) (by decide +kernel), List.mem_of_getElem? (i := 914) (by decide +kernel)⟩
theorem lw_p54 : lw_okq (⟨"ModuleScannerModel", "sameName", "(III)Z"⟩, 36) := ⟨⟨by decide +kernel, by decide +kernel⟩, List.mem_of_getElem? (i := 703) (by decide +kernel), List.mem_of_getElem? (i := 917) (by decide +kernel), List.mem_of_getElem? (i := 918) (by decide +kernel)⟩
theorem lw_p55 : lw_okq (⟨"ModuleScannerModel", "meetAll", "()J"⟩, 36) := ⟨⟨by decide +kernel, by decide +kernel⟩, List.mem_of_getElem? (i := 703) (by decide +kernel), List.mem_of_getElem? (i := 921) (by decide +kernel), List.mem_of_getElem? (i := 922) (by decide +kernel)⟩
theorem lw_p56 : lw_okq (⟨"ModuleScannerModel", "meetClass", "(I)I"⟩, 36) := ⟨⟨by decide +kernel, by decide +kernel⟩, List.mem_of_getElem? (i := 703) (by decide +kernel), List.mem_of_getElem? (i := 925) (by decide +kernel), List.mem_of_getElem? (i := 926) (by decide +kernel)⟩
theorem lw_p57 : lw_okq (⟨"ModuleScannerModel", "meetTypes", "(I)J"⟩, 36) := ⟨⟨by decide +kernel, by decide +kernel⟩, List.mem_of_getElem? (i := 703) (by decide +kernel), List.mem_of_getElem? (i := 929) (by decide +kernel), List.mem_of_getElem? (i := 930) (by decide +kernel)⟩
theorem lw_p58 : lw_okq (⟨"ModuleScannerModel", "meet", "(II)I"⟩, 36) := ⟨⟨by decide +kernel, by decide +kernel⟩, List.mem_of_getElem? (i := 703) (by decide +kernel), List.mem_of_getElem? (i := 933) (by decide +kernel), List.mem_of_getElem? (i := 934) (by decide +kernel)⟩
theorem lw_p59 : lw_okq (⟨"ModuleScannerModel", "keep", "(IIJ)V"⟩, 36) := ⟨⟨by decide +kernel, by decide +kernel⟩, List.mem_of_getElem? (i := 703) (by decide +kernel), List.mem_of_getElem? (i := 938) (by decide +kernel), List.mem_of_getElem? (i := 939) (by decide +kernel)⟩
theorem lw_p60 : lw_okq (⟨"ModuleScannerModel", "isName", "(I)Z"⟩, 36) := ⟨⟨by decide +kernel, by decide +kernel⟩, List.mem_of_getElem? (i := 703) (by decide +kernel), List.mem_of_getElem? (i := 954) (by decide +kernel), List.mem_of_getElem? (i := 955) (by decide +kernel)⟩
theorem lw_p61 : lw_okq (⟨"ModuleScannerModel", "found", "(I)I"⟩, 36) := ⟨⟨by decide +kernel, by decide +kernel⟩, List.mem_of_getElem? (i := 703) (by decide +kernel), List.mem_of_getElem? (i := 962) (by decide +kernel), List.mem_of_getElem? (i := 963) (by decide +kernel)⟩
theorem lw_p62 : lw_okq (⟨"ModuleScannerModel", "reachAll", "()V"⟩, 36) := ⟨⟨by decide +kernel, by decide +kernel⟩, List.mem_of_getElem? (i := 703) (by decide +kernel), List.mem_of_getElem? (i := 978) (by decide +kernel), List.mem_of_getElem? (i := 979) (by decide +kernel)⟩
theorem lw_p63 : lw_okq (⟨"ModuleScannerModel", "together", "(II)Z"⟩, 36) := ⟨⟨by decide +kernel, by decide +kernel⟩, List.mem_of_getElem? (i := 703) (by decide +kernel), List.mem_of_getElem? (i := 989) (by decide +kernel), List.mem_of_getElem? (i := 990) (by decide +kernel)⟩
def lw_privs_4 : List (MethodName × Nat) := [(⟨"ModuleScannerModel", "readClass", "(Z)I"⟩, 36), (⟨"ModuleScannerModel", "plainClass", "(I)Z"⟩, 36), (⟨"ModuleScannerModel", "readMembers", "(I)I"⟩, 36), (⟨"ModuleScannerModel", "readTextItem", "(I)I"⟩, 36), (⟨"ModuleScannerModel", "readAttributes", "()V"⟩, 36), (⟨"ModuleScannerModel", "find", "(II)I"⟩, 36), (⟨"ModuleScannerModel", "sameName", "(III)Z"⟩, 36), (⟨"ModuleScannerModel", "meetAll", "()J"⟩, 36), (⟨"ModuleScannerModel", "meetClass", "(I)I"⟩, 36), (⟨"ModuleScannerModel", "meetTypes", "(I)J"⟩, 36), (⟨"ModuleScannerModel", "meet", "(II)I"⟩, 36), (⟨"ModuleScannerModel", "keep", "(IIJ)V"⟩, 36), (⟨"ModuleScannerModel", "isName", "(I)Z"⟩, 36), (⟨"ModuleScannerModel", "found", "(I)I"⟩, 36), (⟨"ModuleScannerModel", "reachAll", "()V"⟩, 36), (⟨"ModuleScannerModel", "together", "(II)Z"⟩, 36)]
theorem lw_r4 : ∀ q ∈ lw_privs_4, lw_okq q := List.forall_mem_cons.mpr ⟨lw_p48, List.forall_mem_cons.mpr ⟨lw_p49, List.forall_mem_cons.mpr ⟨lw_p50, List.forall_mem_cons.mpr ⟨lw_p51, List.forall_mem_cons.mpr ⟨lw_p52, List.forall_mem_cons.mpr ⟨lw_p53, List.forall_mem_cons.mpr ⟨lw_p54, List.forall_mem_cons.mpr ⟨lw_p55, List.forall_mem_cons.mpr ⟨lw_p56, List.forall_mem_cons.mpr ⟨lw_p57, List.forall_mem_cons.mpr ⟨lw_p58, List.forall_mem_cons.mpr ⟨lw_p59, List.forall_mem_cons.mpr ⟨lw_p60, List.forall_mem_cons.mpr ⟨lw_p61, List.forall_mem_cons.mpr ⟨lw_p62, List.forall_mem_cons.mpr ⟨lw_p63, fun _ h => absurd h List.not_mem_nil⟩⟩⟩⟩⟩⟩⟩⟩⟩⟩⟩⟩⟩⟩⟩⟩
theorem lw_p64 : lw_okq (⟨"ModuleScannerModel", "above", "(I)I"⟩, 36) := ⟨⟨by decide +kernel, by decide +kernel⟩, List.mem_of_getElem? (i := 703) (by decide +kernel), List.mem_of_getElem? (i := 997) (by decide +kernel), List.mem_of_getElem? (i := 998) (by decide +kernel)⟩
theorem lw_p65 : lw_okq (⟨"ModuleScannerModel", "samePackage", "(II)Z"⟩, 36) := ⟨⟨by decide +kernel, by decide +kernel⟩, List.mem_of_getElem? (i := 703) (by decide +kernel), List.mem_of_getElem? (i := 1005) (by decide +kernel), List.mem_of_getElem? (i := 1006) (by decide +kernel)⟩
theorem lw_p66 : lw_okq (⟨"ModuleScannerModel", "head", "(I)I"⟩, 36) := ⟨⟨by decide +kernel, by decide +kernel⟩, List.mem_of_getElem? (i := 703) (by decide +kernel), List.mem_of_getElem? (i := 1009) (by decide +kernel), List.mem_of_getElem? (i := 1010) (by decide +kernel)⟩
theorem lw_p67 : lw_okq (⟨"ModuleScannerModel", "readSet", "(I)I"⟩, 36) := ⟨⟨by decide +kernel, by decide +kernel⟩, List.mem_of_getElem? (i := 703) (by decide +kernel), List.mem_of_getElem? (i := 1021) (by decide +kernel), List.mem_of_getElem? (i := 1022) (by decide +kernel)⟩
theorem lw_p68 : lw_okq (⟨"ModuleScannerModel", "wanted", "(IZ)I"⟩, 36) := ⟨⟨by decide +kernel, by decide +kernel⟩, List.mem_of_getElem? (i := 703) (by decide +kernel), List.mem_of_getElem? (i := 1025) (by decide +kernel), List.mem_of_getElem? (i := 1026) (by decide +kernel)⟩
theorem lw_p69 : lw_okq (⟨"ModuleScannerModel", "missing", "(I)Z"⟩, 36) := ⟨⟨by decide +kernel, by decide +kernel⟩, List.mem_of_getElem? (i := 703) (by decide +kernel), List.mem_of_getElem? (i := 1039) (by decide +kernel), List.mem_of_getElem? (i := 1040) (by decide +kernel)⟩
theorem lw_p70 : lw_okq (⟨"ModuleScannerModel", "inRing", "(I)Z"⟩, 36) := ⟨⟨by decide +kernel, by decide +kernel⟩, List.mem_of_getElem? (i := 703) (by decide +kernel), List.mem_of_getElem? (i := 1043) (by decide +kernel), List.mem_of_getElem? (i := 1044) (by decide +kernel)⟩
def lw_privs_5 : List (MethodName × Nat) := [(⟨"ModuleScannerModel", "above", "(I)I"⟩, 36), (⟨"ModuleScannerModel", "samePackage", "(II)Z"⟩, 36), (⟨"ModuleScannerModel", "head", "(I)I"⟩, 36), (⟨"ModuleScannerModel", "readSet", "(I)I"⟩, 36), (⟨"ModuleScannerModel", "wanted", "(IZ)I"⟩, 36), (⟨"ModuleScannerModel", "missing", "(I)Z"⟩, 36), (⟨"ModuleScannerModel", "inRing", "(I)Z"⟩, 36)]
theorem lw_r5 : ∀ q ∈ lw_privs_5, lw_okq q := List.forall_mem_cons.mpr ⟨lw_p64, List.forall_mem_cons.mpr ⟨lw_p65, List.forall_mem_cons.mpr ⟨lw_p66, List.forall_mem_cons.mpr ⟨lw_p67, List.forall_mem_cons.mpr ⟨lw_p68, List.forall_mem_cons.mpr ⟨lw_p69, List.forall_mem_cons.mpr ⟨lw_p70, fun _ h => absurd h List.not_mem_nil⟩⟩⟩⟩⟩⟩⟩
def lw_privs : List (MethodName × Nat) := lw_privs_1 ++ (lw_privs_2 ++ (lw_privs_3 ++ (lw_privs_4 ++ (lw_privs_5))))
def lw_tbl : List Cond := k2_sels lw_privs ++ tables_1
theorem lw_privs_ok : ∀ q ∈ lw_privs, lw_okq q := by
  show ∀ q ∈ lw_privs_1 ++ (lw_privs_2 ++ (lw_privs_3 ++ (lw_privs_4 ++ (lw_privs_5)))), lw_okq q
  exact List.forall_mem_append.mpr ⟨lw_r1, List.forall_mem_append.mpr ⟨lw_r2, List.forall_mem_append.mpr ⟨lw_r3, List.forall_mem_append.mpr ⟨lw_r4, lw_r5⟩⟩⟩⟩
end
section
/-- memory: shape (a row a cell: (0,n) ints, (1,n) longs, (2,n) references, (3,ci) an object), ints, longs, references (0: none, k+1: cell k) -/
abbrev xm_M : Type := List (Nat × Nat) × (Nat → Nat → Int32) × (Nat → Nat → Int64) × (Nat → Nat → Nat)
abbrev xm_L : Type := List (Option Value)
/-- a frame: pc, locals, stack, memory, cells and slots that may still be made -/
abbrev xm_S : Type := Nat × xm_L × List Value × xm_M × Nat × Nat
abbrev xm_R : Type := Option Value × xm_M
/-- a row of a method's table: instruction, next pc, target, places dead behind it, places dead at the target, four numbers, an int, a long, a switch -/
abbrev xm_E : Type := Jvm.ClassFile.Instr × Nat × Nat × List Nat × List Nat × (Nat × Nat × Nat × Nat) × Int32 × Int64 × List (Int32 × Nat × List Nat)
/-- what a step comes to: on; on if; a branch; a reference that isn't null; a call; an answer; an answer if; a switch; nothing -/
abbrev xm_O : Type := xm_S ⊕ (Prop × xm_S) ⊕ (Prop × xm_S × xm_S) ⊕ (Prop × Nat × (Nat → xm_S)) ⊕ (Nat × List Value × xm_M × (xm_R → xm_S)) ⊕ xm_R ⊕ (Prop × xm_R) ⊕ (List (Prop × xm_S) × xm_S) ⊕ Unit
def xm_go (s : xm_S) : xm_O := .inl s
def xm_pre (c : Prop) (s : xm_S) : xm_O := .inr (.inl (c, s))
def xm_br (c : Prop) (s t : xm_S) : xm_O := .inr (.inr (.inl (c, s, t)))
def xm_ex (c : Prop) (x : Nat) (f : Nat → xm_S) : xm_O := .inr (.inr (.inr (.inl (c, x, f))))
def xm_call (m : Nat) (av : List Value) (M : xm_M) (f : xm_R → xm_S) : xm_O := .inr (.inr (.inr (.inr (.inl (m, av, M, f)))))
def xm_ret (r : xm_R) : xm_O := .inr (.inr (.inr (.inr (.inr (.inl r)))))
def xm_retb (c : Prop) (r : xm_R) : xm_O := .inr (.inr (.inr (.inr (.inr (.inr (.inl (c, r)))))))
def xm_sw (l : List (Prop × xm_S)) (d : xm_S) : xm_O := .inr (.inr (.inr (.inr (.inr (.inr (.inr (.inl (l, d))))))))
def xm_bad : xm_O := .inr (.inr (.inr (.inr (.inr (.inr (.inr (.inr ())))))))
def xm_nth {α : Type} : List α → Nat → Option α
  | [], _ => none
  | a :: _, 0 => some a
  | _ :: l, n + 1 => xm_nth l n
def xm_up {α : Type} (f : Nat → Nat → α) (k i : Nat) (v : α) : Nat → Nat → α := fun a j => bif (Nat.beq a k && Nat.beq j i) then v else f a j
def xm_row {α : Type} (f : Nat → Nat → α) (k : Nat) (v : α) : Nat → Nat → α := fun a j => bif Nat.beq a k then v else f a j
def xm_kl (a : Option Value) : Option Value := match a with
  | some (.long _) => none
  | some (.double _) => none
  | a => a
/-- a value of one word at a place -/
def xm_s1 (v : Value) : Nat → xm_L → xm_L
  | _, [] => []
  | 0, _ :: l => some v :: l
  | 1, a :: l => xm_kl a :: xm_s1 v 0 l
  | n + 2, a :: l => a :: xm_s1 v (n + 1) l
def xm_no : Nat → xm_L → xm_L
  | _, [] => []
  | 0, _ :: l => none :: l
  | n + 1, a :: l => a :: xm_no n l
/-- a value of two words -/
def xm_s2 (v : Value) : Nat → xm_L → xm_L
  | _, [] => []
  | 0, _ :: l => some v :: xm_no 0 l
  | 1, a :: l => xm_kl a :: xm_s2 v 0 l
  | n + 2, a :: l => a :: xm_s2 v (n + 1) l
def xm_drop : List Nat → xm_L → xm_L
  | [], L => L
  | i :: D, L => xm_drop D (xm_no i L)
def xm_pI (S : List Value) (k : Int32 → List Value → xm_O) : xm_O := match S with
  | .int x :: S => k x S
  | _ => xm_bad
def xm_pL (S : List Value) (k : Int64 → List Value → xm_O) : xm_O := match S with
  | .long x :: S => k x S
  | _ => xm_bad
def xm_pR (S : List Value) (k : Nat → List Value → xm_O) : xm_O := match S with
  | .ref x :: S => k x S
  | _ => xm_bad
def xm_gI (L : xm_L) (i : Nat) (k : Int32 → xm_O) : xm_O := match xm_nth L i with
  | some (some (.int x)) => k x
  | _ => xm_bad
def xm_gL (L : xm_L) (i : Nat) (k : Int64 → xm_O) : xm_O := match xm_nth L i with
  | some (some (.long x)) => k x
  | _ => xm_bad
def xm_gR (L : xm_L) (i : Nat) (k : Nat → xm_O) : xm_O := match xm_nth L i with
  | some (some (.ref x)) => k x
  | _ => xm_bad
/-- the shape of a cell: kind and number -/
def xm_sh (M : xm_M) (k : Nat) (kind : Nat) (f : Nat → xm_O) : xm_O := match xm_nth M.1 k with
  | some (t, n) => bif Nat.beq t kind then f n else xm_bad
  | _ => xm_bad
def xm_if (c : Bool) (o : xm_O) : xm_O := match c with
  | true => o
  | false => xm_bad
def xm_pop : Nat → List Value → List Value → (List Value → List Value → xm_O) → xm_O
  | 0, acc, S, k => k acc S
  | n + 1, acc, v :: S, k => xm_pop n (v :: acc) S k
  | _ + 1, _, [], _ => xm_bad
def xm_ct (v : Value) : Nat := match v with
  | .long _ => 2
  | .double _ => 2
  | _ => 1
def xm_cat : List Value → Nat
  | [] => 0
  | v :: S => xm_ct v + xm_cat S
def xm_bk (nx : Nat) (L : xm_L) (S : List Value) (bc bs : Nat) (r : xm_R) : xm_S := match r with
  | (none, M) => (nx, L, S, M, bc, bs)
  | (some v, M) => (nx, L, v :: S, M, bc, bs)
def xm_rv (x : Nat) (k : Nat → xm_O) : xm_O := match x with
  | 0 => xm_bad
  | q + 1 => k q
/-- cells and slots that a method's callees and itself may make -/
abbrev xm_Z : Type := (Nat → Nat → Option xm_E) × (Nat → Nat) × (Nat → Nat × Nat)
/-- one instruction -/
def xm_ins (Z : xm_Z) (e : xm_E) (L : xm_L) (S : List Value) (M : xm_M) (bc bs : Nat) : xm_O := match e with
  | (ins, nx, tg, D, D2, (a, b, c, d), kI, kL, sw) => match ins with
    | .iconst _ => xm_go (nx, xm_drop D L, .int kI :: S, M, bc, bs)
    | .bipush _ => xm_go (nx, xm_drop D L, .int kI :: S, M, bc, bs)
    | .sipush _ => xm_go (nx, xm_drop D L, .int kI :: S, M, bc, bs)
    | .ldc _ => xm_go (nx, xm_drop D L, .int kI :: S, M, bc, bs)
    | .ldc_w _ => xm_go (nx, xm_drop D L, .int kI :: S, M, bc, bs)
    | .lconst _ => xm_go (nx, xm_drop D L, .long kL :: S, M, bc, bs)
    | .ldc2_w _ => xm_go (nx, xm_drop D L, .long kL :: S, M, bc, bs)
    | .iload_n _ => xm_gI L a fun x => xm_go (nx, xm_drop D L, .int x :: S, M, bc, bs)
    | .iload _ => xm_gI L a fun x => xm_go (nx, xm_drop D L, .int x :: S, M, bc, bs)
    | .lload_n _ => xm_gL L a fun x => xm_go (nx, xm_drop D L, .long x :: S, M, bc, bs)
    | .lload _ => xm_gL L a fun x => xm_go (nx, xm_drop D L, .long x :: S, M, bc, bs)
    | .aload_n _ => xm_gR L a fun x => xm_go (nx, xm_drop D L, .ref x :: S, M, bc, bs)
    | .aload _ => xm_gR L a fun x => xm_go (nx, xm_drop D L, .ref x :: S, M, bc, bs)
    | .istore_n _ => xm_pI S fun x S => xm_go (nx, xm_drop D (xm_s1 (.int x) a L), S, M, bc, bs)
    | .istore _ => xm_pI S fun x S => xm_go (nx, xm_drop D (xm_s1 (.int x) a L), S, M, bc, bs)
    | .lstore_n _ => xm_pL S fun x S => xm_go (nx, xm_drop D (xm_s2 (.long x) a L), S, M, bc, bs)
    | .lstore _ => xm_pL S fun x S => xm_go (nx, xm_drop D (xm_s2 (.long x) a L), S, M, bc, bs)
    | .astore_n _ => xm_pR S fun x S => xm_go (nx, xm_drop D (xm_s1 (.ref x) a L), S, M, bc, bs)
    | .astore _ => xm_pR S fun x S => xm_go (nx, xm_drop D (xm_s1 (.ref x) a L), S, M, bc, bs)
    | .iinc _ _ => xm_gI L a fun x => xm_go (nx, xm_drop D (xm_s1 (.int (x + kI)) a L), S, M, bc, bs)
    | .iadd => xm_pI S fun y S => xm_pI S fun x S => xm_go (nx, xm_drop D L, .int (x + y) :: S, M, bc, bs)
    | .isub => xm_pI S fun y S => xm_pI S fun x S => xm_go (nx, xm_drop D L, .int (x - y) :: S, M, bc, bs)
    | .imul => xm_pI S fun y S => xm_pI S fun x S => xm_go (nx, xm_drop D L, .int (x * y) :: S, M, bc, bs)
    | .iand => xm_pI S fun y S => xm_pI S fun x S => xm_go (nx, xm_drop D L, .int (x &&& y) :: S, M, bc, bs)
    | .ior => xm_pI S fun y S => xm_pI S fun x S => xm_go (nx, xm_drop D L, .int (x ||| y) :: S, M, bc, bs)
    | .ixor => xm_pI S fun y S => xm_pI S fun x S => xm_go (nx, xm_drop D L, .int (x ^^^ y) :: S, M, bc, bs)
    | .ishl => xm_pI S fun y S => xm_pI S fun x S => xm_go (nx, xm_drop D L, .int (x <<< (y &&& 31)) :: S, M, bc, bs)
    | .ishr => xm_pI S fun y S => xm_pI S fun x S => xm_go (nx, xm_drop D L, .int (x >>> (y &&& 31)) :: S, M, bc, bs)
    | .iushr => xm_pI S fun y S => xm_pI S fun x S => xm_go (nx, xm_drop D L, .int ((x.toUInt32 >>> (y.toUInt32 &&& Int32.toUInt32 31)).toInt32) :: S, M, bc, bs)
    | .ladd => xm_pL S fun y S => xm_pL S fun x S => xm_go (nx, xm_drop D L, .long (x + y) :: S, M, bc, bs)
    | .lsub => xm_pL S fun y S => xm_pL S fun x S => xm_go (nx, xm_drop D L, .long (x - y) :: S, M, bc, bs)
    | .lmul => xm_pL S fun y S => xm_pL S fun x S => xm_go (nx, xm_drop D L, .long (x * y) :: S, M, bc, bs)
    | .land => xm_pL S fun y S => xm_pL S fun x S => xm_go (nx, xm_drop D L, .long (x &&& y) :: S, M, bc, bs)
    | .lor => xm_pL S fun y S => xm_pL S fun x S => xm_go (nx, xm_drop D L, .long (x ||| y) :: S, M, bc, bs)
    | .lxor => xm_pL S fun y S => xm_pL S fun x S => xm_go (nx, xm_drop D L, .long (x ^^^ y) :: S, M, bc, bs)
    | .lshl => xm_pI S fun y S => xm_pL S fun x S => xm_go (nx, xm_drop D L, .long (x <<< (y.toInt64 &&& 63)) :: S, M, bc, bs)
    | .lshr => xm_pI S fun y S => xm_pL S fun x S => xm_go (nx, xm_drop D L, .long (x >>> (y.toInt64 &&& 63)) :: S, M, bc, bs)
    | .lushr => xm_pI S fun y S => xm_pL S fun x S => xm_go (nx, xm_drop D L, .long ((x.toUInt64 >>> (y.toInt64.toUInt64 &&& Int64.toUInt64 63)).toInt64) :: S, M, bc, bs)
    | .i2l => xm_pI S fun x S => xm_go (nx, xm_drop D L, .long x.toInt64 :: S, M, bc, bs)
    | .l2i => xm_pL S fun x S => xm_go (nx, xm_drop D L, .int x.toInt32 :: S, M, bc, bs)
    | .lcmp => xm_pL S fun y S => xm_pL S fun x S => xm_go (nx, xm_drop D L, .int (lg_cmp x y) :: S, M, bc, bs)
    | .dup => (match S with
      | .int x :: S => xm_go (nx, xm_drop D L, .int x :: .int x :: S, M, bc, bs)
      | .ref x :: S => xm_go (nx, xm_drop D L, .ref x :: .ref x :: S, M, bc, bs)
      | _ => xm_bad)
    | .dup2 => xm_pI S fun y S => xm_pR S fun x S => xm_go (nx, xm_drop D L, .int y :: .ref x :: .int y :: .ref x :: S, M, bc, bs)
    | .pop => (match S with
      | .int _ :: S => xm_go (nx, xm_drop D L, S, M, bc, bs)
      | .ref _ :: S => xm_go (nx, xm_drop D L, S, M, bc, bs)
      | _ => xm_bad)
    | .goto _ => xm_go (tg, xm_drop D L, S, M, bc, bs)
    | .ifCond q _ => xm_pI S fun x S => (match q with
      | .eq => xm_br (x = 0) (tg, xm_drop D2 L, S, M, bc, bs) (nx, xm_drop D L, S, M, bc, bs)
      | .ne => xm_br (x = 0) (nx, xm_drop D L, S, M, bc, bs) (tg, xm_drop D2 L, S, M, bc, bs)
      | .lt => xm_br (x < 0) (tg, xm_drop D2 L, S, M, bc, bs) (nx, xm_drop D L, S, M, bc, bs)
      | .ge => xm_br (0 ≤ x) (tg, xm_drop D2 L, S, M, bc, bs) (nx, xm_drop D L, S, M, bc, bs)
      | .gt => xm_br (0 < x) (tg, xm_drop D2 L, S, M, bc, bs) (nx, xm_drop D L, S, M, bc, bs)
      | .le => xm_br (x ≤ 0) (tg, xm_drop D2 L, S, M, bc, bs) (nx, xm_drop D L, S, M, bc, bs))
    | .if_icmp q _ => xm_pI S fun y S => xm_pI S fun x S => (match q with
      | .eq => xm_br (x = y) (tg, xm_drop D2 L, S, M, bc, bs) (nx, xm_drop D L, S, M, bc, bs)
      | .ne => xm_br (x = y) (nx, xm_drop D L, S, M, bc, bs) (tg, xm_drop D2 L, S, M, bc, bs)
      | .lt => xm_br (x < y) (tg, xm_drop D2 L, S, M, bc, bs) (nx, xm_drop D L, S, M, bc, bs)
      | .ge => xm_br (y ≤ x) (tg, xm_drop D2 L, S, M, bc, bs) (nx, xm_drop D L, S, M, bc, bs)
      | .gt => xm_br (y < x) (tg, xm_drop D2 L, S, M, bc, bs) (nx, xm_drop D L, S, M, bc, bs)
      | .le => xm_br (x ≤ y) (tg, xm_drop D2 L, S, M, bc, bs) (nx, xm_drop D L, S, M, bc, bs))
    | .tableswitch _ _ _ _ => xm_pI S fun x S => xm_sw (sw.map fun q => (x = q.1, (q.2.1, xm_drop q.2.2 L, S, M, bc, bs))) (tg, xm_drop D2 L, S, M, bc, bs)
    | .getfield _ => xm_pR S fun k S => (match d with
      | 0 => xm_sh M k 3 fun ci => xm_if (Nat.beq ci a) (match c with
        | 1 => xm_go (nx, xm_drop D L, .long (M.2.2.1 k b) :: S, M, bc, bs)
        | 2 => xm_rv (M.2.2.2 k b) fun q => xm_go (nx, xm_drop D L, .ref q :: S, M, bc, bs)
        | _ => xm_go (nx, xm_drop D L, .int (M.2.1 k b) :: S, M, bc, bs))
      | _ => (match c with
        | 1 => xm_pre (xm_nth M.1 k = some (3, a)) (nx, xm_drop D L, .long (M.2.2.1 k b) :: S, M, bc, bs)
        | 2 => xm_bad
        | _ => xm_pre (xm_nth M.1 k = some (3, a)) (nx, xm_drop D L, .int (M.2.1 k b) :: S, M, bc, bs)))
    | .putfield _ => (match c with
      | 1 => xm_pL S fun x S => xm_pR S fun k S => (match d with
        | 0 => xm_sh M k 3 fun ci => xm_if (Nat.beq ci a) (xm_go (nx, xm_drop D L, S, (M.1, M.2.1, xm_up M.2.2.1 k b x, M.2.2.2), bc, bs))
        | _ => xm_pre (xm_nth M.1 k = some (3, a)) (nx, xm_drop D L, S, (M.1, M.2.1, xm_up M.2.2.1 k b x, M.2.2.2), bc, bs))
      | 2 => xm_pR S fun x S => xm_pR S fun k S => xm_sh M k 3 fun ci => xm_if (Nat.beq ci a) (xm_go (nx, xm_drop D L, S, (M.1, M.2.1, M.2.2.1, xm_up M.2.2.2 k b (x + 1)), bc, bs))
      | 3 => xm_pI S fun x S => xm_pR S fun k S => xm_sh M k 3 fun ci => xm_if (Nat.beq ci a) (xm_pre (x = 0 ∨ x = 1) (nx, xm_drop D L, S, (M.1, xm_up M.2.1 k b x, M.2.2), bc, bs))
      | _ => xm_pI S fun x S => xm_pR S fun k S => (match d with
        | 0 => xm_sh M k 3 fun ci => xm_if (Nat.beq ci a) (xm_go (nx, xm_drop D L, S, (M.1, xm_up M.2.1 k b x, M.2.2), bc, bs))
        | _ => xm_pre (xm_nth M.1 k = some (3, a)) (nx, xm_drop D L, S, (M.1, xm_up M.2.1 k b x, M.2.2), bc, bs)))
    | .iaload => xm_pI S fun i S => xm_pR S fun k S => xm_sh M k 0 fun n => xm_pre (vp_in i n) (nx, xm_drop D L, .int (M.2.1 k i.toNatClampNeg) :: S, M, bc, bs)
    | .laload => xm_pI S fun i S => xm_pR S fun k S => xm_sh M k 1 fun n => xm_pre (vp_in i n) (nx, xm_drop D L, .long (M.2.2.1 k i.toNatClampNeg) :: S, M, bc, bs)
    | .aaload => xm_pI S fun i S => xm_pR S fun k S => xm_sh M k 2 fun n => xm_ex (vp_in i n) (M.2.2.2 k i.toNatClampNeg) fun q => (nx, xm_drop D L, .ref q :: S, M, bc, bs)
    | .iastore => xm_pI S fun x S => xm_pI S fun i S => xm_pR S fun k S => xm_sh M k 0 fun n => xm_pre (vp_in i n) (nx, xm_drop D L, S, (M.1, xm_up M.2.1 k i.toNatClampNeg x, M.2.2), bc, bs)
    | .lastore => xm_pL S fun x S => xm_pI S fun i S => xm_pR S fun k S => xm_sh M k 1 fun n => xm_pre (vp_in i n) (nx, xm_drop D L, S, (M.1, M.2.1, xm_up M.2.2.1 k i.toNatClampNeg x, M.2.2.2), bc, bs)
    | .aastore => xm_pR S fun x S => xm_pI S fun i S => xm_pR S fun k S => xm_sh M k 2 fun n => xm_pre (vp_in i n ∧ xm_nth M.1 x = some (3, a)) (nx, xm_drop D L, S, (M.1, M.2.1, M.2.2.1, xm_up M.2.2.2 k i.toNatClampNeg (x + 1)), bc, bs)
    | .arraylength => xm_pR S fun k S => xm_sh M k 0 fun n => xm_go (nx, xm_drop D L, .int (Int32.ofNat n) :: S, M, bc, bs)
    | .newarray _ => xm_pI S fun x S => xm_if (Nat.ble 1 bc && Nat.ble b bs) (xm_pre (x = kI) (nx, xm_drop D L, .ref M.1.length :: S, (M.1 ++ [(a, b)], xm_row M.2.1 M.1.length 0, xm_row M.2.2.1 M.1.length 0, M.2.2.2), bc - 1, bs - b))
    | .anewarray _ => xm_pI S fun x S => xm_if (Nat.ble 1 bc && Nat.ble b bs) (xm_pre (x = kI) (nx, xm_drop D L, .ref M.1.length :: S, (M.1 ++ [(2, b)], M.2.1, M.2.2.1, xm_row M.2.2.2 M.1.length 0), bc - 1, bs - b))
    | .new _ => xm_if (Nat.ble 1 bc && Nat.ble b bs) (xm_go (nx, xm_drop D L, .ref M.1.length :: S, (M.1 ++ [(3, a)], xm_row M.2.1 M.1.length 0, xm_row M.2.2.1 M.1.length 0, xm_row M.2.2.2 M.1.length 0), bc - 1, bs - b))
    | .invokevirtual _ => xm_pop b [] S fun As S => xm_pR S fun k S => xm_sh M k 3 fun ci => xm_if (Nat.beq ci c && (Nat.ble (xm_cat S) 8 && (Nat.ble (Z.2.2 a).1 bc && Nat.ble (Z.2.2 a).2 bs))) (xm_call a (.ref k :: As) M (xm_bk nx (xm_drop D L) S (bc - (Z.2.2 a).1) (bs - (Z.2.2 a).2)))
    | .invokestatic _ => xm_pop b [] S fun As S => xm_if (Nat.ble (xm_cat S) 8 && (Nat.ble (Z.2.2 a).1 bc && Nat.ble (Z.2.2 a).2 bs)) (xm_call a As M (xm_bk nx (xm_drop D L) S (bc - (Z.2.2 a).1) (bs - (Z.2.2 a).2)))
    | .invokespecial _ => (match d with
      | 0 => xm_pR S fun _ S => xm_if (Nat.ble (xm_cat S) 8) (xm_go (nx, xm_drop D L, S, M, bc, bs))
      | _ => xm_pop b [] S fun As S => xm_pR S fun k S => xm_if (Nat.ble (xm_cat S) 8 && (Nat.ble (Z.2.2 a).1 bc && Nat.ble (Z.2.2 a).2 bs)) (xm_call a (.ref k :: As) M (xm_bk nx (xm_drop D L) S (bc - (Z.2.2 a).1) (bs - (Z.2.2 a).2))))
    | .ireturn => (match S with
      | [.int x] => (match d with
        | 0 => xm_ret (some (.int x), M)
        | _ => xm_retb (x = 0 ∨ x = 1) (some (.int x), M))
      | _ => xm_bad)
    | .lreturn => (match S with
      | [.long x] => xm_ret (some (.long x), M)
      | _ => xm_bad)
    | .return_ => (match S with
      | [] => xm_ret (none, M)
      | _ => xm_bad)
    | _ => xm_bad
def xm_step (Z : xm_Z) (t : Nat → Option xm_E) (s : xm_S) : xm_O := match s with
  | (pc, L, S, M, bc, bs) => match t pc with
    | none => xm_bad
    | some e => xm_ins Z e L S M bc bs
def xm_all (ih : xm_S → Prop) (d : xm_S) : List (Prop × xm_S) → Prop
  | [] => ih d
  | (c, s) :: l => (c → ih s) ∧ (¬ c → xm_all ih d l)
abbrev xm_C : Type := Nat → List Value → xm_M → (xm_R → Prop) → Prop
def xm_F (ic : xm_C) (P : xm_R → Prop) (ih : xm_S → Prop) (o : xm_O) : Prop := match o with
  | .inl s => ih s
  | .inr (.inl (c, s)) => c ∧ ih s
  | .inr (.inr (.inl (c, s, t))) => (c → ih s) ∧ (¬ c → ih t)
  | .inr (.inr (.inr (.inl (c, x, f)))) => c ∧ ∃ k, x = k + 1 ∧ ih (f k)
  | .inr (.inr (.inr (.inr (.inl (m, av, M, f))))) => ∃ P0 : xm_R → Prop, ic m av M P0 ∧ ∀ r, P0 r → ih (f r)
  | .inr (.inr (.inr (.inr (.inr (.inl r))))) => P r
  | .inr (.inr (.inr (.inr (.inr (.inr (.inl (c, r))))))) => c ∧ P r
  | .inr (.inr (.inr (.inr (.inr (.inr (.inr (.inl (l, d)))))))) => xm_all ih d l
  | .inr (.inr (.inr (.inr (.inr (.inr (.inr (.inr ()))))))) => False
theorem xm_all_mono {X Y : xm_S → Prop} (h : ∀ s, X s → Y s) {d : xm_S} : ∀ {l : List (Prop × xm_S)}, xm_all X d l → xm_all Y d l
  | [], q => h _ q
  | (_, _) :: _, q => ⟨fun c => h _ (q.1 c), fun c => xm_all_mono h (q.2 c)⟩
theorem xm_F_mono {ic ic' : xm_C} {P P' : xm_R → Prop} {X Y : xm_S → Prop} (hc : ∀ m av M P0, ic m av M P0 → ic' m av M P0) (hP : ∀ r, P r → P' r) (h : ∀ s, X s → Y s) {o : xm_O} (q : xm_F ic P X o) : xm_F ic' P' Y o := by
  rcases o with s | ⟨c, s⟩ | ⟨c, s, t⟩ | ⟨c, x, f⟩ | ⟨m, av, M, f⟩ | r | ⟨c, r⟩ | ⟨l, d⟩ | u
  · exact h _ q
  · exact ⟨q.1, h _ q.2⟩
  · exact ⟨fun z => h _ (q.1 z), fun z => h _ (q.2 z)⟩
  · obtain ⟨q0, k, q1, q2⟩ := q
    exact ⟨q0, k, q1, h _ q2⟩
  · obtain ⟨P0, q1, q2⟩ := q
    exact ⟨P0, hc _ _ _ _ q1, fun r z => h _ (q2 r z)⟩
  · exact hP _ q
  · exact ⟨q.1, hP _ q.2⟩
  · exact xm_all_mono h q
  · exact q
/-- from here a frame ends, with P -/
def xm_W (Z : xm_Z) (ic : xm_C) (P : xm_R → Prop) (t : Nat → Option xm_E) (s : xm_S) : Prop := ∀ X : xm_S → Prop, (∀ s, xm_F ic P X (xm_step Z t s) → X s) → X s
theorem xm_fold {Z : xm_Z} {ic : xm_C} {P : xm_R → Prop} {t : Nat → Option xm_E} {s : xm_S} (h : xm_F ic P (xm_W Z ic P t) (xm_step Z t s)) : xm_W Z ic P t s :=
  fun X hX => hX s (xm_F_mono (fun _ _ _ _ z => z) (fun _ z => z) (fun _ z => z X hX) h)
theorem xm_W_mono {Z : xm_Z} {ic ic' : xm_C} {P P' : xm_R → Prop} (hc : ∀ m av M P0, ic m av M P0 → ic' m av M P0) (hP : ∀ r, P r → P' r) {t : Nat → Option xm_E} {s : xm_S} (h : xm_W Z ic P t s) : xm_W Z ic' P' t s :=
  h (xm_W Z ic' P' t) (fun _ q => xm_fold (xm_F_mono hc hP (fun _ z => z) q))
/-- up to n steps, through what is straight -/
def xm_run (Z : xm_Z) (ic : xm_C) (P : xm_R → Prop) (ih : xm_S → Prop) (t : Nat → Option xm_E) : Nat → xm_S → Prop
  | 0, s => ih s
  | n + 1, s => match xm_step Z t s with
    | .inl s => xm_run Z ic P ih t n s
    | .inr (.inl (c, s)) => c ∧ xm_run Z ic P ih t n s
    | .inr (.inr (.inr (.inl (c, x, f)))) => c ∧ ∃ k, x = k + 1 ∧ xm_run Z ic P ih t n (f k)
    | o => xm_F ic P ih o
theorem xm_blk {Z : xm_Z} {ic : xm_C} {P : xm_R → Prop} {t : Nat → Option xm_E} : ∀ (n : Nat) {s : xm_S}, xm_run Z ic P (xm_W Z ic P t) t n s → xm_W Z ic P t s := by
  intro n
  induction n with
  | zero => intro s h; exact h
  | succ n ih =>
    intro s h
    refine xm_fold ?_
    unfold xm_run at h
    generalize xm_step Z t s = o at h ⊢
    rcases o with s | ⟨c, s⟩ | ⟨c, s, t⟩ | ⟨c, x, f⟩ | ⟨m, av, M, f⟩ | r | ⟨c, r⟩ | ⟨l, d⟩ | u
    · exact ih h
    · exact ⟨h.1, ih h.2⟩
    · exact h
    · obtain ⟨q0, k, q1, q2⟩ := h
      exact ⟨q0, k, q1, ih q2⟩
    · exact h
    · exact h
    · exact h
    · exact h
    · exact h
/-- a call's beginning -/
def xm_ea : List Value → xm_L
  | [] => []
  | .long x :: vs => some (.long x) :: none :: xm_ea vs
  | .double x :: vs => some (.double x) :: none :: xm_ea vs
  | v :: vs => some v :: xm_ea vs
def xm_pad : Nat → xm_L → xm_L
  | 0, L => L
  | n + 1, [] => none :: xm_pad n []
  | n + 1, a :: L => a :: xm_pad n L
def xm_st (Z : xm_Z) (m : Nat) (av : List Value) (M : xm_M) : xm_S := (bif Nat.ble (xm_cat av) (Z.2.1 m) then 0 else 1000000, xm_pad (Z.2.1 m) (xm_ea av), [], M, (Z.2.2 m).1, (Z.2.2 m).2)
/-- method m, called with av in memory M, ends with P -/
def xm_Ev (Z : xm_Z) (m : Nat) (av : List Value) (M : xm_M) (P : xm_R → Prop) : Prop := ∀ E : xm_C, (∀ m av M P, xm_W Z E P (Z.1 m) (xm_st Z m av M) → E m av M P) → E m av M P
theorem xm_in {Z : xm_Z} {m : Nat} {av : List Value} {M : xm_M} {P : xm_R → Prop} (h : xm_W Z (xm_Ev Z) P (Z.1 m) (xm_st Z m av M)) : xm_Ev Z m av M P :=
  fun E hE => hE m av M P (xm_W_mono (fun _ _ _ _ z => z E hE) (fun _ z => z) h)
theorem xm_Ev.imp {Z : xm_Z} {m : Nat} {av : List Value} {M : xm_M} {P P' : xm_R → Prop} (h : xm_Ev Z m av M P) (hP : ∀ r, P r → P' r) : xm_Ev Z m av M P' := by
  intro E hE
  refine h (fun m av M P => ∀ P' : xm_R → Prop, (∀ r, P r → P' r) → E m av M P') ?_ P' hP
  intro m av M P hW P' hP
  exact hE m av M P' (xm_W_mono (fun _ _ _ _ z => z _ (fun _ q => q)) hP hW)
end
section
theorem xm_nth_eq {α : Type} : ∀ (l : List α) (n : Nat), xm_nth l n = l[n]?
  | [], n => by simp [xm_nth]
  | a :: l, 0 => by simp [xm_nth]
  | a :: l, n + 1 => by simp [xm_nth, xm_nth_eq l n]
/-- a number of a cell becomes its address -/
def xm_v (b : Nat) (v : Value) : Value := match v with
  | .ref k => .ref (b + k)
  | v => v
def xm_q (b x : Nat) : Option Nat := match x with
  | 0 => none
  | k + 1 => some (b + k)
theorem xm_v_cat (b : Nat) (v : Value) : (xm_v b v).category = v.category := by cases v <;> rfl
theorem xm_ct_eq (v : Value) : xm_ct v = v.category := by cases v <;> rfl
theorem xm_cat_eq (b : Nat) : ∀ S : List Value, ((S.map (xm_v b)).map fun v => v.category).sum = xm_cat S
  | [] => rfl
  | v :: S => by
    simp only [List.map_cons, List.sum_cons, xm_cat, xm_v_cat, xm_ct_eq]
    rw [xm_cat_eq b S]
def xm_l (b : Nat) : Nat → xm_L → List (Nat × Value)
  | _, [] => []
  | i, none :: L => xm_l b (i + 1) L
  | i, some v :: L => (i, xm_v b v) :: xm_l b (i + 1) L
theorem xm_l_mem {b : Nat} : ∀ {L : xm_L} {i : Nat} {q : Nat × Value}, q ∈ xm_l b i L → ∃ j v, xm_nth L j = some (some v) ∧ q = (i + j, xm_v b v)
  | [], i, q, h => by simp [xm_l] at h
  | none :: L, i, q, h => by
    obtain ⟨j, v, h1, h2⟩ := xm_l_mem (L := L) (i := i + 1) h
    exact ⟨j + 1, v, h1, by rw [h2, show i + 1 + j = i + (j + 1) by omega]⟩
  | some w :: L, i, q, h => by
    rcases List.mem_cons.mp h with h | h
    · exact ⟨0, w, rfl, h⟩
    · obtain ⟨j, v, h1, h2⟩ := xm_l_mem (L := L) (i := i + 1) h
      exact ⟨j + 1, v, h1, by rw [h2, show i + 1 + j = i + (j + 1) by omega]⟩
theorem xm_mem_l {b : Nat} {v : Value} : ∀ {L : xm_L} {i j : Nat}, xm_nth L j = some (some v) → (i + j, xm_v b v) ∈ xm_l b i L
  | [], i, j, h => by simp [xm_nth] at h
  | none :: L, i, 0, h => by simp [xm_nth] at h
  | none :: L, i, j + 1, h => by
    have := xm_mem_l (b := b) (L := L) (i := i + 1) (j := j) h
    rw [show i + 1 + j = i + (j + 1) by omega] at this
    exact this
  | some w :: L, i, 0, h => by
    have e : w = v := by simpa [xm_nth] using h
    rw [e]
    exact List.mem_cons_self
  | some w :: L, i, j + 1, h => by
    have := xm_mem_l (b := b) (L := L) (i := i + 1) (j := j) h
    rw [show i + 1 + j = i + (j + 1) by omega] at this
    exact List.mem_cons_of_mem _ this
theorem xm_rd {b : Nat} {ls : Array Slot} {nL : Nat} {L : xm_L} {a : Nat} {v : Value} (h : lv_has ls nL (xm_l b 0 L)) (hg : xm_nth L a = some (some v)) : ls[a]? = some (.val (xm_v b v)) := by
  have := xm_mem_l (b := b) (i := 0) hg
  rw [Nat.zero_add] at this
  exact h.2.2 _ this
theorem xm_sb {ls : Array Slot} {nL : Nat} {l l' : List (Nat × Value)} (h : lv_has ls nL l) (hs : ∀ q, q ∈ l' → q ∈ l) : lv_has ls nL l' := ⟨h.1, h.2.1, fun q hq => h.2.2 q (hs q hq)⟩
theorem xm_no_nth {v : Value} : ∀ {i : Nat} {L : xm_L} {j : Nat}, xm_nth (xm_no i L) j = some (some v) → xm_nth L j = some (some v)
  | _, [], j, h => by simp [xm_no, xm_nth] at h
  | 0, _ :: l, 0, h => by simp [xm_no, xm_nth] at h
  | 0, _ :: l, j + 1, h => h
  | n + 1, a :: l, 0, h => h
  | n + 1, a :: l, j + 1, h => xm_no_nth (i := n) (L := l) (j := j) h
theorem xm_drop_nth {v : Value} {j : Nat} : ∀ {D : List Nat} {L : xm_L}, xm_nth (xm_drop D L) j = some (some v) → xm_nth L j = some (some v)
  | [], _, h => h
  | _ :: D, _, h => xm_no_nth (xm_drop_nth (D := D) h)
theorem xm_sbN {b : Nat} {ls : Array Slot} {nL : Nat} {L L' : xm_L} (h : lv_has ls nL (xm_l b 0 L)) (hs : ∀ j v, xm_nth L' j = some (some v) → xm_nth L j = some (some v)) : lv_has ls nL (xm_l b 0 L') := by
  refine xm_sb h fun q hq => ?_
  obtain ⟨j, v, h1, h2⟩ := xm_l_mem hq
  rw [h2]
  exact xm_mem_l (hs j v h1)
theorem xm_kl_some {a : Option Value} {w : Value} (h : xm_kl a = some w) : a = some w ∧ ¬ w.category = 2 := by
  cases a with
  | none => simp [xm_kl] at h
  | some v => cases v <;> simp [xm_kl] at h <;> subst h <;> exact ⟨rfl, (show ¬ (1 : Nat) = 2 by decide)⟩
theorem xm_s1_nth (v : Value) : ∀ (i : Nat) (L : xm_L) (j : Nat) (w : Value), xm_nth (xm_s1 v i L) j = some (some w) → (j = i ∧ w = v) ∨ (j ≠ i ∧ xm_nth L j = some (some w) ∧ (j + 1 = i → ¬ w.category = 2))
  | _, [], j, w, h => by simp [xm_s1, xm_nth] at h
  | 0, a :: l, 0, w, h => Or.inl ⟨rfl, by simpa [xm_s1, xm_nth, eq_comm] using h⟩
  | 0, a :: l, j + 1, w, h => Or.inr ⟨by omega, h, by omega⟩
  | 1, a :: l, 0, w, h => by
    have h' : xm_kl a = some w := by simpa [xm_s1, xm_nth] using h
    obtain ⟨e1, e2⟩ := xm_kl_some h'
    exact Or.inr ⟨by omega, by rw [e1]; rfl, fun _ => e2⟩
  | 1, a :: l, j + 1, w, h => by
    have h' : xm_nth (xm_s1 v 0 l) j = some (some w) := h
    rcases xm_s1_nth v 0 l j w h' with ⟨e1, e2⟩ | ⟨e1, e2, e3⟩
    · exact Or.inl ⟨by omega, e2⟩
    · exact Or.inr ⟨by omega, e2, by omega⟩
  | n + 2, a :: l, 0, w, h => Or.inr ⟨by omega, h, by omega⟩
  | n + 2, a :: l, j + 1, w, h => by
    have h' : xm_nth (xm_s1 v (n + 1) l) j = some (some w) := h
    rcases xm_s1_nth v (n + 1) l j w h' with ⟨e1, e2⟩ | ⟨e1, e2, e3⟩
    · exact Or.inl ⟨by omega, e2⟩
    · exact Or.inr ⟨by omega, e2, fun z => e3 (by omega)⟩
theorem xm_s2_nth (v : Value) : ∀ (i : Nat) (L : xm_L) (j : Nat) (w : Value), xm_nth (xm_s2 v i L) j = some (some w) → (j = i ∧ w = v) ∨ (j ≠ i ∧ j ≠ i + 1 ∧ xm_nth L j = some (some w) ∧ (j + 1 = i → ¬ w.category = 2))
  | _, [], j, w, h => by simp [xm_s2, xm_nth] at h
  | 0, a :: l, 0, w, h => Or.inl ⟨rfl, by simpa [xm_s2, xm_nth, eq_comm] using h⟩
  | 0, a :: l, 1, w, h => by
    cases l <;> simp [xm_s2, xm_nth, xm_no] at h
  | 0, a :: l, j + 2, w, h => by
    have h' : xm_nth (xm_no 0 l) (j + 1) = some (some w) := h
    have h2 : xm_nth l (j + 1) = some (some w) := xm_no_nth h'
    exact Or.inr ⟨by omega, by omega, h2, by omega⟩
  | 1, a :: l, 0, w, h => by
    have h' : xm_kl a = some w := by simpa [xm_s2, xm_nth] using h
    obtain ⟨e1, e2⟩ := xm_kl_some h'
    exact Or.inr ⟨by omega, by omega, by rw [e1]; rfl, fun _ => e2⟩
  | 1, a :: l, j + 1, w, h => by
    have h' : xm_nth (xm_s2 v 0 l) j = some (some w) := h
    rcases xm_s2_nth v 0 l j w h' with ⟨e1, e2⟩ | ⟨e1, e1', e2, e3⟩
    · exact Or.inl ⟨by omega, e2⟩
    · exact Or.inr ⟨by omega, by omega, e2, by omega⟩
  | n + 2, a :: l, 0, w, h => Or.inr ⟨by omega, by omega, h, by omega⟩
  | n + 2, a :: l, j + 1, w, h => by
    have h' : xm_nth (xm_s2 v (n + 1) l) j = some (some w) := h
    rcases xm_s2_nth v (n + 1) l j w h' with ⟨e1, e2⟩ | ⟨e1, e1', e2, e3⟩
    · exact Or.inl ⟨by omega, e2⟩
    · exact Or.inr ⟨by omega, by omega, e2, fun z => e3 (by omega)⟩
theorem xm_st1 {b : Nat} {ls : Array Slot} {nL i : Nat} {v : Value} {L : xm_L} (h : lv_has ls nL ((i, xm_v b v) :: (xm_l b 0 L).filter (fun q => !(q.1 == i) && !(q.1 + 1 == i && q.2.category == 2)))) : lv_has ls nL (xm_l b 0 (xm_s1 v i L)) := by
  refine xm_sb h fun q hq => ?_
  obtain ⟨j, w, h1, h2⟩ := xm_l_mem hq
  rw [Nat.zero_add] at h2
  rcases xm_s1_nth v i L j w h1 with ⟨e1, e2⟩ | ⟨e1, e2, e3⟩
  · rw [h2, e1, e2]
    exact List.mem_cons_self
  · refine List.mem_cons_of_mem _ (List.mem_filter.mpr ⟨?_, ?_⟩)
    · have := xm_mem_l (b := b) (i := 0) e2
      rw [Nat.zero_add] at this
      rw [h2]; exact this
    · rw [h2]
      have c1 : (j == i) = false := by simpa using e1
      have c2 : (j + 1 == i && (xm_v b w).category == 2) = false := by
        by_cases hj : j + 1 = i
        · have := e3 hj
          rw [xm_v_cat]
          simp [this]
        · simp [hj]
      show (!(j == i) && !(j + 1 == i && (xm_v b w).category == 2)) = true
      rw [c1, c2]
      rfl
theorem xm_st2 {b : Nat} {ls : Array Slot} {nL i : Nat} {v : Value} {L : xm_L} (h : lv_has ls nL ((i, xm_v b v) :: (xm_l b 0 L).filter (fun q => !(q.1 == i) && (!(q.1 == i + 1) && !(q.1 + 1 == i && q.2.category == 2))))) : lv_has ls nL (xm_l b 0 (xm_s2 v i L)) := by
  refine xm_sb h fun q hq => ?_
  obtain ⟨j, w, h1, h2⟩ := xm_l_mem hq
  rw [Nat.zero_add] at h2
  rcases xm_s2_nth v i L j w h1 with ⟨e1, e2⟩ | ⟨e1, e1', e2, e3⟩
  · rw [h2, e1, e2]
    exact List.mem_cons_self
  · refine List.mem_cons_of_mem _ (List.mem_filter.mpr ⟨?_, ?_⟩)
    · have := xm_mem_l (b := b) (i := 0) e2
      rw [Nat.zero_add] at this
      rw [h2]; exact this
    · rw [h2]
      have c1 : (j == i) = false := by simpa using e1
      have c0 : (j == i + 1) = false := by simpa using e1'
      have c2 : (j + 1 == i && (xm_v b w).category == 2) = false := by
        by_cases hj : j + 1 = i
        · have := e3 hj
          rw [xm_v_cat]
          simp [this]
        · simp [hj]
      show (!(j == i) && (!(j == i + 1) && !(j + 1 == i && (xm_v b w).category == 2))) = true
      rw [c1, c0, c2]
      rfl
/-- the entry's places -/
theorem xm_pad_nth {v : Value} : ∀ {n : Nat} {L : xm_L} {j : Nat}, xm_nth (xm_pad n L) j = some (some v) → xm_nth L j = some (some v)
  | 0, _, _, h => h
  | n + 1, [], 0, h => by simp [xm_pad, xm_nth] at h
  | n + 1, [], j + 1, h => by
    have := xm_pad_nth (n := n) (L := []) (j := j) h
    simp [xm_nth] at this
  | n + 1, a :: L, 0, h => h
  | n + 1, a :: L, j + 1, h => xm_pad_nth (n := n) (L := L) (j := j) h
theorem xm_ea_mem {b : Nat} {w : Value} : ∀ {av : List Value} {i j : Nat}, xm_nth (xm_ea av) j = some (some w) → (i + j, xm_v b w) ∈ lv_args i (av.map (xm_v b))
  | [], i, j, h => by simp [xm_ea, xm_nth] at h
  | v :: vs, i, j, h => by
    have one : ∀ {z : Value}, xm_ea (z :: vs) = some z :: xm_ea vs → ¬ z.category = 2 → xm_nth (xm_ea (z :: vs)) j = some (some w) → (i + j, xm_v b w) ∈ lv_args i ((z :: vs).map (xm_v b)) := by
      intro z e hc h
      rw [e] at h
      show (i + j, xm_v b w) ∈ (i, xm_v b z) :: lv_args (if (xm_v b z).category = 2 then i + 2 else i + 1) (vs.map (xm_v b))
      rw [xm_v_cat, if_neg hc]
      cases j with
      | zero =>
        have e2 : z = w := by simpa [xm_nth] using h
        rw [e2]; exact List.mem_cons_self
      | succ j =>
        have := xm_ea_mem (b := b) (av := vs) (i := i + 1) (j := j) h
        rw [show i + 1 + j = i + (j + 1) by omega] at this
        exact List.mem_cons_of_mem _ this
    have two : ∀ {z : Value}, xm_ea (z :: vs) = some z :: none :: xm_ea vs → z.category = 2 → xm_nth (xm_ea (z :: vs)) j = some (some w) → (i + j, xm_v b w) ∈ lv_args i ((z :: vs).map (xm_v b)) := by
      intro z e hc h
      rw [e] at h
      show (i + j, xm_v b w) ∈ (i, xm_v b z) :: lv_args (if (xm_v b z).category = 2 then i + 2 else i + 1) (vs.map (xm_v b))
      rw [xm_v_cat, if_pos hc]
      match j, h with
      | 0, h =>
        have e2 : z = w := by simpa [xm_nth] using h
        rw [e2]; exact List.mem_cons_self
      | 1, h => simp [xm_nth] at h
      | j + 2, h =>
        have := xm_ea_mem (b := b) (av := vs) (i := i + 2) (j := j) h
        rw [show i + 2 + j = i + (j + 2) by omega] at this
        exact List.mem_cons_of_mem _ this
    cases v with
    | long x => exact two rfl rfl h
    | double x => exact two rfl rfl h
    | int x => exact one rfl (show ¬ (1 : Nat) = 2 by decide) h
    | float x => exact one rfl (show ¬ (1 : Nat) = 2 by decide) h
    | null => exact one rfl (show ¬ (1 : Nat) = 2 by decide) h
    | ref x => exact one rfl (show ¬ (1 : Nat) = 2 by decide) h
    | retAddr x => exact one rfl (show ¬ (1 : Nat) = 2 by decide) h
theorem xm_sl_len (b : Nat) : ∀ av : List Value, (lg_sl (av.map (xm_v b))).length = xm_cat av
  | [] => rfl
  | v :: vs => by
    have ih := xm_sl_len b vs
    simp only [lg_sl] at ih
    simp only [lg_sl, List.map_cons, List.flatMap_cons, List.length_append, ih, xm_cat, xm_v_cat, xm_ct_eq]
    cases v <;> rfl
theorem xm_enter {b : Nat} {nL : Nat} {av : List Value} (h : xm_cat av ≤ nL) : lv_has ((lg_sl (av.map (xm_v b)) ++ List.replicate (nL - (lg_sl (av.map (xm_v b))).length) Slot.unset).toArray) nL (xm_l b 0 (xm_pad nL (xm_ea av))) := by
  have := lv_entry (av.map (xm_v b)) (n := nL) (by rw [xm_sl_len]; exact h)
  refine xm_sb this fun q hq => ?_
  obtain ⟨j, v, h1, h2⟩ := xm_l_mem hq
  rw [h2]
  exact xm_ea_mem (xm_pad_nth h1)
/-- the world of a memory: class numbers of ints, longs, references; the kinds of an object's fields (1 long, 2 reference, else int) -/
abbrev xm_G : Type := ClassId × ClassId × ClassId × (Nat → List Nat)
def xm_fv (b : Nat) (M : xm_M) (k j t : Nat) : Value := match t with
  | 1 => .long (M.2.2.1 k j)
  | 2 => va_rf (xm_q b (M.2.2.2 k j))
  | _ => .int (M.2.1 k j)
def xm_e (b : Nat) (G : xm_G) (M : xm_M) (k : Nat) (sh : Nat × Nat) : va_E := match sh.1 with
  | 0 => .inl (G.1, sh.2, .inl (M.2.1 k))
  | 1 => .inl (G.2.1, sh.2, .inr (.inl (M.2.2.1 k)))
  | 2 => .inl (G.2.2.1, sh.2, .inr (.inr (.inr (.inr (fun j => xm_q b (M.2.2.2 k j))))))
  | _ => .inr (sh.2, (G.2.2.2 sh.2).mapIdx (fun j t => xm_fv b M k j t))
def xm_w (b : Nat) (G : xm_G) (M : xm_M) : va_W := M.1.mapIdx (fun k sh => (b + k, xm_e b G M k sh))
theorem xm_w_get (b : Nat) (G : xm_G) (M : xm_M) (k : Nat) : (xm_w b G M)[k]? = (M.1[k]?).map (fun sh => (b + k, xm_e b G M k sh)) := by
  unfold xm_w
  rw [List.getElem?_mapIdx]
theorem xm_w_at {b : Nat} {G : xm_G} {M : xm_M} {k : Nat} {sh : Nat × Nat} (h : xm_nth M.1 k = some sh) : (xm_w b G M)[k]? = some (b + k, xm_e b G M k sh) := by
  rw [xm_w_get, ← xm_nth_eq, h]
  rfl
theorem xm_w_D {b : Nat} {G : xm_G} {M : xm_M} : va_D (fun q => b ≤ q) (xm_w b G M) := by
  have key : ∀ (k : Nat) (q : Nat × va_E), (xm_w b G M)[k]? = some q → q.1 = b + k := by
    intro k q hk
    rw [xm_w_get] at hk
    cases hm : M.1[k]? with
    | none => rw [hm] at hk; cases hk
    | some sh => rw [hm] at hk; cases hk; rfl
  refine ⟨fun i j x y hi hj hxy => ?_, fun k q hk => ?_⟩
  · have h1 := key i x hi
    have h2 := key j y hj
    omega
  · show b ≤ q.1
    rw [key k q hk]
    exact Nat.le_add_right _ _
theorem xm_w_set {b : Nat} {G : xm_G} {M M' : xm_M} {k : Nat} {sh : Nat × Nat} {e' : va_E} (h1 : M'.1 = M.1) (hk : xm_nth M.1 k = some sh) (he : xm_e b G M' k sh = e') (ho : ∀ i sh', i ≠ k → xm_e b G M' i sh' = xm_e b G M i sh') : (xm_w b G M).set k (b + k, e') = xm_w b G M' := by
  apply List.ext_getElem?
  intro i
  by_cases hi : i = k
  · subst hi
    have hl : i < (xm_w b G M).length := (List.getElem?_eq_some_iff.mp (xm_w_at (b := b) (G := G) hk)).1
    rw [List.getElem?_set_self hl, xm_w_at (M := M') (by rw [h1]; exact hk), he]
  · rw [List.getElem?_set_ne (Ne.symm hi), xm_w_get, xm_w_get, h1]
    cases M.1[i]? with
    | none => rfl
    | some sh' => simp only [Option.map_some, ho i sh' hi]
theorem xm_bne {a k : Nat} (h : a ≠ k) : Nat.beq a k = false := by
  cases hq : Nat.beq a k with
  | false => rfl
  | true => exact absurd (Nat.eq_of_beq_eq_true hq) h
theorem xm_brf (a : Nat) : Nat.beq a a = true := Nat.beq_refl a
theorem xm_up_ne {α : Type} {f : Nat → Nat → α} {k i a j : Nat} {v : α} (h : a ≠ k) : xm_up f k i v a j = f a j := by
  show (bif (Nat.beq a k && Nat.beq j i) then v else f a j) = f a j
  rw [xm_bne h]
  rfl
theorem xm_up_self {α : Type} {f : Nat → Nat → α} {k i j : Nat} {v : α} : xm_up f k i v k j = if j = i then v else f k j := by
  show (bif (Nat.beq k k && Nat.beq j i) then v else f k j) = if j = i then v else f k j
  by_cases h : j = i
  · subst h
    rw [xm_brf, xm_brf, if_pos rfl]
    rfl
  · rw [xm_brf, xm_bne h, if_neg h]
    rfl
theorem xm_eI {b : Nat} {G : xm_G} {M : xm_M} {k j : Nat} {x : Int32} {i : Nat} {sh : Nat × Nat} (h : i ≠ k) : xm_e b G (M.1, xm_up M.2.1 k j x, M.2.2) i sh = xm_e b G M i sh := by
  have e1 : xm_up M.2.1 k j x i = M.2.1 i := by funext z; exact xm_up_ne h
  have e2 : (fun z t => xm_fv b (M.1, xm_up M.2.1 k j x, M.2.2) i z t) = (fun z t => xm_fv b M i z t) := by
    funext z t
    unfold xm_fv
    split
    · rfl
    · rfl
    · simp only [e1]
  unfold xm_e
  simp only [e1, e2]
theorem xm_eL {b : Nat} {G : xm_G} {M : xm_M} {k j : Nat} {x : Int64} {i : Nat} {sh : Nat × Nat} (h : i ≠ k) : xm_e b G (M.1, M.2.1, xm_up M.2.2.1 k j x, M.2.2.2) i sh = xm_e b G M i sh := by
  have e1 : xm_up M.2.2.1 k j x i = M.2.2.1 i := by funext z; exact xm_up_ne h
  have e2 : (fun z t => xm_fv b (M.1, M.2.1, xm_up M.2.2.1 k j x, M.2.2.2) i z t) = (fun z t => xm_fv b M i z t) := by
    funext z t
    unfold xm_fv
    split
    · simp only [e1]
    · rfl
    · rfl
  unfold xm_e
  simp only [e1, e2]
theorem xm_eR {b : Nat} {G : xm_G} {M : xm_M} {k j : Nat} {x : Nat} {i : Nat} {sh : Nat × Nat} (h : i ≠ k) : xm_e b G (M.1, M.2.1, M.2.2.1, xm_up M.2.2.2 k j x) i sh = xm_e b G M i sh := by
  have e1 : xm_up M.2.2.2 k j x i = M.2.2.2 i := by funext z; exact xm_up_ne h
  have e2 : (fun z t => xm_fv b (M.1, M.2.1, M.2.2.1, xm_up M.2.2.2 k j x) i z t) = (fun z t => xm_fv b M i z t) := by
    funext z t
    unfold xm_fv
    split
    · rfl
    · simp only [e1]
    · rfl
  unfold xm_e
  simp only [e1, e2]
/-- a field of an object is written -/
theorem xm_fset {b : Nat} {M M' : xm_M} {k j t : Nat} {kd : List Nat} {v : Value} (hj : kd[j]? = some t) (hv : xm_fv b M' k j t = v) (ho : ∀ i t', kd[i]? = some t' → i ≠ j → xm_fv b M' k i t' = xm_fv b M k i t') : (kd.mapIdx (fun j t => xm_fv b M k j t)).set j v = kd.mapIdx (fun j t => xm_fv b M' k j t) := by
  apply List.ext_getElem?
  intro i
  by_cases hi : i = j
  · subst hi
    have hl : i < (kd.mapIdx (fun j t => xm_fv b M k j t)).length := by
      rw [List.length_mapIdx]
      exact (List.getElem?_eq_some_iff.mp hj).1
    rw [List.getElem?_set_self hl, List.getElem?_mapIdx, hj]
    simp only [Option.map_some, hv]
  · rw [List.getElem?_set_ne (Ne.symm hi), List.getElem?_mapIdx, List.getElem?_mapIdx]
    cases hk : kd[i]? with
    | none => rfl
    | some t' => simp only [Option.map_some, ho i t' hk hi]
end
section
/-- the machine at a frame: any heap that holds the memory, any places that hold the locals -/
def xm_X (p : Program) (l : Launch) (e : Env) (R : Room) (s : State) (m : MethodId) (args : Array Value) (below : List Frame) (meth : Method) (c : Code) (Q : State → Prop) (b : Nat) (G : xm_G) (D : va_G) (cl : List vw_C) (nL : Nat) (st : xm_S) : Prop :=
  ∀ (H : Heap) (locs : List Loc) (cells slots : Nat) (ls : Array Slot), va_P D cl (xm_w b G st.2.2.2.1) H → H.size = b + st.2.2.2.1.1.length → va_S (fun q => b ≤ q) s.heap H locs → cells + st.2.2.2.2.1 = R.cells → slots + st.2.2.2.2.2 = R.slots → lv_has ls nL (xm_l b 0 st.2.1) → W p l e R s m args below meth c H locs cells slots Q (F0 m st.1 ls (st.2.2.1.map (xm_v b)))
section XO
variable {p : Program} {l : Launch} {e : Env} {R : Room} {s : State} {m : MethodId} {args : Array Value} {below : List Frame} {meth : Method} {c : Code} {Q : State → Prop}
variable {b : Nat} {G : xm_G} {D : va_G} {cl : List vw_C} {nL : Nat} {cc : ByteArray} {pc : Nat} {L : xm_L} {S : List Value} {M : xm_M} {bc bs : Nat} {tys : List (ClassId × FieldType)} {CF : String}
theorem xs_drop (DD : List Nat) (k : xm_X p l e R s m args below meth c Q b G D cl nL (pc, xm_drop DD L, S, M, bc, bs)) : xm_X p l e R s m args below meth c Q b G D cl nL (pc, L, S, M, bc, bs) :=
  fun H locs cells slots ls hP hz hS hc hs hl => k H locs cells slots ls hP hz hS hc hs (xm_sbN hl fun _ _ h => xm_drop_nth h)
theorem xs_iconst (hx : p.tables.exec = Jvm.exec) (hb : c.code = cc) {n : Int} {v : Int32} (hd : decode cc pc = .ok (.iconst n, 1)) (hv : Int32.ofInt n = v) (k : xm_X p l e R s m args below meth c Q b G D cl nL (pc + 1, L, .int v :: S, M, bc, bs)) : xm_X p l e R s m args below meth c Q b G D cl nL (pc, L, S, M, bc, bs) := fun H locs cells slots ls hP hz hS hc hs hl => lv_iconst hx hb hd hv (k H locs cells slots ls hP hz hS hc hs hl)
theorem xs_bipush (hx : p.tables.exec = Jvm.exec) (hb : c.code = cc) {n : Int} {v : Int32} (hd : decode cc pc = .ok (.bipush n, 2)) (hv : (Int8.ofInt n).toInt32 = v) (k : xm_X p l e R s m args below meth c Q b G D cl nL (pc + 2, L, .int v :: S, M, bc, bs)) : xm_X p l e R s m args below meth c Q b G D cl nL (pc, L, S, M, bc, bs) := fun H locs cells slots ls hP hz hS hc hs hl => lv_bipush hx hb hd hv (k H locs cells slots ls hP hz hS hc hs hl)
theorem xs_sipush (hx : p.tables.exec = Jvm.exec) (hb : c.code = cc) {n : Int} {v : Int32} (hd : decode cc pc = .ok (.sipush n, 3)) (hv : (Int16.ofInt n).toInt32 = v) (k : xm_X p l e R s m args below meth c Q b G D cl nL (pc + 3, L, .int v :: S, M, bc, bs)) : xm_X p l e R s m args below meth c Q b G D cl nL (pc, L, S, M, bc, bs) := fun H locs cells slots ls hP hz hS hc hs hl => lv_sipush hx hb hd hv (k H locs cells slots ls hP hz hS hc hs hl)
theorem xs_lconst (hx : p.tables.exec = Jvm.exec) (hb : c.code = cc) {n : Fin 2} {v : Int64} (hd : decode cc pc = .ok (.lconst n, 1)) (hv : Int64.ofNat (n : Nat) = v) (k : xm_X p l e R s m args below meth c Q b G D cl nL (pc + 1, L, .long v :: S, M, bc, bs)) : xm_X p l e R s m args below meth c Q b G D cl nL (pc, L, S, M, bc, bs) := fun H locs cells slots ls hP hz hS hc hs hl => lv_lconst hx hb hd hv (k H locs cells slots ls hP hz hS hc hs hl)
theorem xs_ldc (hx : p.tables.exec = Jvm.exec) (hb : c.code = cc) {own : String} {ix : Nat} {v : Int32} (hd : decode cc pc = .ok (.ldc ix, 2)) (hown : s.vm.findClass own = some m.cls) (hk : (Jvm.Cond.constant own ix v).before args s = true) (k : xm_X p l e R s m args below meth c Q b G D cl nL (pc + 2, L, .int v :: S, M, bc, bs)) : xm_X p l e R s m args below meth c Q b G D cl nL (pc, L, S, M, bc, bs) := fun H locs cells slots ls hP hz hS hc hs hl => lv_ldc hx hb hown hk hd (k H locs cells slots ls hP hz hS hc hs hl)
theorem xs_ldcw (hx : p.tables.exec = Jvm.exec) (hb : c.code = cc) {own : String} {ix : Nat} {v : Int32} (hd : decode cc pc = .ok (.ldc_w ix, 3)) (hown : s.vm.findClass own = some m.cls) (hk : (Jvm.Cond.constant own ix v).before args s = true) (k : xm_X p l e R s m args below meth c Q b G D cl nL (pc + 3, L, .int v :: S, M, bc, bs)) : xm_X p l e R s m args below meth c Q b G D cl nL (pc, L, S, M, bc, bs) := fun H locs cells slots ls hP hz hS hc hs hl => lv_ldcw hx hb hown hk hd (k H locs cells slots ls hP hz hS hc hs hl)
theorem xs_ldc2 (hx : p.tables.exec = Jvm.exec) (hb : c.code = cc) {own : String} {ix : Nat} {v : Int64} (hd : decode cc pc = .ok (.ldc2_w ix, 3)) (hown : s.vm.findClass own = some m.cls) (hk : (Jvm.Cond.constantLong own ix v).before args s = true) (k : xm_X p l e R s m args below meth c Q b G D cl nL (pc + 3, L, .long v :: S, M, bc, bs)) : xm_X p l e R s m args below meth c Q b G D cl nL (pc, L, S, M, bc, bs) := fun H locs cells slots ls hP hz hS hc hs hl => lv_ldc2 hx hb hown hk hd (k H locs cells slots ls hP hz hS hc hs hl)
theorem xs_iload_n (hx : p.tables.exec = Jvm.exec) (hb : c.code = cc) {i : Fin 4} {a : Nat} {x : Int32} (hd : decode cc pc = .ok (.iload_n i, 1)) (hi : (i : Nat) = a) (hg : xm_nth L a = some (some (.int x))) (k : xm_X p l e R s m args below meth c Q b G D cl nL (pc + 1, L, .int x :: S, M, bc, bs)) : xm_X p l e R s m args below meth c Q b G D cl nL (pc, L, S, M, bc, bs) := fun H locs cells slots ls hP hz hS hc hs hl => lv_iload_n hx hb hd hi (xm_rd hl hg) (k H locs cells slots ls hP hz hS hc hs hl)
theorem xs_iload (hx : p.tables.exec = Jvm.exec) (hb : c.code = cc) {a : Nat} {x : Int32} (hd : decode cc pc = .ok (.iload a, 2)) (hg : xm_nth L a = some (some (.int x))) (k : xm_X p l e R s m args below meth c Q b G D cl nL (pc + 2, L, .int x :: S, M, bc, bs)) : xm_X p l e R s m args below meth c Q b G D cl nL (pc, L, S, M, bc, bs) := fun H locs cells slots ls hP hz hS hc hs hl => lv_iload hx hb hd (xm_rd hl hg) (k H locs cells slots ls hP hz hS hc hs hl)
theorem xs_istore_n (hx : p.tables.exec = Jvm.exec) (hb : c.code = cc) {i : Fin 4} {a : Nat} {x : Int32} (hd : decode cc pc = .ok (.istore_n i, 1)) (hi : (i : Nat) = a) (hn : a < nL) (k : xm_X p l e R s m args below meth c Q b G D cl nL (pc + 1, xm_s1 (.int x) a L, S, M, bc, bs)) : xm_X p l e R s m args below meth c Q b G D cl nL (pc, L, .int x :: S, M, bc, bs) := fun H locs cells slots ls hP hz hS hc hs hl => lv_istore_n hx hb hd hi hl hn rfl (fun ls' hl' => k H locs cells slots ls' hP hz hS hc hs (xm_st1 (v := .int x) hl'))
theorem xs_istore (hx : p.tables.exec = Jvm.exec) (hb : c.code = cc) {a : Nat} {x : Int32} (hd : decode cc pc = .ok (.istore a, 2)) (hn : a < nL) (k : xm_X p l e R s m args below meth c Q b G D cl nL (pc + 2, xm_s1 (.int x) a L, S, M, bc, bs)) : xm_X p l e R s m args below meth c Q b G D cl nL (pc, L, .int x :: S, M, bc, bs) := fun H locs cells slots ls hP hz hS hc hs hl => lv_istore hx hb hd hl hn rfl (fun ls' hl' => k H locs cells slots ls' hP hz hS hc hs (xm_st1 (v := .int x) hl'))
theorem xs_lload_n (hx : p.tables.exec = Jvm.exec) (hb : c.code = cc) {i : Fin 4} {a : Nat} {x : Int64} (hd : decode cc pc = .ok (.lload_n i, 1)) (hi : (i : Nat) = a) (hg : xm_nth L a = some (some (.long x))) (k : xm_X p l e R s m args below meth c Q b G D cl nL (pc + 1, L, .long x :: S, M, bc, bs)) : xm_X p l e R s m args below meth c Q b G D cl nL (pc, L, S, M, bc, bs) := fun H locs cells slots ls hP hz hS hc hs hl => lv_lload_n hx hb hd hi (xm_rd hl hg) (k H locs cells slots ls hP hz hS hc hs hl)
theorem xs_lload (hx : p.tables.exec = Jvm.exec) (hb : c.code = cc) {a : Nat} {x : Int64} (hd : decode cc pc = .ok (.lload a, 2)) (hg : xm_nth L a = some (some (.long x))) (k : xm_X p l e R s m args below meth c Q b G D cl nL (pc + 2, L, .long x :: S, M, bc, bs)) : xm_X p l e R s m args below meth c Q b G D cl nL (pc, L, S, M, bc, bs) := fun H locs cells slots ls hP hz hS hc hs hl => lv_lload hx hb hd (xm_rd hl hg) (k H locs cells slots ls hP hz hS hc hs hl)
theorem xs_lstore_n (hx : p.tables.exec = Jvm.exec) (hb : c.code = cc) {i : Fin 4} {a : Nat} {x : Int64} (hd : decode cc pc = .ok (.lstore_n i, 1)) (hi : (i : Nat) = a) (hn : a + 1 < nL) (k : xm_X p l e R s m args below meth c Q b G D cl nL (pc + 1, xm_s2 (.long x) a L, S, M, bc, bs)) : xm_X p l e R s m args below meth c Q b G D cl nL (pc, L, .long x :: S, M, bc, bs) := fun H locs cells slots ls hP hz hS hc hs hl => lv_lstore_n hx hb hd hi hl hn rfl (fun ls' hl' => k H locs cells slots ls' hP hz hS hc hs (xm_st2 (v := .long x) hl'))
theorem xs_lstore (hx : p.tables.exec = Jvm.exec) (hb : c.code = cc) {a : Nat} {x : Int64} (hd : decode cc pc = .ok (.lstore a, 2)) (hn : a + 1 < nL) (k : xm_X p l e R s m args below meth c Q b G D cl nL (pc + 2, xm_s2 (.long x) a L, S, M, bc, bs)) : xm_X p l e R s m args below meth c Q b G D cl nL (pc, L, .long x :: S, M, bc, bs) := fun H locs cells slots ls hP hz hS hc hs hl => lv_lstore hx hb hd hl hn rfl (fun ls' hl' => k H locs cells slots ls' hP hz hS hc hs (xm_st2 (v := .long x) hl'))
theorem xs_aload_n (hx : p.tables.exec = Jvm.exec) (hb : c.code = cc) {i : Fin 4} {a : Nat} {x : Nat} (hd : decode cc pc = .ok (.aload_n i, 1)) (hi : (i : Nat) = a) (hg : xm_nth L a = some (some (.ref x))) (k : xm_X p l e R s m args below meth c Q b G D cl nL (pc + 1, L, .ref x :: S, M, bc, bs)) : xm_X p l e R s m args below meth c Q b G D cl nL (pc, L, S, M, bc, bs) := fun H locs cells slots ls hP hz hS hc hs hl => lv_aload_n hx hb hd hi (xm_rd hl hg) (k H locs cells slots ls hP hz hS hc hs hl)
theorem xs_aload (hx : p.tables.exec = Jvm.exec) (hb : c.code = cc) {a : Nat} {x : Nat} (hd : decode cc pc = .ok (.aload a, 2)) (hg : xm_nth L a = some (some (.ref x))) (k : xm_X p l e R s m args below meth c Q b G D cl nL (pc + 2, L, .ref x :: S, M, bc, bs)) : xm_X p l e R s m args below meth c Q b G D cl nL (pc, L, S, M, bc, bs) := fun H locs cells slots ls hP hz hS hc hs hl => lv_aload hx hb hd (xm_rd hl hg) (k H locs cells slots ls hP hz hS hc hs hl)
theorem xs_astore_n (hx : p.tables.exec = Jvm.exec) (hb : c.code = cc) {i : Fin 4} {a : Nat} {x : Nat} (hd : decode cc pc = .ok (.astore_n i, 1)) (hi : (i : Nat) = a) (hn : a < nL) (k : xm_X p l e R s m args below meth c Q b G D cl nL (pc + 1, xm_s1 (.ref x) a L, S, M, bc, bs)) : xm_X p l e R s m args below meth c Q b G D cl nL (pc, L, .ref x :: S, M, bc, bs) := fun H locs cells slots ls hP hz hS hc hs hl => lv_astore_n hx hb hd hi hl hn rfl (fun ls' hl' => k H locs cells slots ls' hP hz hS hc hs (xm_st1 (v := .ref x) hl'))
theorem xs_astore (hx : p.tables.exec = Jvm.exec) (hb : c.code = cc) {a : Nat} {x : Nat} (hd : decode cc pc = .ok (.astore a, 2)) (hn : a < nL) (k : xm_X p l e R s m args below meth c Q b G D cl nL (pc + 2, xm_s1 (.ref x) a L, S, M, bc, bs)) : xm_X p l e R s m args below meth c Q b G D cl nL (pc, L, .ref x :: S, M, bc, bs) := fun H locs cells slots ls hP hz hS hc hs hl => lv_astore hx hb hd hl hn rfl (fun ls' hl' => k H locs cells slots ls' hP hz hS hc hs (xm_st1 (v := .ref x) hl'))
theorem xs_iinc (hx : p.tables.exec = Jvm.exec) (hb : c.code = cc) {a : Nat} {n : Int} {x v : Int32} (hd : decode cc pc = .ok (.iinc a n, 3)) (hv : Int32.ofInt n = v) (hg : xm_nth L a = some (some (.int x))) (hn : a < nL) (k : xm_X p l e R s m args below meth c Q b G D cl nL (pc + 3, xm_s1 (.int (x + v)) a L, S, M, bc, bs)) : xm_X p l e R s m args below meth c Q b G D cl nL (pc, L, S, M, bc, bs) := by
  intro H locs cells slots ls hP hz hS hc hs hl
  have hm := xm_mem_l (b := b) (i := 0) hg
  rw [Nat.zero_add] at hm
  obtain ⟨q, hq⟩ := List.getElem?_of_mem hm
  exact lv_iinc hx hb hd hl hq (congrArg (x + ·) hv) hn rfl (fun ls' hl' => k H locs cells slots ls' hP hz hS hc hs (xm_st1 (v := .int (x + v)) hl'))
theorem xs_iadd (hx : p.tables.exec = Jvm.exec) (hb : c.code = cc) {x y : Int32} (hd : decode cc pc = .ok (.iadd, 1))  (k : xm_X p l e R s m args below meth c Q b G D cl nL (pc + 1, L, .int (x + y) :: S, M, bc, bs)) : xm_X p l e R s m args below meth c Q b G D cl nL (pc, L, .int y :: .int x :: S, M, bc, bs) := fun H locs cells slots ls hP hz hS hc hs hl => lv_iadd hx hb hd (k H locs cells slots ls hP hz hS hc hs hl)
theorem xs_isub (hx : p.tables.exec = Jvm.exec) (hb : c.code = cc) {x y : Int32} (hd : decode cc pc = .ok (.isub, 1))  (k : xm_X p l e R s m args below meth c Q b G D cl nL (pc + 1, L, .int (x - y) :: S, M, bc, bs)) : xm_X p l e R s m args below meth c Q b G D cl nL (pc, L, .int y :: .int x :: S, M, bc, bs) := fun H locs cells slots ls hP hz hS hc hs hl => lv_isub hx hb hd (k H locs cells slots ls hP hz hS hc hs hl)
theorem xs_imul (hx : p.tables.exec = Jvm.exec) (hb : c.code = cc) {x y : Int32} (hd : decode cc pc = .ok (.imul, 1))  (k : xm_X p l e R s m args below meth c Q b G D cl nL (pc + 1, L, .int (x * y) :: S, M, bc, bs)) : xm_X p l e R s m args below meth c Q b G D cl nL (pc, L, .int y :: .int x :: S, M, bc, bs) := fun H locs cells slots ls hP hz hS hc hs hl => lv_imul hx hb hd (k H locs cells slots ls hP hz hS hc hs hl)
theorem xs_iand (hx : p.tables.exec = Jvm.exec) (hb : c.code = cc) {x y : Int32} (hd : decode cc pc = .ok (.iand, 1))  (k : xm_X p l e R s m args below meth c Q b G D cl nL (pc + 1, L, .int (x &&& y) :: S, M, bc, bs)) : xm_X p l e R s m args below meth c Q b G D cl nL (pc, L, .int y :: .int x :: S, M, bc, bs) := fun H locs cells slots ls hP hz hS hc hs hl => lv_iand hx hb hd (k H locs cells slots ls hP hz hS hc hs hl)
theorem xs_ior (hx : p.tables.exec = Jvm.exec) (hb : c.code = cc) {x y : Int32} (hd : decode cc pc = .ok (.ior, 1))  (k : xm_X p l e R s m args below meth c Q b G D cl nL (pc + 1, L, .int (x ||| y) :: S, M, bc, bs)) : xm_X p l e R s m args below meth c Q b G D cl nL (pc, L, .int y :: .int x :: S, M, bc, bs) := fun H locs cells slots ls hP hz hS hc hs hl => lv_ior hx hb hd (k H locs cells slots ls hP hz hS hc hs hl)
theorem xs_ixor (hx : p.tables.exec = Jvm.exec) (hb : c.code = cc) {x y : Int32} (hd : decode cc pc = .ok (.ixor, 1))  (k : xm_X p l e R s m args below meth c Q b G D cl nL (pc + 1, L, .int (x ^^^ y) :: S, M, bc, bs)) : xm_X p l e R s m args below meth c Q b G D cl nL (pc, L, .int y :: .int x :: S, M, bc, bs) := fun H locs cells slots ls hP hz hS hc hs hl => lv_ixor hx hb hd (k H locs cells slots ls hP hz hS hc hs hl)
theorem xs_ishl (hx : p.tables.exec = Jvm.exec) (hb : c.code = cc) {x y : Int32} (hd : decode cc pc = .ok (.ishl, 1))  (k : xm_X p l e R s m args below meth c Q b G D cl nL (pc + 1, L, .int (x <<< (y &&& 31)) :: S, M, bc, bs)) : xm_X p l e R s m args below meth c Q b G D cl nL (pc, L, .int y :: .int x :: S, M, bc, bs) := fun H locs cells slots ls hP hz hS hc hs hl => lv_ishl hx hb hd (k H locs cells slots ls hP hz hS hc hs hl)
theorem xs_ishr (hx : p.tables.exec = Jvm.exec) (hb : c.code = cc) {x y : Int32} (hd : decode cc pc = .ok (.ishr, 1))  (k : xm_X p l e R s m args below meth c Q b G D cl nL (pc + 1, L, .int (x >>> (y &&& 31)) :: S, M, bc, bs)) : xm_X p l e R s m args below meth c Q b G D cl nL (pc, L, .int y :: .int x :: S, M, bc, bs) := fun H locs cells slots ls hP hz hS hc hs hl => lv_ishr hx hb hd (k H locs cells slots ls hP hz hS hc hs hl)
theorem xs_iushr (hx : p.tables.exec = Jvm.exec) (hb : c.code = cc) {x y : Int32} (hd : decode cc pc = .ok (.iushr, 1))  (k : xm_X p l e R s m args below meth c Q b G D cl nL (pc + 1, L, .int (x.toUInt32 >>> (y.toUInt32 &&& Int32.toUInt32 31)).toInt32 :: S, M, bc, bs)) : xm_X p l e R s m args below meth c Q b G D cl nL (pc, L, .int y :: .int x :: S, M, bc, bs) := fun H locs cells slots ls hP hz hS hc hs hl => lv_iushr hx hb hd rfl (k H locs cells slots ls hP hz hS hc hs hl)
theorem xs_ladd (hx : p.tables.exec = Jvm.exec) (hb : c.code = cc) {x y : Int64} (hd : decode cc pc = .ok (.ladd, 1))  (k : xm_X p l e R s m args below meth c Q b G D cl nL (pc + 1, L, .long (x + y) :: S, M, bc, bs)) : xm_X p l e R s m args below meth c Q b G D cl nL (pc, L, .long y :: .long x :: S, M, bc, bs) := fun H locs cells slots ls hP hz hS hc hs hl => lv_ladd hx hb hd (k H locs cells slots ls hP hz hS hc hs hl)
theorem xs_lsub (hx : p.tables.exec = Jvm.exec) (hb : c.code = cc) {x y : Int64} (hd : decode cc pc = .ok (.lsub, 1))  (k : xm_X p l e R s m args below meth c Q b G D cl nL (pc + 1, L, .long (x - y) :: S, M, bc, bs)) : xm_X p l e R s m args below meth c Q b G D cl nL (pc, L, .long y :: .long x :: S, M, bc, bs) := fun H locs cells slots ls hP hz hS hc hs hl => lv_lsub hx hb hd (k H locs cells slots ls hP hz hS hc hs hl)
theorem xs_lmul (hx : p.tables.exec = Jvm.exec) (hb : c.code = cc) {x y : Int64} (hd : decode cc pc = .ok (.lmul, 1))  (k : xm_X p l e R s m args below meth c Q b G D cl nL (pc + 1, L, .long (x * y) :: S, M, bc, bs)) : xm_X p l e R s m args below meth c Q b G D cl nL (pc, L, .long y :: .long x :: S, M, bc, bs) := fun H locs cells slots ls hP hz hS hc hs hl => lv_lmul hx hb hd (k H locs cells slots ls hP hz hS hc hs hl)
theorem xs_land (hx : p.tables.exec = Jvm.exec) (hb : c.code = cc) {x y : Int64} (hd : decode cc pc = .ok (.land, 1))  (k : xm_X p l e R s m args below meth c Q b G D cl nL (pc + 1, L, .long (x &&& y) :: S, M, bc, bs)) : xm_X p l e R s m args below meth c Q b G D cl nL (pc, L, .long y :: .long x :: S, M, bc, bs) := fun H locs cells slots ls hP hz hS hc hs hl => lv_land hx hb hd (k H locs cells slots ls hP hz hS hc hs hl)
theorem xs_lor (hx : p.tables.exec = Jvm.exec) (hb : c.code = cc) {x y : Int64} (hd : decode cc pc = .ok (.lor, 1))  (k : xm_X p l e R s m args below meth c Q b G D cl nL (pc + 1, L, .long (x ||| y) :: S, M, bc, bs)) : xm_X p l e R s m args below meth c Q b G D cl nL (pc, L, .long y :: .long x :: S, M, bc, bs) := fun H locs cells slots ls hP hz hS hc hs hl => lv_lor hx hb hd (k H locs cells slots ls hP hz hS hc hs hl)
theorem xs_lxor (hx : p.tables.exec = Jvm.exec) (hb : c.code = cc) {x y : Int64} (hd : decode cc pc = .ok (.lxor, 1))  (k : xm_X p l e R s m args below meth c Q b G D cl nL (pc + 1, L, .long (x ^^^ y) :: S, M, bc, bs)) : xm_X p l e R s m args below meth c Q b G D cl nL (pc, L, .long y :: .long x :: S, M, bc, bs) := fun H locs cells slots ls hP hz hS hc hs hl => lv_lxor hx hb hd (k H locs cells slots ls hP hz hS hc hs hl)
theorem xs_lshl (hx : p.tables.exec = Jvm.exec) (hb : c.code = cc) {x : Int64} {y : Int32} (hd : decode cc pc = .ok (.lshl, 1))  (k : xm_X p l e R s m args below meth c Q b G D cl nL (pc + 1, L, .long (x <<< (y.toInt64 &&& 63)) :: S, M, bc, bs)) : xm_X p l e R s m args below meth c Q b G D cl nL (pc, L, .int y :: .long x :: S, M, bc, bs) := fun H locs cells slots ls hP hz hS hc hs hl => lv_lshl hx hb hd rfl (k H locs cells slots ls hP hz hS hc hs hl)
theorem xs_lshr (hx : p.tables.exec = Jvm.exec) (hb : c.code = cc) {x : Int64} {y : Int32} (hd : decode cc pc = .ok (.lshr, 1))  (k : xm_X p l e R s m args below meth c Q b G D cl nL (pc + 1, L, .long (x >>> (y.toInt64 &&& 63)) :: S, M, bc, bs)) : xm_X p l e R s m args below meth c Q b G D cl nL (pc, L, .int y :: .long x :: S, M, bc, bs) := fun H locs cells slots ls hP hz hS hc hs hl => lv_lshr hx hb hd rfl (k H locs cells slots ls hP hz hS hc hs hl)
theorem xs_lushr (hx : p.tables.exec = Jvm.exec) (hb : c.code = cc) {x : Int64} {y : Int32} (hd : decode cc pc = .ok (.lushr, 1))  (k : xm_X p l e R s m args below meth c Q b G D cl nL (pc + 1, L, .long ((x.toUInt64 >>> (y.toInt64.toUInt64 &&& Int64.toUInt64 63)).toInt64) :: S, M, bc, bs)) : xm_X p l e R s m args below meth c Q b G D cl nL (pc, L, .int y :: .long x :: S, M, bc, bs) := fun H locs cells slots ls hP hz hS hc hs hl => lv_lushr hx hb hd rfl (k H locs cells slots ls hP hz hS hc hs hl)
theorem xs_i2l (hx : p.tables.exec = Jvm.exec) (hb : c.code = cc) {x : Int32} (hd : decode cc pc = .ok (.i2l, 1))  (k : xm_X p l e R s m args below meth c Q b G D cl nL (pc + 1, L, .long x.toInt64 :: S, M, bc, bs)) : xm_X p l e R s m args below meth c Q b G D cl nL (pc, L, .int x :: S, M, bc, bs) := fun H locs cells slots ls hP hz hS hc hs hl => lv_i2l hx hb hd rfl (k H locs cells slots ls hP hz hS hc hs hl)
theorem xs_l2i (hx : p.tables.exec = Jvm.exec) (hb : c.code = cc) {x : Int64} (hd : decode cc pc = .ok (.l2i, 1))  (k : xm_X p l e R s m args below meth c Q b G D cl nL (pc + 1, L, .int x.toInt32 :: S, M, bc, bs)) : xm_X p l e R s m args below meth c Q b G D cl nL (pc, L, .long x :: S, M, bc, bs) := fun H locs cells slots ls hP hz hS hc hs hl => lv_l2i hx hb hd rfl (k H locs cells slots ls hP hz hS hc hs hl)
theorem xs_lcmp (hx : p.tables.exec = Jvm.exec) (hb : c.code = cc) {x y : Int64} (hd : decode cc pc = .ok (.lcmp, 1))  (k : xm_X p l e R s m args below meth c Q b G D cl nL (pc + 1, L, .int (lg_cmp x y) :: S, M, bc, bs)) : xm_X p l e R s m args below meth c Q b G D cl nL (pc, L, .long y :: .long x :: S, M, bc, bs) := fun H locs cells slots ls hP hz hS hc hs hl => W.lcmp hx hb hd (k H locs cells slots ls hP hz hS hc hs hl)
theorem xs_dup (hx : p.tables.exec = Jvm.exec) (hb : c.code = cc) {v : Value} (hd : decode cc pc = .ok (.dup, 1)) (hv : (xm_v b v).category = 1) (k : xm_X p l e R s m args below meth c Q b G D cl nL (pc + 1, L, v :: v :: S, M, bc, bs)) : xm_X p l e R s m args below meth c Q b G D cl nL (pc, L, v :: S, M, bc, bs) := fun H locs cells slots ls hP hz hS hc hs hl => lv_dup hx hb hd hv (k H locs cells slots ls hP hz hS hc hs hl)
theorem xs_dup2 (hx : p.tables.exec = Jvm.exec) (hb : c.code = cc) {v w : Value} (hd : decode cc pc = .ok (.dup2, 1)) (hv : (xm_v b v).category = 1) (hw : (xm_v b w).category = 1) (k : xm_X p l e R s m args below meth c Q b G D cl nL (pc + 1, L, v :: w :: v :: w :: S, M, bc, bs)) : xm_X p l e R s m args below meth c Q b G D cl nL (pc, L, v :: w :: S, M, bc, bs) := fun H locs cells slots ls hP hz hS hc hs hl => lv_dup2_11 hx hb hd hv hw (k H locs cells slots ls hP hz hS hc hs hl)
theorem xs_pop (hx : p.tables.exec = Jvm.exec) (hb : c.code = cc) {v : Value} (hd : decode cc pc = .ok (.pop, 1)) (hv : (xm_v b v).category = 1) (k : xm_X p l e R s m args below meth c Q b G D cl nL (pc + 1, L, S, M, bc, bs)) : xm_X p l e R s m args below meth c Q b G D cl nL (pc, L, v :: S, M, bc, bs) := fun H locs cells slots ls hP hz hS hc hs hl => lv_pop hx hb hd hv (k H locs cells slots ls hP hz hS hc hs hl)
theorem xs_goto (hx : p.tables.exec = Jvm.exec) (hb : c.code = cc) {off : Int} {tg : Nat} (hd : decode cc pc = .ok (.goto off, 3)) (ht : (pc : Int) + off = (tg : Int)) (k : xm_X p l e R s m args below meth c Q b G D cl nL (tg, L, S, M, bc, bs)) : xm_X p l e R s m args below meth c Q b G D cl nL (pc, L, S, M, bc, bs) := fun H locs cells slots ls hP hz hS hc hs hl => lv_goto hx hb hd ht (k H locs cells slots ls hP hz hS hc hs hl)
theorem xs_if_eq (hx : p.tables.exec = Jvm.exec) (hb : c.code = cc) {x : Int32} {off : Int} {tg : Nat} (hd : decode cc pc = .ok (.ifCond .eq off, 3)) (ht : (pc : Int) + off = (tg : Int)) (kt : (x = 0) → xm_X p l e R s m args below meth c Q b G D cl nL (tg, L, S, M, bc, bs)) (kf : (¬ x = 0) → xm_X p l e R s m args below meth c Q b G D cl nL (pc + 3, L, S, M, bc, bs)) : xm_X p l e R s m args below meth c Q b G D cl nL (pc, L, .int x :: S, M, bc, bs) := fun H locs cells slots ls hP hz hS hc hs hl => lv_if_eq hx hb hd ht (fun z => kt z H locs cells slots ls hP hz hS hc hs hl) (fun z => kf z H locs cells slots ls hP hz hS hc hs hl)
theorem xs_if_ne (hx : p.tables.exec = Jvm.exec) (hb : c.code = cc) {x : Int32} {off : Int} {tg : Nat} (hd : decode cc pc = .ok (.ifCond .ne off, 3)) (ht : (pc : Int) + off = (tg : Int)) (kt : (¬ x = 0) → xm_X p l e R s m args below meth c Q b G D cl nL (tg, L, S, M, bc, bs)) (kf : (x = 0) → xm_X p l e R s m args below meth c Q b G D cl nL (pc + 3, L, S, M, bc, bs)) : xm_X p l e R s m args below meth c Q b G D cl nL (pc, L, .int x :: S, M, bc, bs) := fun H locs cells slots ls hP hz hS hc hs hl => lv_if_ne hx hb hd ht (fun z => kt z H locs cells slots ls hP hz hS hc hs hl) (fun z => kf z H locs cells slots ls hP hz hS hc hs hl)
theorem xs_if_lt (hx : p.tables.exec = Jvm.exec) (hb : c.code = cc) {x : Int32} {off : Int} {tg : Nat} (hd : decode cc pc = .ok (.ifCond .lt off, 3)) (ht : (pc : Int) + off = (tg : Int)) (kt : (x < 0) → xm_X p l e R s m args below meth c Q b G D cl nL (tg, L, S, M, bc, bs)) (kf : (¬ x < 0) → xm_X p l e R s m args below meth c Q b G D cl nL (pc + 3, L, S, M, bc, bs)) : xm_X p l e R s m args below meth c Q b G D cl nL (pc, L, .int x :: S, M, bc, bs) := fun H locs cells slots ls hP hz hS hc hs hl => lv_if_lt hx hb hd ht (fun z => kt z H locs cells slots ls hP hz hS hc hs hl) (fun z => kf z H locs cells slots ls hP hz hS hc hs hl)
theorem xs_if_ge (hx : p.tables.exec = Jvm.exec) (hb : c.code = cc) {x : Int32} {off : Int} {tg : Nat} (hd : decode cc pc = .ok (.ifCond .ge off, 3)) (ht : (pc : Int) + off = (tg : Int)) (kt : (0 ≤ x) → xm_X p l e R s m args below meth c Q b G D cl nL (tg, L, S, M, bc, bs)) (kf : (¬ 0 ≤ x) → xm_X p l e R s m args below meth c Q b G D cl nL (pc + 3, L, S, M, bc, bs)) : xm_X p l e R s m args below meth c Q b G D cl nL (pc, L, .int x :: S, M, bc, bs) := fun H locs cells slots ls hP hz hS hc hs hl => lv_if_ge hx hb hd ht (fun z => kt z H locs cells slots ls hP hz hS hc hs hl) (fun z => kf z H locs cells slots ls hP hz hS hc hs hl)
theorem xs_if_gt (hx : p.tables.exec = Jvm.exec) (hb : c.code = cc) {x : Int32} {off : Int} {tg : Nat} (hd : decode cc pc = .ok (.ifCond .gt off, 3)) (ht : (pc : Int) + off = (tg : Int)) (kt : (0 < x) → xm_X p l e R s m args below meth c Q b G D cl nL (tg, L, S, M, bc, bs)) (kf : (¬ 0 < x) → xm_X p l e R s m args below meth c Q b G D cl nL (pc + 3, L, S, M, bc, bs)) : xm_X p l e R s m args below meth c Q b G D cl nL (pc, L, .int x :: S, M, bc, bs) := fun H locs cells slots ls hP hz hS hc hs hl => lv_if_gt hx hb hd ht (fun z => kt z H locs cells slots ls hP hz hS hc hs hl) (fun z => kf z H locs cells slots ls hP hz hS hc hs hl)
theorem xs_if_le (hx : p.tables.exec = Jvm.exec) (hb : c.code = cc) {x : Int32} {off : Int} {tg : Nat} (hd : decode cc pc = .ok (.ifCond .le off, 3)) (ht : (pc : Int) + off = (tg : Int)) (kt : (x ≤ 0) → xm_X p l e R s m args below meth c Q b G D cl nL (tg, L, S, M, bc, bs)) (kf : (¬ x ≤ 0) → xm_X p l e R s m args below meth c Q b G D cl nL (pc + 3, L, S, M, bc, bs)) : xm_X p l e R s m args below meth c Q b G D cl nL (pc, L, .int x :: S, M, bc, bs) := fun H locs cells slots ls hP hz hS hc hs hl => lv_if_le hx hb hd ht (fun z => kt z H locs cells slots ls hP hz hS hc hs hl) (fun z => kf z H locs cells slots ls hP hz hS hc hs hl)
theorem xs_icmp_eq (hx : p.tables.exec = Jvm.exec) (hb : c.code = cc) {x y : Int32} {off : Int} {tg : Nat} (hd : decode cc pc = .ok (.if_icmp .eq off, 3)) (ht : (pc : Int) + off = (tg : Int)) (kt : (x = y) → xm_X p l e R s m args below meth c Q b G D cl nL (tg, L, S, M, bc, bs)) (kf : (¬ x = y) → xm_X p l e R s m args below meth c Q b G D cl nL (pc + 3, L, S, M, bc, bs)) : xm_X p l e R s m args below meth c Q b G D cl nL (pc, L, .int y :: .int x :: S, M, bc, bs) := fun H locs cells slots ls hP hz hS hc hs hl => lv_icmp_eq hx hb hd ht (fun z => kt z H locs cells slots ls hP hz hS hc hs hl) (fun z => kf z H locs cells slots ls hP hz hS hc hs hl)
theorem xs_icmp_ne (hx : p.tables.exec = Jvm.exec) (hb : c.code = cc) {x y : Int32} {off : Int} {tg : Nat} (hd : decode cc pc = .ok (.if_icmp .ne off, 3)) (ht : (pc : Int) + off = (tg : Int)) (kt : (¬ x = y) → xm_X p l e R s m args below meth c Q b G D cl nL (tg, L, S, M, bc, bs)) (kf : (x = y) → xm_X p l e R s m args below meth c Q b G D cl nL (pc + 3, L, S, M, bc, bs)) : xm_X p l e R s m args below meth c Q b G D cl nL (pc, L, .int y :: .int x :: S, M, bc, bs) := fun H locs cells slots ls hP hz hS hc hs hl => lv_icmp_ne hx hb hd ht (fun z => kt z H locs cells slots ls hP hz hS hc hs hl) (fun z => kf z H locs cells slots ls hP hz hS hc hs hl)
theorem xs_icmp_lt (hx : p.tables.exec = Jvm.exec) (hb : c.code = cc) {x y : Int32} {off : Int} {tg : Nat} (hd : decode cc pc = .ok (.if_icmp .lt off, 3)) (ht : (pc : Int) + off = (tg : Int)) (kt : (x < y) → xm_X p l e R s m args below meth c Q b G D cl nL (tg, L, S, M, bc, bs)) (kf : (¬ x < y) → xm_X p l e R s m args below meth c Q b G D cl nL (pc + 3, L, S, M, bc, bs)) : xm_X p l e R s m args below meth c Q b G D cl nL (pc, L, .int y :: .int x :: S, M, bc, bs) := fun H locs cells slots ls hP hz hS hc hs hl => lv_icmp_lt hx hb hd ht (fun z => kt z H locs cells slots ls hP hz hS hc hs hl) (fun z => kf z H locs cells slots ls hP hz hS hc hs hl)
theorem xs_icmp_ge (hx : p.tables.exec = Jvm.exec) (hb : c.code = cc) {x y : Int32} {off : Int} {tg : Nat} (hd : decode cc pc = .ok (.if_icmp .ge off, 3)) (ht : (pc : Int) + off = (tg : Int)) (kt : (y ≤ x) → xm_X p l e R s m args below meth c Q b G D cl nL (tg, L, S, M, bc, bs)) (kf : (¬ y ≤ x) → xm_X p l e R s m args below meth c Q b G D cl nL (pc + 3, L, S, M, bc, bs)) : xm_X p l e R s m args below meth c Q b G D cl nL (pc, L, .int y :: .int x :: S, M, bc, bs) := fun H locs cells slots ls hP hz hS hc hs hl => lv_icmp_ge hx hb hd ht (fun z => kt z H locs cells slots ls hP hz hS hc hs hl) (fun z => kf z H locs cells slots ls hP hz hS hc hs hl)
theorem xs_icmp_gt (hx : p.tables.exec = Jvm.exec) (hb : c.code = cc) {x y : Int32} {off : Int} {tg : Nat} (hd : decode cc pc = .ok (.if_icmp .gt off, 3)) (ht : (pc : Int) + off = (tg : Int)) (kt : (y < x) → xm_X p l e R s m args below meth c Q b G D cl nL (tg, L, S, M, bc, bs)) (kf : (¬ y < x) → xm_X p l e R s m args below meth c Q b G D cl nL (pc + 3, L, S, M, bc, bs)) : xm_X p l e R s m args below meth c Q b G D cl nL (pc, L, .int y :: .int x :: S, M, bc, bs) := fun H locs cells slots ls hP hz hS hc hs hl => lv_icmp_gt hx hb hd ht (fun z => kt z H locs cells slots ls hP hz hS hc hs hl) (fun z => kf z H locs cells slots ls hP hz hS hc hs hl)
theorem xs_icmp_le (hx : p.tables.exec = Jvm.exec) (hb : c.code = cc) {x y : Int32} {off : Int} {tg : Nat} (hd : decode cc pc = .ok (.if_icmp .le off, 3)) (ht : (pc : Int) + off = (tg : Int)) (kt : (x ≤ y) → xm_X p l e R s m args below meth c Q b G D cl nL (tg, L, S, M, bc, bs)) (kf : (¬ x ≤ y) → xm_X p l e R s m args below meth c Q b G D cl nL (pc + 3, L, S, M, bc, bs)) : xm_X p l e R s m args below meth c Q b G D cl nL (pc, L, .int y :: .int x :: S, M, bc, bs) := fun H locs cells slots ls hP hz hS hc hs hl => lv_icmp_le hx hb hd ht (fun z => kt z H locs cells slots ls hP hz hS hc hs hl) (fun z => kf z H locs cells slots ls hP hz hS hc hs hl)
theorem xs_iald (hx : p.tables.exec = Jvm.exec) (hb : c.code = cc) (hK : va_K D cl [(G.1, .int), (G.2.1, .long), (G.2.2.1, .object CF)] s) {k n : Nat} {i : Int32} (hk : xm_nth M.1 k = some (0, n)) (hi : vp_in i n) (hd : decode cc pc = .ok (.iaload, 1)) (kk : xm_X p l e R s m args below meth c Q b G D cl nL (pc + 1, L, .int (M.2.1 k i.toNatClampNeg) :: S, M, bc, bs)) : xm_X p l e R s m args below meth c Q b G D cl nL (pc, L, .int i :: .ref k :: S, M, bc, bs) := fun H locs cells slots ls hP hz hS hc hs hl => va_iald hx hb hK hP k 0 (xm_w_at hk) rfl hi hd (kk H locs cells slots ls hP hz hS hc hs hl)
theorem xs_lald (hx : p.tables.exec = Jvm.exec) (hb : c.code = cc) (hK : va_K D cl [(G.1, .int), (G.2.1, .long), (G.2.2.1, .object CF)] s) {k n : Nat} {i : Int32} (hk : xm_nth M.1 k = some (1, n)) (hi : vp_in i n) (hd : decode cc pc = .ok (.laload, 1)) (kk : xm_X p l e R s m args below meth c Q b G D cl nL (pc + 1, L, .long (M.2.2.1 k i.toNatClampNeg) :: S, M, bc, bs)) : xm_X p l e R s m args below meth c Q b G D cl nL (pc, L, .int i :: .ref k :: S, M, bc, bs) := fun H locs cells slots ls hP hz hS hc hs hl => va_lald hx hb hK hP k 1 (xm_w_at hk) rfl hi hd (kk H locs cells slots ls hP hz hS hc hs hl)
theorem xs_aald (hx : p.tables.exec = Jvm.exec) (hb : c.code = cc) (hK : va_K D cl [(G.1, .int), (G.2.1, .long), (G.2.2.1, .object CF)] s) {k n q : Nat} {i : Int32} (hk : xm_nth M.1 k = some (2, n)) (hi : vp_in i n) (hq : M.2.2.2 k i.toNatClampNeg = q + 1) (hd : decode cc pc = .ok (.aaload, 1)) (kk : xm_X p l e R s m args below meth c Q b G D cl nL (pc + 1, L, .ref q :: S, M, bc, bs)) : xm_X p l e R s m args below meth c Q b G D cl nL (pc, L, .int i :: .ref k :: S, M, bc, bs) := by
  intro H locs cells slots ls hP hz hS hc hs hl
  refine va_aldq hx hb hK hP k 2 (xm_w_at hk) rfl hi hd ?_
  show W p l e R s m args below meth c H locs cells slots Q (F0 m (pc + 1) ls (va_rf (xm_q b (M.2.2.2 k i.toNatClampNeg)) :: S.map (xm_v b)))
  rw [hq]
  exact kk H locs cells slots ls hP hz hS hc hs hl
theorem xs_alen (hx : p.tables.exec = Jvm.exec) (hb : c.code = cc) (hK : va_K D cl [(G.1, .int), (G.2.1, .long), (G.2.2.1, .object CF)] s) {k n : Nat} (hk : xm_nth M.1 k = some (0, n)) (hd : decode cc pc = .ok (.arraylength, 1)) (kk : xm_X p l e R s m args below meth c Q b G D cl nL (pc + 1, L, .int (Int32.ofNat n) :: S, M, bc, bs)) : xm_X p l e R s m args below meth c Q b G D cl nL (pc, L, .ref k :: S, M, bc, bs) := fun H locs cells slots ls hP hz hS hc hs hl => va_alen hx hb hK hP k 0 (xm_w_at hk) (ty := .int) rfl rfl hd (kk H locs cells slots ls hP hz hS hc hs hl)
theorem xs_iast (hx : p.tables.exec = Jvm.exec) (hb : c.code = cc) (hK : va_K D cl [(G.1, .int), (G.2.1, .long), (G.2.2.1, .object CF)] s) {k n : Nat} {i x : Int32} (hk : xm_nth M.1 k = some (0, n)) (hi : vp_in i n) (hd : decode cc pc = .ok (.iastore, 1)) (kk : xm_X p l e R s m args below meth c Q b G D cl nL (pc + 1, L, S, (M.1, xm_up M.2.1 k i.toNatClampNeg x, M.2.2), bc, bs)) : xm_X p l e R s m args below meth c Q b G D cl nL (pc, L, .int x :: .int i :: .ref k :: S, M, bc, bs) := by
  intro H locs cells slots ls hP hz hS hc hs hl
  have ha := xm_w_at (b := b) (G := G) hk
  refine W.iast hx hb (hP k _ ha) ((hK.2 0 _ rfl).1 n (fun j => .int (M.2.1 k j))) (fun q => by cases q) (by show ¬ (i < 0 ∨ (arrV _ _ _).slots.size ≤ _); rw [arrV_size]; exact hi) rfl rfl hd fun H1 e1 z oq => ?_
  have he : va_at D cl (b + k, xm_e b G (M.1, xm_up M.2.1 k i.toNatClampNeg x, M.2.2) k (0, n)) H1 := by
    show H1[b + k]? = some (vp_cell G.1 (n, .inl (xm_up M.2.1 k i.toNatClampNeg x k)))
    refine e1.trans ?_
    show some ((vp_cell G.1 (n, .inl (M.2.1 k))).setSlot i.toNatClampNeg (.int x)) = _
    rw [vp_cell_i, vp_cell_i, arrV_store]
    congr 2
    funext q
    rw [xm_up_self]
    by_cases hq : q = i.toNatClampNeg
    · subst hq
      simp [updV]
    · simp [updV, hq]
  have hP1 := hP.set xm_w_D ha he oq
  rw [xm_w_set (M := M) (M' := (M.1, xm_up M.2.1 k i.toNatClampNeg x, M.2.2)) rfl hk rfl (fun _ _ h => xm_eI h)] at hP1
  exact kk H1 _ cells slots ls hP1 (z.trans hz) (hS.put z oq (Nat.le_add_right b k)) hc hs hl
theorem xs_last (hx : p.tables.exec = Jvm.exec) (hb : c.code = cc) (hK : va_K D cl [(G.1, .int), (G.2.1, .long), (G.2.2.1, .object CF)] s) {k n : Nat} {i : Int32} {x : Int64} (hk : xm_nth M.1 k = some (1, n)) (hi : vp_in i n) (hd : decode cc pc = .ok (.lastore, 1)) (kk : xm_X p l e R s m args below meth c Q b G D cl nL (pc + 1, L, S, (M.1, M.2.1, xm_up M.2.2.1 k i.toNatClampNeg x, M.2.2.2), bc, bs)) : xm_X p l e R s m args below meth c Q b G D cl nL (pc, L, .long x :: .int i :: .ref k :: S, M, bc, bs) := by
  intro H locs cells slots ls hP hz hS hc hs hl
  have ha := xm_w_at (b := b) (G := G) hk
  refine W.last hx hb (hP k _ ha) ((hK.2 1 _ rfl).1 n (fun j => .long (M.2.2.1 k j))) (fun q => by cases q) (by show ¬ (i < 0 ∨ (arrV _ _ _).slots.size ≤ _); rw [arrV_size]; exact hi) rfl rfl hd fun H1 e1 z oq => ?_
  have he : va_at D cl (b + k, xm_e b G (M.1, M.2.1, xm_up M.2.2.1 k i.toNatClampNeg x, M.2.2.2) k (1, n)) H1 := by
    show H1[b + k]? = some (vp_cell G.2.1 (n, .inr (.inl (xm_up M.2.2.1 k i.toNatClampNeg x k))))
    refine e1.trans ?_
    show some ((vp_cell G.2.1 (n, .inr (.inl (M.2.2.1 k)))).setSlot i.toNatClampNeg (.long x)) = _
    rw [vp_cell_l, vp_cell_l, arrV_store]
    congr 2
    funext q
    rw [xm_up_self]
    by_cases hq : q = i.toNatClampNeg
    · subst hq
      simp [updV]
    · simp [updV, hq]
  have hP1 := hP.set xm_w_D ha he oq
  rw [xm_w_set (M := M) (M' := (M.1, M.2.1, xm_up M.2.2.1 k i.toNatClampNeg x, M.2.2.2)) rfl hk rfl (fun _ _ h => xm_eL h)] at hP1
  exact kk H1 _ cells slots ls hP1 (z.trans hz) (hS.put z oq (Nat.le_add_right b k)) hc hs hl
theorem xs_aast (hx : p.tables.exec = Jvm.exec) (hb : c.code = cc) {T : u_T} {N ci : Nat} (hc0 : cl[ci]? = some (CF, T, N)) (hK : va_K D cl [(G.1, .int), (G.2.1, .long), (G.2.2.1, .object CF)] s) {k n v : Nat} {i : Int32} (hk : xm_nth M.1 k = some (2, n)) (hi : vp_in i n) (hv : xm_nth M.1 v = some (3, ci)) (hd : decode cc pc = .ok (.aastore, 1)) (kk : xm_X p l e R s m args below meth c Q b G D cl nL (pc + 1, L, S, (M.1, M.2.1, M.2.2.1, xm_up M.2.2.2 k i.toNatClampNeg (v + 1)), bc, bs)) : xm_X p l e R s m args below meth c Q b G D cl nL (pc, L, .ref v :: .int i :: .ref k :: S, M, bc, bs) := by
  intro H locs cells slots ls hP hz hS hc hs hl
  have ha := xm_w_at (b := b) (G := G) hk
  have hw := xm_w_at (b := b) (G := G) hv
  have hlt : i.toNatClampNeg < n := Nat.not_le.mp fun q => hi (Or.inr q)
  have h0 : ¬ i < 0 := fun q => hi (Or.inl q)
  obtain ⟨r', hr', cellV, g1, g2, g3, -⟩ := hP v _ hw
  have hcls := (hK.1 ci _ hc0).2
  obtain ⟨kA, comp, k1, k2, k3, -⟩ := (hK.2 2 _ rfl).2
  have hcomp : comp = D.1 ci := Option.some.inj (k3.symm.trans hcls.1)
  subst hcomp
  obtain ⟨kC, hkC, -⟩ := hcls.2
  refine W.aast hx hb (hP k _ ha) (fun q h => by cases h) (fun h => by cases h) k1 k2 rfl hkC ⟨h0, by show _ < (arrV _ _ _).slots.size; rw [arrV_size]; exact hlt⟩ g1 (fun q h => by rw [g3] at h; cases h) (by rw [g2]; exact hkC) (by rw [g2]; exact va_assign hcls) rfl rfl hd fun H1 e1 z oq => ?_
  have he : va_at D cl (b + k, xm_e b G (M.1, M.2.1, M.2.2.1, xm_up M.2.2.2 k i.toNatClampNeg (v + 1)) k (2, n)) H1 := by
    show H1[b + k]? = some (vp_cell G.2.2.1 (n, .inr (.inr (.inr (.inr (fun j => xm_q b (xm_up M.2.2.2 k i.toNatClampNeg (v + 1) k j)))))))
    refine e1.trans ?_
    show some ((vp_cell G.2.2.1 (n, .inr (.inr (.inr (.inr (fun j => xm_q b (M.2.2.2 k j))))))).setSlot i.toNatClampNeg (.ref (b + v))) = _
    rw [vp_cell_q, vp_cell_q, arrV_store]
    congr 2
    funext q
    rw [xm_up_self]
    by_cases hq : q = i.toNatClampNeg
    · subst hq
      simp [updV, va_rf, xm_q]
    · simp [updV, hq]
  have hP1 := hP.set xm_w_D ha he oq
  rw [xm_w_set (M := M) (M' := (M.1, M.2.1, M.2.2.1, xm_up M.2.2.2 k i.toNatClampNeg (v + 1))) rfl hk rfl (fun _ _ h => xm_eR h)] at hP1
  exact kk H1 _ cells slots ls hP1 (z.trans hz) (hS.put z oq (Nat.le_add_right b k)) hc hs hl
theorem xs_getf (hx : p.tables.exec = Jvm.exec) (hb : c.code = cc) {own C : String} {T : u_T} {N ci ix j t k : Nat} {Ts : List Cond} {v : Value} (hts : ∀ w ∈ Ts, w.before args s = true) (hin : ∀ w ∈ u_ws C T N, w ∈ Ts) (hown : s.vm.findClass own = some m.cls) (hK : va_K D cl tys s) (hc0 : cl[ci]? = some (C, T, N)) (hj : j < N) (hlink : (Cond.fieldLink own ix (T j).1 (T j).2.1 (T j).2.2.1).before args s = true) (hkd : (G.2.2.2 ci)[j]? = some t) (hk : xm_nth M.1 k = some (3, ci)) (hv : xm_fv b M k j t = xm_v b v) (hd : decode cc pc = .ok (.getfield ix, 3)) (kk : xm_X p l e R s m args below meth c Q b G D cl nL (pc + 3, L, v :: S, M, bc, bs)) : xm_X p l e R s m args below meth c Q b G D cl nL (pc, L, .ref k :: S, M, bc, bs) := fun H locs cells slots ls hP hz hS hc hs hl => va_get hx hb hts hin hown hK hP k (xm_w_at hk) hc0 j hj hlink (fun _ h => h) (v := xm_v b v) (by rw [List.getElem?_mapIdx, hkd]; simp only [Option.map_some, hv]) hd (kk H locs cells slots ls hP hz hS hc hs hl)
theorem xs_getfN (hx : p.tables.exec = Jvm.exec) (hb : c.code = cc) {own C host : String} {T : u_T} {N ci ix j t k : Nat} {Ts : List Cond} {v : Value} (hts : ∀ w ∈ Ts, w.before args s = true) (hin : ∀ w ∈ u_ws C T N, w ∈ Ts) (hown : s.vm.findClass own = some m.cls) (hK : va_K D cl tys s) (hc0 : cl[ci]? = some (C, T, N)) (hj : j < N) (hlink : (Cond.fieldLinkNest own ix (T j).1 (T j).2.1 (T j).2.2.1 host).before args s = true) (hkd : (G.2.2.2 ci)[j]? = some t) (hk : xm_nth M.1 k = some (3, ci)) (hv : xm_fv b M k j t = xm_v b v) (hd : decode cc pc = .ok (.getfield ix, 3)) (kk : xm_X p l e R s m args below meth c Q b G D cl nL (pc + 3, L, v :: S, M, bc, bs)) : xm_X p l e R s m args below meth c Q b G D cl nL (pc, L, .ref k :: S, M, bc, bs) := fun H locs cells slots ls hP hz hS hc hs hl => va_getN hx hb hts hin hown hK hP k (xm_w_at hk) hc0 j hj hlink (fun _ h => h) (v := xm_v b v) (by rw [List.getElem?_mapIdx, hkd]; simp only [Option.map_some, hv]) hd (kk H locs cells slots ls hP hz hS hc hs hl)
theorem xs_putf (hx : p.tables.exec = Jvm.exec) (hb : c.code = cc) {own C : String} {T : u_T} {N ci ix j t k : Nat} {Ts : List Cond} {v : Value} {M' : xm_M} (hts : ∀ w ∈ Ts, w.before args s = true) (hin : ∀ w ∈ u_ws C T N, w ∈ Ts) (ty0 : Nat → FieldType) (hty : ∀ k, k < N → parseFieldDescriptor (T k).2.2.1 = some (ty0 k)) (hnm : ∀ a, a < N → ∀ b, b < N → a ≠ b → (T a).2.1 ≠ (T b).2.1) (hown : s.vm.findClass own = some m.cls) (hK : va_K D cl tys s) (hc0 : cl[ci]? = some (C, T, N)) (hj : j < N) (hlink : (Cond.fieldLink own ix (T j).1 (T j).2.1 (T j).2.2.1).before args s = true) (hfin : (T j).2.2.2 = false) (hn : narrow (ty0 j) (xm_v b v) = xm_v b v) (hfit : fits (ty0 j) (xm_v b v) = true) (hkd : (G.2.2.2 ci)[j]? = some t) (hk : xm_nth M.1 k = some (3, ci)) (h1 : M'.1 = M.1) (hv : xm_fv b M' k j t = xm_v b v) (ho : ∀ i t', i ≠ j → xm_fv b M' k i t' = xm_fv b M k i t') (ho2 : ∀ i sh, i ≠ k → xm_e b G M' i sh = xm_e b G M i sh) (hd : decode cc pc = .ok (.putfield ix, 3)) (kk : xm_X p l e R s m args below meth c Q b G D cl nL (pc + 3, L, S, M', bc, bs)) : xm_X p l e R s m args below meth c Q b G D cl nL (pc, L, v :: .ref k :: S, M, bc, bs) := by
  intro H locs cells slots ls hP hz hS0 hc hs hl
  have ha := xm_w_at (b := b) (G := G) hk
  have hlen : j < ((G.2.2.2 ci).mapIdx (fun j t => xm_fv b M k j t)).length := by
    rw [List.length_mapIdx]
    exact (List.getElem?_eq_some_iff.mp hkd).1
  have hap := va_apart (own := own) hts hin ty0 hty hnm hK hc0
  obtain ⟨r, hr0, cell, q1, q2, q3, q4⟩ := hP k _ ha
  have hr : r = (C, T, N) := Option.some.inj (hr0.symm.trans hc0)
  subst hr
  obtain ⟨hS, hfc, kC, hkC, hkind⟩ := hK.1 ci _ hc0
  obtain ⟨cf, kf, fi, f, hi, hsl⟩ := hS j hj
  have hlay := hts _ (hin _ (u_in_lay hj))
  unfold u_lay at hlay
  rw [if_neg (by rw [hfin]; decide)] at hlay
  have hst := (u_facts hfc hkC (u_lays hts hin hj) hi).1
  have h6 := u_store hfc hkC hkind hlay hi (hty j hj) hn hfit
  refine W.putK hx hb (f := f) ⟨hown, hlink, ⟨_, _, _, hi⟩, hst⟩ (by rw [q2]; exact h6) q1 q3 (by rw [hsl]; exact k2_hasslot (q4 j hj)) rfl rfl hd fun H1 e1 e2 e3 => ?_
  rw [hsl] at e1 ⊢
  have hP1 := hP.set xm_w_D ha (show va_at D cl (b + k, .inr (ci, ((G.2.2.2 ci).mapIdx (fun j t => xm_fv b M k j t)).set j (xm_v b v))) H1 from ⟨_, hc0, t_OB.to (V := updV (vp_V _) j (xm_v b v)) ⟨_, e1, q2, q3, t_set q4 hap hj (xm_v b v)⟩ (fun i _ => vp_updV_set hlen (xm_v b v) i)⟩) e3
  rw [xm_fset hkd hv (fun i t' _ h => ho i t' h)] at hP1
  have hP1 : va_P D cl ((xm_w b G M).set k (b + k, .inr (ci, (G.2.2.2 ci).mapIdx (fun j t => xm_fv b M' k j t)))) H1 := hP1
  rw [xm_w_set (M := M) (M' := M') (e' := .inr (ci, (G.2.2.2 ci).mapIdx (fun j t => xm_fv b M' k j t))) h1 hk rfl ho2] at hP1
  refine kk H1 _ cells slots ls hP1 ?_ (hS0.put e2 e3 (Nat.le_add_right b k)) hc hs hl
  show H1.size = b + M'.1.length
  rw [h1]
  exact e2.trans hz
theorem xs_putfF (hx : p.tables.exec = Jvm.exec) (hb : c.code = cc) {own C : String} {T : u_T} {N ci ix j t k : Nat} {Ts : List Cond} {v : Value} {M' : xm_M} (hts : ∀ w ∈ Ts, w.before args s = true) (hin : ∀ w ∈ u_ws C T N, w ∈ Ts) (ty0 : Nat → FieldType) (hty : ∀ k, k < N → parseFieldDescriptor (T k).2.2.1 = some (ty0 k)) (hnm : ∀ a, a < N → ∀ b, b < N → a ≠ b → (T a).2.1 ≠ (T b).2.1) (hown : s.vm.findClass own = some m.cls) (hK : va_K D cl tys s) (hc0 : cl[ci]? = some (C, T, N)) (hj : j < N) (hlink : (Cond.fieldLink own ix (T j).1 (T j).2.1 (T j).2.2.1).before args s = true) (hfin : (T j).2.2.2 = true) (hin2 : meth.name = "<init>") (hdecl : (T j).1 = own) (hn : narrow (ty0 j) (xm_v b v) = xm_v b v) (hfit : fits (ty0 j) (xm_v b v) = true) (hkd : (G.2.2.2 ci)[j]? = some t) (hk : xm_nth M.1 k = some (3, ci)) (h1 : M'.1 = M.1) (hv : xm_fv b M' k j t = xm_v b v) (ho : ∀ i t', i ≠ j → xm_fv b M' k i t' = xm_fv b M k i t') (ho2 : ∀ i sh, i ≠ k → xm_e b G M' i sh = xm_e b G M i sh) (hd : decode cc pc = .ok (.putfield ix, 3)) (kk : xm_X p l e R s m args below meth c Q b G D cl nL (pc + 3, L, S, M', bc, bs)) : xm_X p l e R s m args below meth c Q b G D cl nL (pc, L, v :: .ref k :: S, M, bc, bs) := by
  intro H locs cells slots ls hP hz hS0 hc hs hl
  have ha := xm_w_at (b := b) (G := G) hk
  have hlen : j < ((G.2.2.2 ci).mapIdx (fun j t => xm_fv b M k j t)).length := by
    rw [List.length_mapIdx]
    exact (List.getElem?_eq_some_iff.mp hkd).1
  have hap := va_apart (own := own) hts hin ty0 hty hnm hK hc0
  obtain ⟨r, hr0, cell, q1, q2, q3, q4⟩ := hP k _ ha
  have hr : r = (C, T, N) := Option.some.inj (hr0.symm.trans hc0)
  subst hr
  obtain ⟨hS, hfc, kC, hkC, hkind⟩ := hK.1 ci _ hc0
  obtain ⟨cf, kf, fi, f, hi, hsl⟩ := hS j hj
  have hlay := hts _ (hin _ (u_in_lay hj))
  unfold u_lay at hlay
  rw [if_pos hfin] at hlay
  have hst := (u_facts hfc hkC (u_lays hts hin hj) hi).1
  have hcf : m.cls = cf := by
    obtain ⟨_, _, c', _, _, _, -, -, hf', -, -, -, hown2, -⟩ := Cond.laysFinal_spec hlay
    have e1 : c' = cf := by have := hi.symm.trans hf'; simp at this; exact this.1.symm
    rw [hdecl] at hown2
    rw [← e1]; exact Option.some.inj (hown.symm.trans hown2)
  have h6 := u_fits hfc hkC hkind (Or.inr hlay) hi (hty j hj) hn hfit
  refine W.putFinK hx hb hown hlink hi hst hcf hin2 (by rw [q2]; exact h6) q1 q3 (by rw [hsl]; exact k2_hasslot (q4 j hj)) rfl rfl hd fun H1 e1 e2 e3 => ?_
  rw [hsl] at e1 ⊢
  have hP1 := hP.set xm_w_D ha (show va_at D cl (b + k, .inr (ci, ((G.2.2.2 ci).mapIdx (fun j t => xm_fv b M k j t)).set j (xm_v b v))) H1 from ⟨_, hc0, t_OB.to (V := updV (vp_V _) j (xm_v b v)) ⟨_, e1, q2, q3, t_set q4 hap hj (xm_v b v)⟩ (fun i _ => vp_updV_set hlen (xm_v b v) i)⟩) e3
  rw [xm_fset hkd hv (fun i t' _ h => ho i t' h)] at hP1
  have hP1 : va_P D cl ((xm_w b G M).set k (b + k, .inr (ci, (G.2.2.2 ci).mapIdx (fun j t => xm_fv b M' k j t)))) H1 := hP1
  rw [xm_w_set (M := M) (M' := M') (e' := .inr (ci, (G.2.2.2 ci).mapIdx (fun j t => xm_fv b M' k j t))) h1 hk rfl ho2] at hP1
  refine kk H1 _ cells slots ls hP1 ?_ (hS0.put e2 e3 (Nat.le_add_right b k)) hc hs hl
  show H1.size = b + M'.1.length
  rw [h1]
  exact e2.trans hz
theorem xs_putfN (hx : p.tables.exec = Jvm.exec) (hb : c.code = cc) {own C host : String} {T : u_T} {N ci ix j t k : Nat} {Ts : List Cond} {v : Value} {M' : xm_M} (hts : ∀ w ∈ Ts, w.before args s = true) (hin : ∀ w ∈ u_ws C T N, w ∈ Ts) (ty0 : Nat → FieldType) (hty : ∀ k, k < N → parseFieldDescriptor (T k).2.2.1 = some (ty0 k)) (hnm : ∀ a, a < N → ∀ b, b < N → a ≠ b → (T a).2.1 ≠ (T b).2.1) (hown : s.vm.findClass own = some m.cls) (hK : va_K D cl tys s) (hc0 : cl[ci]? = some (C, T, N)) (hj : j < N) (hlink : (Cond.fieldLinkNest own ix (T j).1 (T j).2.1 (T j).2.2.1 host).before args s = true) (hfin : (T j).2.2.2 = false) (hn : narrow (ty0 j) (xm_v b v) = xm_v b v) (hfit : fits (ty0 j) (xm_v b v) = true) (hkd : (G.2.2.2 ci)[j]? = some t) (hk : xm_nth M.1 k = some (3, ci)) (h1 : M'.1 = M.1) (hv : xm_fv b M' k j t = xm_v b v) (ho : ∀ i t', i ≠ j → xm_fv b M' k i t' = xm_fv b M k i t') (ho2 : ∀ i sh, i ≠ k → xm_e b G M' i sh = xm_e b G M i sh) (hd : decode cc pc = .ok (.putfield ix, 3)) (kk : xm_X p l e R s m args below meth c Q b G D cl nL (pc + 3, L, S, M', bc, bs)) : xm_X p l e R s m args below meth c Q b G D cl nL (pc, L, v :: .ref k :: S, M, bc, bs) := by
  intro H locs cells slots ls hP hz hS0 hc hs hl
  have ha := xm_w_at (b := b) (G := G) hk
  have hlen : j < ((G.2.2.2 ci).mapIdx (fun j t => xm_fv b M k j t)).length := by
    rw [List.length_mapIdx]
    exact (List.getElem?_eq_some_iff.mp hkd).1
  have hap := va_apart (own := own) hts hin ty0 hty hnm hK hc0
  obtain ⟨r, hr0, cell, q1, q2, q3, q4⟩ := hP k _ ha
  have hr : r = (C, T, N) := Option.some.inj (hr0.symm.trans hc0)
  subst hr
  obtain ⟨hS, hfc, kC, hkC, hkind⟩ := hK.1 ci _ hc0
  obtain ⟨cf, kf, fi, f, hi, hsl⟩ := hS j hj
  have hlay := hts _ (hin _ (u_in_lay hj))
  unfold u_lay at hlay
  rw [if_neg (by rw [hfin]; decide)] at hlay
  have hst := (u_facts hfc hkC (u_lays hts hin hj) hi).1
  have h6 := u_store hfc hkC hkind hlay hi (hty j hj) hn hfit
  refine va_WputK hx hb (f := f) hown hlink hi hst (by rw [q2]; exact h6) q1 q3 (by rw [hsl]; exact k2_hasslot (q4 j hj)) rfl rfl hd fun H1 e1 e2 e3 => ?_
  rw [hsl] at e1 ⊢
  have hP1 := hP.set xm_w_D ha (show va_at D cl (b + k, .inr (ci, ((G.2.2.2 ci).mapIdx (fun j t => xm_fv b M k j t)).set j (xm_v b v))) H1 from ⟨_, hc0, t_OB.to (V := updV (vp_V _) j (xm_v b v)) ⟨_, e1, q2, q3, t_set q4 hap hj (xm_v b v)⟩ (fun i _ => vp_updV_set hlen (xm_v b v) i)⟩) e3
  rw [xm_fset hkd hv (fun i t' _ h => ho i t' h)] at hP1
  have hP1 : va_P D cl ((xm_w b G M).set k (b + k, .inr (ci, (G.2.2.2 ci).mapIdx (fun j t => xm_fv b M' k j t)))) H1 := hP1
  rw [xm_w_set (M := M) (M' := M') (e' := .inr (ci, (G.2.2.2 ci).mapIdx (fun j t => xm_fv b M' k j t))) h1 hk rfl ho2] at hP1
  refine kk H1 _ cells slots ls hP1 ?_ (hS0.put e2 e3 (Nat.le_add_right b k)) hc hs hl
  show H1.size = b + M'.1.length
  rw [h1]
  exact e2.trans hz
theorem xs_grow {H H1 : Heap} {M' : xm_M} {sh : Nat × Nat} (hP : va_P D cl (xm_w b G M) H) (hz : H.size = b + M.1.length) (h1 : M'.1 = M.1 ++ [sh]) (ho : ∀ i sh', i < M.1.length → xm_e b G M' i sh' = xm_e b G M i sh') (hn : va_at D cl (H.size, xm_e b G M' M.1.length sh) H1) (o1 : ∀ q : Nat, q < H.size → H1[q]? = H[q]?) : va_P D cl (xm_w b G M') H1 := by
  intro k q hk
  rw [xm_w_get, h1] at hk
  by_cases hl : k < M.1.length
  · rw [List.getElem?_append_left hl] at hk
    cases hm : M.1[k]? with
    | none => rw [hm] at hk; cases hk
    | some sh' =>
      rw [hm] at hk
      cases hk
      show va_at D cl (b + k, xm_e b G M' k sh') H1
      rw [ho k sh' hl]
      refine (hP k _ (xm_w_at (by rw [xm_nth_eq]; exact hm))).kept (o1 _ ?_)
      show b + k < H.size
      omega
  · rw [List.getElem?_append_right (by omega)] at hk
    have hz1 : k - M.1.length < 1 := by
      cases hm : [sh][k - M.1.length]? with
      | none => rw [hm] at hk; cases hk
      | some z => exact (List.getElem?_eq_some_iff.mp hm).1
    have hk0 : k = M.1.length := by omega
    subst hk0
    rw [Nat.sub_self] at hk
    cases hk
    show va_at D cl (b + M.1.length, xm_e b G M' M.1.length sh) H1
    rw [← hz]
    exact hn
theorem xm_row_ne {α : Type} {f : Nat → Nat → α} {k a : Nat} {v : α} (h : a ≠ k) : xm_row f k v a = f a := by
  funext j
  show (bif Nat.beq a k then v else f a j) = f a j
  rw [xm_bne h]
  rfl
theorem xm_row_self {α : Type} {f : Nat → Nat → α} {k : Nat} {v : α} : xm_row f k v k = fun _ => v := by
  funext j
  show (bif Nat.beq k k then v else f k j) = v
  rw [xm_brf]
  rfl
theorem xm_e_same {M' : xm_M} {i : Nat} {sh : Nat × Nat} (h1 : M'.2.1 i = M.2.1 i) (h2 : M'.2.2.1 i = M.2.2.1 i) (h3 : M'.2.2.2 i = M.2.2.2 i) : xm_e b G M' i sh = xm_e b G M i sh := by
  have e2 : (fun z t => xm_fv b M' i z t) = (fun z t => xm_fv b M i z t) := by
    funext z t
    unfold xm_fv
    rw [h1, h2, h3]
  unfold xm_e
  rw [h1, h2, h3, e2]
theorem xs_newI (hx : p.tables.exec = Jvm.exec) (hb : c.code = cc) (hK : va_K D cl [(G.1, .int), (G.2.1, .long), (G.2.2.1, .object CF)] s) (harr : (Cond.arrayClass .int).before args s = true) {N : Nat} {n : Int32} (hn : ¬ n < 0) (hN : n.toNatClampNeg = N) (hbytes : N * 4 ≤ 536870912) (h1c : 1 ≤ bc) (h1s : N ≤ bs) (hd : decode cc pc = .ok (.newarray .int, 2)) (kk : xm_X p l e R s m args below meth c Q b G D cl nL (pc + 2, L, .ref M.1.length :: S, (M.1 ++ [(0, N)], xm_row M.2.1 M.1.length 0, xm_row M.2.2.1 M.1.length 0, M.2.2.2), bc - 1, bs - N)) : xm_X p l e R s m args below meth c Q b G D cl nL (pc, L, .int n :: S, M, bc, bs) := by
  intro H locs cells slots ls hP hz hS hc hs hl
  have hz : H.size = b + M.1.length := hz
  have hc : cells + bc = R.cells := hc
  have hs : slots + bs = R.slots := hs
  refine va_newaK (cc := cc) hx hb (atype := .int) harr rfl hd rfl hn hN hbytes (by omega) (by omega) rfl fun H1 cA e1 z1 o1 hAr hNm => ?_
  have hcA : cA = G.1 := Option.some.inj (hNm.symm.trans (hK.2 0 _ rfl).2)
  subst hcA
  have hP1 : va_P D cl (xm_w b G (M.1 ++ [(0, N)], xm_row M.2.1 M.1.length 0, xm_row M.2.2.1 M.1.length 0, M.2.2.2)) H1 := by
    refine xs_grow hP hz rfl (fun i sh' hi => xm_e_same (xm_row_ne (by omega)) (xm_row_ne (by omega)) rfl) ?_ o1
    show H1[H.size]? = some (vp_cell G.1 (N, .inl (xm_row M.2.1 M.1.length 0 M.1.length)))
    rw [e1, xm_row_self]
    rfl
  have := kk H1 locs (cells + 1) (slots + N) ls hP1 (by rw [z1, hz]; simp; omega) ⟨Nat.le_trans hS.1 (by omega), fun x h1 h2 => (o1 x (Nat.lt_of_lt_of_le h1 hS.1)).trans (hS.2.1 x h1 h2), hS.2.2⟩ (by show cells + 1 + (bc - 1) = R.cells; omega) (by show slots + N + (bs - N) = R.slots; omega) hl
  rw [hz]
  exact this
end XO
end
section
/-- what stays known of the tables beside the classes: links between nest mates, arrays of an object's class -/
def xm_isN (w : Cond) : Bool := match w with
  | .fieldLinkNest _ _ _ _ _ _ => true
  | .methodLinkNest _ _ _ _ => true
  | _ => false
def xm_N (Ns : List Cond) (CF : String) (U : State) : Prop := (∀ w ∈ Ns, va_Nw w U) ∧ va_AO CF U
theorem xm_N.warm {Ns : List Cond} {CF : String} (hNs : ∀ w ∈ Ns, xm_isN w = true) {s U : State} (hW : s.WarmedH U.vm) (h : xm_N Ns CF s) : xm_N Ns CF U := by
  refine ⟨fun w hw => ?_, h.2.moved hW.alike⟩
  have h1 := h.1 w hw
  have h2 := hNs w hw
  cases w <;> first | exact va_Nw.warmF hW h1 | exact va_Nw.warmM hW h1 | cases h2
theorem xm_N.same {Ns : List Cond} {CF : String} (hNs : ∀ w ∈ Ns, xm_isN w = true) {s U : State} (hW : s.vm = U.vm) (h : xm_N Ns CF s) : xm_N Ns CF U := by
  refine ⟨fun w hw => ?_, h.2.moved (by rw [hW]; exact Vm.Alike.refl U.vm)⟩
  have h1 := h.1 w hw
  have h2 := hNs w hw
  refine va_Nw.same ?_ hW h1
  cases w <;> first | rfl | cases h2
def xm_B (b : Nat) (G : xm_G) (D : va_G) (cl : List vw_C) (M : xm_M) (t : State) : Prop := va_P D cl (xm_w b G M) t.heap ∧ t.heap.size = b + M.1.length
def xm_Qc (b : Nat) (G : xm_G) (D : va_G) (cl : List vw_C) (P : xm_R → Prop) : Array Value → State → Outcome → State → Prop := fun _ st oc t => (∃ r : xm_R, P r ∧ oc = .returned (r.1.map (xm_v b)) ∧ xm_B b G D cl r.2 t) ∧ va_F (fun q => b ≤ q) st t
def xm_Pc (b : Nat) (G : xm_G) (D : va_G) (cl : List vw_C) (tys : List (ClassId × FieldType)) (Ns : List Cond) (CF : String) (av : List Value) (M : xm_M) : Array Value → State → Prop := va_Pc (av.map (xm_v b)) (fun U => xm_B b G D cl M U ∧ va_K D cl tys U ∧ xm_N Ns CF U ∧ b ≤ U.heap.size)
theorem xm_blind {b : Nat} {G : xm_G} {D : va_G} {cl : List vw_C} {tys : List (ClassId × FieldType)} {Ns : List Cond} {CF : String} (hNs : ∀ w ∈ Ns, xm_isN w = true) {av : List Value} {M : xm_M} : FrameBlind (xm_Pc b G D cl tys Ns CF av M) :=
  fun a U g mk q => ⟨q.1, q.2.1, va_K.moved (u := U) (U := U.calling g mk a) (Vm.Alike.refl U.vm) q.2.2.1, xm_N.same (s := U) (U := U.calling g mk a) hNs rfl q.2.2.2.1, q.2.2.2.2⟩
section XC
variable {p : Program} {l : Launch} {e : Env} {R : Room} {s : State} {m : MethodId} {args : Array Value} {below : List Frame} {meth : Method} {c : Code} {Q : State → Prop}
variable {b : Nat} {G : xm_G} {D : va_G} {cl : List vw_C} {nL : Nat} {cc : ByteArray} {pc : Nat} {L : xm_L} {S : List Value} {M : xm_M} {bc bs : Nat} {tys : List (ClassId × FieldType)} {CF : String} {Ns : List Cond}
theorem xs_newL (hx : p.tables.exec = Jvm.exec) (hb : c.code = cc) (hK : va_K D cl [(G.1, .int), (G.2.1, .long), (G.2.2.1, .object CF)] s) (harr : (Cond.arrayClass .long).before args s = true) {N : Nat} {n : Int32} (hn : ¬ n < 0) (hN : n.toNatClampNeg = N) (hbytes : N * 8 ≤ 536870912) (h1c : 1 ≤ bc) (h1s : N ≤ bs) (hd : decode cc pc = .ok (.newarray .long, 2)) (kk : xm_X p l e R s m args below meth c Q b G D cl nL (pc + 2, L, .ref M.1.length :: S, (M.1 ++ [(1, N)], xm_row M.2.1 M.1.length 0, xm_row M.2.2.1 M.1.length 0, M.2.2.2), bc - 1, bs - N)) : xm_X p l e R s m args below meth c Q b G D cl nL (pc, L, .int n :: S, M, bc, bs) := by
  intro H locs cells slots ls hP hz hS hc hs hl
  have hz : H.size = b + M.1.length := hz
  have hc : cells + bc = R.cells := hc
  have hs : slots + bs = R.slots := hs
  refine va_newaK (cc := cc) hx hb (atype := .long) harr rfl hd rfl hn hN hbytes (by omega) (by omega) rfl fun H1 cA e1 z1 o1 hAr hNm => ?_
  have hcA : cA = G.2.1 := Option.some.inj (hNm.symm.trans (hK.2 1 _ rfl).2)
  subst hcA
  have hP1 : va_P D cl (xm_w b G (M.1 ++ [(1, N)], xm_row M.2.1 M.1.length 0, xm_row M.2.2.1 M.1.length 0, M.2.2.2)) H1 := by
    refine xs_grow hP hz rfl (fun i sh' hi => xm_e_same (xm_row_ne (by omega)) (xm_row_ne (by omega)) rfl) ?_ o1
    show H1[H.size]? = some (vp_cell G.2.1 (N, .inr (.inl (xm_row M.2.2.1 M.1.length 0 M.1.length))))
    rw [e1, xm_row_self]
    rfl
  have := kk H1 locs (cells + 1) (slots + N) ls hP1 (by rw [z1, hz]; simp; omega) ⟨Nat.le_trans hS.1 (by omega), fun x h1 h2 => (o1 x (Nat.lt_of_lt_of_le h1 hS.1)).trans (hS.2.1 x h1 h2), hS.2.2⟩ (by show cells + 1 + (bc - 1) = R.cells; omega) (by show slots + N + (bs - N) = R.slots; omega) hl
  rw [hz]
  exact this
theorem xs_newR (hx : p.tables.exec = Jvm.exec) (hb : c.code = cc) {own : String} {ix : Nat} (hown : s.vm.findClass own = some m.cls) (hclink : (Cond.classLink own ix CF).before args s = true) (hover : va_AO CF s) (hK : va_K D cl [(G.1, .int), (G.2.1, .long), (G.2.2.1, .object CF)] s) {N : Nat} {n : Int32} (hn : ¬ n < 0) (hN : n.toNatClampNeg = N) (hbytes : N * 4 ≤ 536870912) (h1c : 1 ≤ bc) (h1s : N ≤ bs) (hd : decode cc pc = .ok (.anewarray ix, 3)) (kk : xm_X p l e R s m args below meth c Q b G D cl nL (pc + 3, L, .ref M.1.length :: S, (M.1 ++ [(2, N)], M.2.1, M.2.2.1, xm_row M.2.2.2 M.1.length 0), bc - 1, bs - N)) : xm_X p l e R s m args below meth c Q b G D cl nL (pc, L, .int n :: S, M, bc, bs) := by
  intro H locs cells slots ls hP hz hS hc hs hl
  have hz : H.size = b + M.1.length := hz
  have hc : cells + bc = R.cells := hc
  have hs : slots + bs = R.slots := hs
  subst hN
  refine W.anew hx hb hown hclink (va_AO.use hover) rfl hd rfl hn hbytes (by omega) (by omega) fun cA kA comp f1 f2 f3 f4 => ?_
  have hcA : cA = G.2.2.1 := by
    obtain ⟨_, _, _, _, _, g4⟩ := (hK.2 2 _ rfl).2
    exact Option.some.inj (f1.symm.trans g4)
  subst hcA
  generalize hH1 : H.push ({ cls := G.2.2.1, slots := Array.replicate n.toNatClampNeg .null, vm := .none } : Cell) = H1
  have z1 : H1.size = H.size + 1 := by rw [← hH1, Array.size_push]
  have e1 : H1[H.size]? = some (arrV G.2.2.1 n.toNatClampNeg (fun _ => .null)) := by rw [← hH1, Array.getElem?_push_size, ← arrV_new]
  have o1 : ∀ q : Nat, q < H.size → H1[q]? = H[q]? := fun q hq => by rw [← hH1, Array.getElem?_push, if_neg (Nat.ne_of_lt hq)]
  have hP1 : va_P D cl (xm_w b G (M.1 ++ [(2, n.toNatClampNeg)], M.2.1, M.2.2.1, xm_row M.2.2.2 M.1.length 0)) H1 := by
    refine xs_grow hP hz rfl (fun i sh' hi => xm_e_same rfl rfl (xm_row_ne (by omega))) ?_ o1
    show H1[H.size]? = some (vp_cell G.2.2.1 (n.toNatClampNeg, .inr (.inr (.inr (.inr (fun j => xm_q b (xm_row M.2.2.2 M.1.length 0 M.1.length j)))))))
    rw [e1, xm_row_self]
    rfl
  have := kk H1 locs (cells + 1) (slots + n.toNatClampNeg) ls hP1 (by rw [z1, hz]; simp; omega) ⟨Nat.le_trans hS.1 (by omega), fun x h1 h2 => (o1 x (Nat.lt_of_lt_of_le h1 hS.1)).trans (hS.2.1 x h1 h2), hS.2.2⟩ (by show cells + 1 + (bc - 1) = R.cells; omega) (by show slots + n.toNatClampNeg + (bs - n.toNatClampNeg) = R.slots; omega) hl
  rw [hz]
  exact this
def xm_zero (t : Nat) : Value := match t with
  | 1 => .long 0
  | 2 => .null
  | _ => .int 0
theorem xs_newO {c0 : Code} (hx : p.tables.exec = Jvm.exec) (hb : c0.code = cc) {own C : String} {T : u_T} {N ci ix : Nat} {Ts : List Cond} (hts : ∀ w ∈ Ts, w.before args s = true) (hin : ∀ w ∈ u_ws C T N, w ∈ Ts) (ty : Nat → FieldType) (hty : ∀ k, k < N → parseFieldDescriptor (T k).2.2.1 = some (ty k)) (hown : s.vm.findClass own = some m.cls) (hcl : (Cond.classLink own ix C).before args s = true) (hinst : (Cond.instantiable C N).before args s = true) (hini : (Cond.initialized C).before args s = true) (hK : va_K D cl tys s) (hc0 : cl[ci]? = some (C, T, N)) (hkd : ∀ j, j < N → ∃ t, (G.2.2.2 ci)[j]? = some t ∧ defaultValue (ty j) = xm_zero t) (h1c : 1 ≤ bc) (h1s : N ≤ bs) (hd : decode cc pc = .ok (.new ix, 3)) (kk : xm_X p l e R s m args below meth c0 Q b G D cl nL (pc + 3, L, .ref M.1.length :: S, (M.1 ++ [(3, ci)], xm_row M.2.1 M.1.length 0, xm_row M.2.2.1 M.1.length 0, xm_row M.2.2.2 M.1.length 0), bc - 1, bs - N)) : xm_X p l e R s m args below meth c0 Q b G D cl nL (pc, L, S, M, bc, bs) := by
  intro H locs cells slots ls hP hz hS hc hs hl
  have hz : H.size = b + M.1.length := hz
  have hc : cells + bc = R.cells := hc
  have hs : slots + bs = R.slots := hs
  have hKn := hK.1 ci _ hc0
  refine W.newcK hx hb hown hcl hinst hini rfl hd (by omega) (by omega) hKn.2.1 rfl fun H1 kC hkC e1 z1 o1 => ?_
  have hP1 : va_P D cl (xm_w b G (M.1 ++ [(3, ci)], xm_row M.2.1 M.1.length 0, xm_row M.2.2.1 M.1.length 0, xm_row M.2.2.2 M.1.length 0)) H1 := by
    refine xs_grow hP hz rfl (fun i sh' hi => xm_e_same (xm_row_ne (by omega)) (xm_row_ne (by omega)) (xm_row_ne (by omega))) ?_ o1
    refine ⟨_, hc0, (u_born ty hts hin hKn hkC e1 hty).to (fun j hj => ?_)⟩
    obtain ⟨t, h1, h2⟩ := hkd j hj
    rw [h2]
    show xm_zero t = ((G.2.2.2 ci).mapIdx (fun j t => xm_fv b (M.1 ++ [(3, ci)], xm_row M.2.1 M.1.length 0, xm_row M.2.2.1 M.1.length 0, xm_row M.2.2.2 M.1.length 0) M.1.length j t)).getD j .null
    rw [List.getD_eq_getElem?_getD, List.getElem?_mapIdx, h1]
    simp only [Option.map_some, Option.getD_some]
    unfold xm_fv xm_zero
    simp only [xm_row_self]
    rcases t with _ | _ | _ | t <;> rfl
  have := kk H1 locs (cells + 1) (slots + N) ls hP1 (by rw [z1, hz]; simp; omega) ⟨Nat.le_trans hS.1 (by omega), fun x h1 h2 => (o1 x (Nat.lt_of_lt_of_le h1 hS.1)).trans (hS.2.1 x h1 h2), hS.2.2⟩ (by show cells + 1 + (bc - 1) = R.cells; omega) (by show slots + N + (bs - N) = R.slots; omega) hl
  rw [hz]
  exact this
theorem xm_cl {H : Heap} {locs : List Loc} {cells slots mc ms : Nat} {ls : Array Slot} {rest st0 : List Value} {a : Array Value} {P : xm_R → Prop} (hr : va_Run p l e R s m args below meth c H locs cells slots mc ms (F0 m pc ls st0) rest (xm_Qc b G D cl P a) (fun q => b ≤ q)) (hS : va_S (fun q => b ≤ q) s.heap H locs)
    (kk : ∀ (r : xm_R) (H1 : Heap) (locs1 : List Loc), P r → va_P D cl (xm_w b G r.2) H1 → H1.size = b + r.2.1.length → va_S (fun q => b ≤ q) s.heap H1 locs1 → W p l e R s m args below meth c H1 locs1 (cells + mc) (slots + ms) Q (F0 m (pc + 3) ls ((r.1.map (xm_v b)).toList ++ rest))) : W p l e R s m args below meth c H locs cells slots Q (F0 m pc ls st0) := by
  intro T hT X
  obtain ⟨v, st₀, t, T', L, h0, X', hL, e1, e2, ⟨⟨r, hp, hv, hb1, hb2⟩, hz, hk⟩, st⟩ := hr T hT X
  cases hv
  rw [h0] at hz hk
  obtain ⟨t2, a1, b1⟩ := kk r T'.heap (locs ++ L) hp (by rw [e1]; exact hb1) (by rw [e1]; exact hb2)
    ⟨Nat.le_trans hS.1 (by rw [e1]; exact hz), fun q h1 h2 => by rw [e1, hk q (Nat.lt_of_lt_of_le h1 hS.1) h2]; exact hS.2.1 q h1 h2, fun q hq => by
      rcases List.mem_append.mp hq with h | h
      · exact hS.2.2 q h
      · exact hL q h⟩ T' rfl X'
  exact ⟨t2, st t2 a1, b1⟩
theorem xs_callV {own C : String} {Ts : List Cond} {y : MethodName} {bytes : ByteArray} {maxL mc ms n ix  k ci N : Nat} {ret : Option FieldType} {T : u_T} {ws : List Cond} {rm : Room} {As : List Value} {P0 : xm_R → Prop} (S0 : CallFix p m c cc nL s args Ts own) (hNs : ∀ w ∈ Ns, xm_isN w = true) (hN : xm_N Ns CF s) (hK : va_K D cl tys s) (hbs : b ≤ s.heap.size) (hM : Met l y ws rm (xm_Pc b G D cl tys Ns CF (.ref k :: As) M) (xm_Qc b G D cl P0) mc ms (fun q => b ≤ q)) (cw : CallW R s args own C ix y bytes maxL ret ws rm mc ms n) (hc0 : cl[ci]? = some (C, T, N)) (hk : xm_nth M.1 k = some (3, ci)) (hn : As.length = n) (hcat : xm_cat S ≤ 8) (h1c : mc ≤ bc) (h1s : ms ≤ bs) (hd : decode cc pc = .ok (.invokevirtual ix, 3)) (kk : ∀ r, P0 r → xm_X p l e R s m args below meth c Q b G D cl nL (xm_bk (pc + 3) L S (bc - mc) (bs - ms) r)) : xm_X p l e R s m args below meth c Q b G D cl nL (pc, L, As.reverse ++ .ref k :: S, M, bc, bs) := by
  intro H locs cells slots ls hP hz hS hc hs hl
  have hz : H.size = b + M.1.length := hz
  have hc : cells + bc = R.cells := hc
  have hs : slots + bs = R.slots := hs
  have hP : va_P D cl (xm_w b G M) H := hP
  refine xm_cl (rest := S.map (xm_v b)) (va_runV (As := As.map (xm_v b)) (b := b + k) S0 hM cw ⟨xm_blind hNs, va_recv hK hP hc0 (xm_w_at hk), fun U hU hW => ⟨rfl, ⟨by rw [hU]; exact hP, by rw [hU]; exact hz⟩, va_K.moved hW.alike hK, hN.warm hNs hW, by rw [hU]; exact Nat.le_trans hbs hS.1⟩⟩ rfl (by rw [List.length_map]; exact hn) hl.1 (by simp [List.map_reverse, xm_v]) (lv_room (by rw [xm_cat_eq]; exact hcat)) hd ⟨by omega, by omega⟩) hS fun r H1 locs1 hp hP1 hz1 hS1 => ?_
  obtain ⟨ov, M1⟩ := r
  have := kk _ hp
  cases ov with
  | none => exact this H1 locs1 (cells + mc) (slots + ms) ls hP1 hz1 hS1 (by show cells + mc + (bc - mc) = R.cells; omega) (by show slots + ms + (bs - ms) = R.slots; omega) hl
  | some v => exact this H1 locs1 (cells + mc) (slots + ms) ls hP1 hz1 hS1 (by show cells + mc + (bc - mc) = R.cells; omega) (by show slots + ms + (bs - ms) = R.slots; omega) hl
theorem xs_callVN {own C host : String} {Ts : List Cond} {y : MethodName} {bytes : ByteArray} {maxL mc ms n ix  k ci N : Nat} {ret : Option FieldType} {T : u_T} {ws : List Cond} {rm : Room} {As : List Value} {P0 : xm_R → Prop} (S0 : CallFix p m c cc nL s args Ts own) (hNs : ∀ w ∈ Ns, xm_isN w = true) (hN : xm_N Ns CF s) (hK : va_K D cl tys s) (hbs : b ≤ s.heap.size) (hM : Met l y ws rm (xm_Pc b G D cl tys Ns CF (.ref k :: As) M) (xm_Qc b G D cl P0) mc ms (fun q => b ≤ q)) (cw : va_CN R s args own ix y host bytes maxL ret ws rm mc ms n ∧ (Cond.instanceMethod y).before args s = true ∧ (Cond.selects C y y).before args s = true) (hc0 : cl[ci]? = some (C, T, N)) (hk : xm_nth M.1 k = some (3, ci)) (hn : As.length = n) (hcat : xm_cat S ≤ 8) (h1c : mc ≤ bc) (h1s : ms ≤ bs) (hd : decode cc pc = .ok (.invokevirtual ix, 3)) (kk : ∀ r, P0 r → xm_X p l e R s m args below meth c Q b G D cl nL (xm_bk (pc + 3) L S (bc - mc) (bs - ms) r)) : xm_X p l e R s m args below meth c Q b G D cl nL (pc, L, As.reverse ++ .ref k :: S, M, bc, bs) := by
  intro H locs cells slots ls hP hz hS hc hs hl
  have hz : H.size = b + M.1.length := hz
  have hc : cells + bc = R.cells := hc
  have hs : slots + bs = R.slots := hs
  have hP : va_P D cl (xm_w b G M) H := hP
  refine xm_cl (rest := S.map (xm_v b)) (va_runVN (As := As.map (xm_v b)) (b := b + k) S0 hM cw ⟨xm_blind hNs, va_recv hK hP hc0 (xm_w_at hk), fun U hU hW => ⟨rfl, ⟨by rw [hU]; exact hP, by rw [hU]; exact hz⟩, va_K.moved hW.alike hK, hN.warm hNs hW, by rw [hU]; exact Nat.le_trans hbs hS.1⟩⟩ rfl (by rw [List.length_map]; exact hn) hl.1 (by simp [List.map_reverse, xm_v]) (lv_room (by rw [xm_cat_eq]; exact hcat)) hd ⟨by omega, by omega⟩) hS fun r H1 locs1 hp hP1 hz1 hS1 => ?_
  obtain ⟨ov, M1⟩ := r
  have := kk _ hp
  cases ov with
  | none => exact this H1 locs1 (cells + mc) (slots + ms) ls hP1 hz1 hS1 (by show cells + mc + (bc - mc) = R.cells; omega) (by show slots + ms + (bs - ms) = R.slots; omega) hl
  | some v => exact this H1 locs1 (cells + mc) (slots + ms) ls hP1 hz1 hS1 (by show cells + mc + (bc - mc) = R.cells; omega) (by show slots + ms + (bs - ms) = R.slots; omega) hl
theorem xs_callS {own : String} {Ts : List Cond} {y : MethodName} {bytes : ByteArray} {maxL mc ms n ix  : Nat} {ret : Option FieldType} {ws : List Cond} {rm : Room} {As : List Value} {P0 : xm_R → Prop} (S0 : CallFix p m c cc nL s args Ts own) (hNs : ∀ w ∈ Ns, xm_isN w = true) (hN : xm_N Ns CF s) (hK : va_K D cl tys s) (hbs : b ≤ s.heap.size) (hM : Met l y ws rm (xm_Pc b G D cl tys Ns CF (As) M) (xm_Qc b G D cl P0) mc ms (fun q => b ≤ q)) (cw : CallB R s args own ix y bytes maxL ret ws rm mc ms n ∧ (Cond.static y).before args s = true)  (hn : As.length = n) (hcat : xm_cat S ≤ 8) (h1c : mc ≤ bc) (h1s : ms ≤ bs) (hd : decode cc pc = .ok (.invokestatic ix, 3)) (kk : ∀ r, P0 r → xm_X p l e R s m args below meth c Q b G D cl nL (xm_bk (pc + 3) L S (bc - mc) (bs - ms) r)) : xm_X p l e R s m args below meth c Q b G D cl nL (pc, L, As.reverse ++ S, M, bc, bs) := by
  intro H locs cells slots ls hP hz hS hc hs hl
  have hz : H.size = b + M.1.length := hz
  have hc : cells + bc = R.cells := hc
  have hs : slots + bs = R.slots := hs
  have hP : va_P D cl (xm_w b G M) H := hP
  refine xm_cl (rest := S.map (xm_v b)) (va_runS (As := As.map (xm_v b))  S0 hM cw ⟨xm_blind hNs, fun U hU hW => ⟨rfl, ⟨by rw [hU]; exact hP, by rw [hU]; exact hz⟩, va_K.moved hW.alike hK, hN.warm hNs hW, by rw [hU]; exact Nat.le_trans hbs hS.1⟩⟩ rfl (by rw [List.length_map]; exact hn) hl.1 (by simp [List.map_reverse, xm_v]) (lv_room (by rw [xm_cat_eq]; exact hcat)) hd ⟨by omega, by omega⟩) hS fun r H1 locs1 hp hP1 hz1 hS1 => ?_
  obtain ⟨ov, M1⟩ := r
  have := kk _ hp
  cases ov with
  | none => exact this H1 locs1 (cells + mc) (slots + ms) ls hP1 hz1 hS1 (by show cells + mc + (bc - mc) = R.cells; omega) (by show slots + ms + (bs - ms) = R.slots; omega) hl
  | some v => exact this H1 locs1 (cells + mc) (slots + ms) ls hP1 hz1 hS1 (by show cells + mc + (bc - mc) = R.cells; omega) (by show slots + ms + (bs - ms) = R.slots; omega) hl
theorem xs_callSN {own host : String} {Ts : List Cond} {y : MethodName} {bytes : ByteArray} {maxL mc ms n ix  : Nat} {ret : Option FieldType} {ws : List Cond} {rm : Room} {As : List Value} {P0 : xm_R → Prop} (S0 : CallFix p m c cc nL s args Ts own) (hNs : ∀ w ∈ Ns, xm_isN w = true) (hN : xm_N Ns CF s) (hK : va_K D cl tys s) (hbs : b ≤ s.heap.size) (hM : Met l y ws rm (xm_Pc b G D cl tys Ns CF (As) M) (xm_Qc b G D cl P0) mc ms (fun q => b ≤ q)) (cw : va_CN R s args own ix y host bytes maxL ret ws rm mc ms n ∧ (Cond.static y).before args s = true ∧ True)  (hn : As.length = n) (hcat : xm_cat S ≤ 8) (h1c : mc ≤ bc) (h1s : ms ≤ bs) (hd : decode cc pc = .ok (.invokestatic ix, 3)) (kk : ∀ r, P0 r → xm_X p l e R s m args below meth c Q b G D cl nL (xm_bk (pc + 3) L S (bc - mc) (bs - ms) r)) : xm_X p l e R s m args below meth c Q b G D cl nL (pc, L, As.reverse ++ S, M, bc, bs) := by
  intro H locs cells slots ls hP hz hS hc hs hl
  have hz : H.size = b + M.1.length := hz
  have hc : cells + bc = R.cells := hc
  have hs : slots + bs = R.slots := hs
  have hP : va_P D cl (xm_w b G M) H := hP
  refine xm_cl (rest := S.map (xm_v b)) (va_runSN (As := As.map (xm_v b))  S0 hM cw ⟨xm_blind hNs, fun U hU hW => ⟨rfl, ⟨by rw [hU]; exact hP, by rw [hU]; exact hz⟩, va_K.moved hW.alike hK, hN.warm hNs hW, by rw [hU]; exact Nat.le_trans hbs hS.1⟩⟩ rfl (by rw [List.length_map]; exact hn) hl.1 (by simp [List.map_reverse, xm_v]) (lv_room (by rw [xm_cat_eq]; exact hcat)) hd ⟨by omega, by omega⟩) hS fun r H1 locs1 hp hP1 hz1 hS1 => ?_
  obtain ⟨ov, M1⟩ := r
  have := kk _ hp
  cases ov with
  | none => exact this H1 locs1 (cells + mc) (slots + ms) ls hP1 hz1 hS1 (by show cells + mc + (bc - mc) = R.cells; omega) (by show slots + ms + (bs - ms) = R.slots; omega) hl
  | some v => exact this H1 locs1 (cells + mc) (slots + ms) ls hP1 hz1 hS1 (by show cells + mc + (bc - mc) = R.cells; omega) (by show slots + ms + (bs - ms) = R.slots; omega) hl
theorem xs_callI {own : String} {Ts : List Cond} {y : MethodName} {bytes : ByteArray} {maxL mc ms n ix  k : Nat}  {ws : List Cond} {rm : Room} {As : List Value} {P0 : xm_R → Prop} (S0 : CallFix p m c cc nL s args Ts own) (hNs : ∀ w ∈ Ns, xm_isN w = true) (hN : xm_N Ns CF s) (hK : va_K D cl tys s) (hbs : b ≤ s.heap.size) (hM : Met l y ws rm (xm_Pc b G D cl tys Ns CF (.ref k :: As) M) (xm_Qc b G D cl P0) mc ms (fun q => b ≤ q)) (cw : CallB R s args own ix y bytes maxL none ws rm mc ms n ∧ y.name = "<init>" ∧ (Cond.instanceMethod y).before args s = true)  (hn : As.length = n) (hcat : xm_cat S ≤ 8) (h1c : mc ≤ bc) (h1s : ms ≤ bs) (hd : decode cc pc = .ok (.invokespecial ix, 3)) (kk : ∀ r, P0 r → xm_X p l e R s m args below meth c Q b G D cl nL (xm_bk (pc + 3) L S (bc - mc) (bs - ms) r)) : xm_X p l e R s m args below meth c Q b G D cl nL (pc, L, As.reverse ++ .ref k :: S, M, bc, bs) := by
  intro H locs cells slots ls hP hz hS hc hs hl
  have hz : H.size = b + M.1.length := hz
  have hc : cells + bc = R.cells := hc
  have hs : slots + bs = R.slots := hs
  have hP : va_P D cl (xm_w b G M) H := hP
  refine xm_cl (rest := S.map (xm_v b)) (va_runI (As := As.map (xm_v b)) (b := b + k) S0 hM cw ⟨xm_blind hNs, fun U hU hW => ⟨rfl, ⟨by rw [hU]; exact hP, by rw [hU]; exact hz⟩, va_K.moved hW.alike hK, hN.warm hNs hW, by rw [hU]; exact Nat.le_trans hbs hS.1⟩⟩ rfl (by rw [List.length_map]; exact hn) hl.1 (by simp [List.map_reverse, xm_v]) (lv_room (by rw [xm_cat_eq]; exact hcat)) hd ⟨by omega, by omega⟩) hS fun r H1 locs1 hp hP1 hz1 hS1 => ?_
  obtain ⟨ov, M1⟩ := r
  have := kk _ hp
  cases ov with
  | none => exact this H1 locs1 (cells + mc) (slots + ms) ls hP1 hz1 hS1 (by show cells + mc + (bc - mc) = R.cells; omega) (by show slots + ms + (bs - ms) = R.slots; omega) hl
  | some v => exact this H1 locs1 (cells + mc) (slots + ms) ls hP1 hz1 hS1 (by show cells + mc + (bc - mc) = R.cells; omega) (by show slots + ms + (bs - ms) = R.slots; omega) hl
theorem xs_callIN {own host : String} {Ts : List Cond} {y : MethodName} {bytes : ByteArray} {maxL mc ms n ix  k : Nat}  {ws : List Cond} {rm : Room} {As : List Value} {P0 : xm_R → Prop} (S0 : CallFix p m c cc nL s args Ts own) (hNs : ∀ w ∈ Ns, xm_isN w = true) (hN : xm_N Ns CF s) (hK : va_K D cl tys s) (hbs : b ≤ s.heap.size) (hM : Met l y ws rm (xm_Pc b G D cl tys Ns CF (.ref k :: As) M) (xm_Qc b G D cl P0) mc ms (fun q => b ≤ q)) (cw : va_CN R s args own ix y host bytes maxL none ws rm mc ms n ∧ y.name = "<init>" ∧ (Cond.instanceMethod y).before args s = true)  (hn : As.length = n) (hcat : xm_cat S ≤ 8) (h1c : mc ≤ bc) (h1s : ms ≤ bs) (hd : decode cc pc = .ok (.invokespecial ix, 3)) (kk : ∀ r, P0 r → xm_X p l e R s m args below meth c Q b G D cl nL (xm_bk (pc + 3) L S (bc - mc) (bs - ms) r)) : xm_X p l e R s m args below meth c Q b G D cl nL (pc, L, As.reverse ++ .ref k :: S, M, bc, bs) := by
  intro H locs cells slots ls hP hz hS hc hs hl
  have hz : H.size = b + M.1.length := hz
  have hc : cells + bc = R.cells := hc
  have hs : slots + bs = R.slots := hs
  have hP : va_P D cl (xm_w b G M) H := hP
  refine xm_cl (rest := S.map (xm_v b)) (va_runIN (As := As.map (xm_v b)) (b := b + k) S0 hM cw ⟨xm_blind hNs, fun U hU hW => ⟨rfl, ⟨by rw [hU]; exact hP, by rw [hU]; exact hz⟩, va_K.moved hW.alike hK, hN.warm hNs hW, by rw [hU]; exact Nat.le_trans hbs hS.1⟩⟩ rfl (by rw [List.length_map]; exact hn) hl.1 (by simp [List.map_reverse, xm_v]) (lv_room (by rw [xm_cat_eq]; exact hcat)) hd ⟨by omega, by omega⟩) hS fun r H1 locs1 hp hP1 hz1 hS1 => ?_
  obtain ⟨ov, M1⟩ := r
  have := kk _ hp
  cases ov with
  | none => exact this H1 locs1 (cells + mc) (slots + ms) ls hP1 hz1 hS1 (by show cells + mc + (bc - mc) = R.cells; omega) (by show slots + ms + (bs - ms) = R.slots; omega) hl
  | some v => exact this H1 locs1 (cells + mc) (slots + ms) ls hP1 hz1 hS1 (by show cells + mc + (bc - mc) = R.cells; omega) (by show slots + ms + (bs - ms) = R.slots; omega) hl
theorem xs_objInit (hx : p.tables.exec = Jvm.exec) (hb : c.code = cc) {own : String} {ix k : Nat} (hml : c.maxLocals = nL) (hown : s.vm.findClass own = some m.cls) (hlink : (Cond.methodLink own ix Lib.objectInit).before args s = true) (hinst : (Cond.instanceMethod Lib.objectInit).before args s = true) (hcode : (Cond.code Lib.objectInit ⟨#[0xb1]⟩ 1 none).before args s = true) (hcat : xm_cat S ≤ 8) (hf : 1 ≤ R.frames) (hlo : 20 ≤ R.locals) (hd : decode cc pc = .ok (.invokespecial ix, 3)) (kk : xm_X p l e R s m args below meth c Q b G D cl nL (pc + 3, L, S, M, bc, bs)) : xm_X p l e R s m args below meth c Q b G D cl nL (pc, L, .ref k :: S, M, bc, bs) := fun H locs cells slots ls hP hz hS hc hs hl =>
  W.objInit hx hb hown hlink hinst hcode rfl (hl.1.trans hml.symm) rfl hd hf (by
    show 2 * 0 + ((S.map (xm_v b)).map fun v => v.category).sum + 12 ≤ R.locals
    rw [xm_cat_eq]; omega) (kk H locs cells slots ls hP hz hS hc hs hl)
theorem xs_iret (hx : p.tables.exec = Jvm.exec) (hb : c.code = cc) {P : xm_R → Prop} {x : Int32} (hlocks : meth.locks = false) (hr : meth.sig.returnType = some .int) (hp : P (some (.int x), M)) (hd : decode cc pc = .ok (.ireturn, 1)) : xm_X p l e R s m args below meth c (MQ below (xm_Qc b G D cl P) args s R.cells R.slots (fun q => b ≤ q)) b G D cl nL (pc, L, [.int x], M, bc, bs) := by
  intro H locs cells slots ls hP hz hS hc hs hl
  have hc : cells + bc = R.cells := hc
  have hs : slots + bs = R.slots := hs
  refine W.widen (k := R.cells) (n := R.slots) (by omega) (by omega) ?_
  exact W.iret hx hb hr (fun t ht hW => ⟨⟨(some (.int x), M), hp, rfl, by rw [ht]; exact hP, by rw [ht]; exact hz⟩, hS.F ht⟩) hS.2.2 hd hlocks
theorem xs_zret (hx : p.tables.exec = Jvm.exec) (hb : c.code = cc) {P : xm_R → Prop} {x : Int32} {ty : FieldType} (hlocks : meth.locks = false) (hr : meth.sig.returnType = some ty) (hn : narrow ty (.int x) = .int x) (hp : P (some (.int x), M)) (hd : decode cc pc = .ok (.ireturn, 1)) : xm_X p l e R s m args below meth c (MQ below (xm_Qc b G D cl P) args s R.cells R.slots (fun q => b ≤ q)) b G D cl nL (pc, L, [.int x], M, bc, bs) := by
  intro H locs cells slots ls hP hz hS hc hs hl
  have hc : cells + bc = R.cells := hc
  have hs : slots + bs = R.slots := hs
  refine W.widen (k := R.cells) (n := R.slots) (by omega) (by omega) ?_
  exact W.zret hx hb hr hn (fun t ht hW => ⟨⟨(some (.int x), M), hp, rfl, by rw [ht]; exact hP, by rw [ht]; exact hz⟩, hS.F ht⟩) hS.2.2 hd hlocks
theorem xs_lret (hx : p.tables.exec = Jvm.exec) (hb : c.code = cc) {P : xm_R → Prop} {x : Int64} (hlocks : meth.locks = false) (hr : meth.sig.returnType = some .long) (hp : P (some (.long x), M)) (hd : decode cc pc = .ok (.lreturn, 1)) : xm_X p l e R s m args below meth c (MQ below (xm_Qc b G D cl P) args s R.cells R.slots (fun q => b ≤ q)) b G D cl nL (pc, L, [.long x], M, bc, bs) := by
  intro H locs cells slots ls hP hz hS hc hs hl
  have hc : cells + bc = R.cells := hc
  have hs : slots + bs = R.slots := hs
  refine W.widen (k := R.cells) (n := R.slots) (by omega) (by omega) ?_
  exact W.lret hx hb hr (fun t ht hW => ⟨⟨(some (.long x), M), hp, rfl, by rw [ht]; exact hP, by rw [ht]; exact hz⟩, hS.F ht⟩) hS.2.2 hd hlocks
theorem xs_vret (hx : p.tables.exec = Jvm.exec) (hb : c.code = cc) {P : xm_R → Prop}  (hlocks : meth.locks = false) (hr : meth.sig.returnType = none) (hp : P (none, M)) (hd : decode cc pc = .ok (.return_, 1)) : xm_X p l e R s m args below meth c (MQ below (xm_Qc b G D cl P) args s R.cells R.slots (fun q => b ≤ q)) b G D cl nL (pc, L, [], M, bc, bs) := by
  intro H locs cells slots ls hP hz hS hc hs hl
  have hc : cells + bc = R.cells := hc
  have hs : slots + bs = R.slots := hs
  refine W.widen (k := R.cells) (n := R.slots) (by omega) (by omega) ?_
  exact W.vret hx hb hr (fun t ht hW => ⟨⟨(none, M), hp, rfl, by rw [ht]; exact hP, by rw [ht]; exact hz⟩, hS.F ht⟩) hS.2.2 hd hlocks
theorem xm_all_or {ih : xm_S → Prop} {d : xm_S} : ∀ {l : List (Prop × xm_S)}, xm_all ih d l → (∃ q, q ∈ l ∧ q.1 ∧ ih q.2) ∨ ((∀ q, q ∈ l → ¬ q.1) ∧ ih d)
  | [], h => Or.inr ⟨fun q hq => by simp at hq, h⟩
  | (cd, st) :: l, h => by
    by_cases hc : cd
    · exact Or.inl ⟨(cd, st), List.mem_cons_self, hc, h.1 hc⟩
    · rcases xm_all_or (h.2 hc) with ⟨q, h1, h2⟩ | ⟨h1, h2⟩
      · exact Or.inl ⟨q, List.mem_cons_of_mem _ h1, h2⟩
      · refine Or.inr ⟨fun q hq => ?_, h2⟩
        rcases List.mem_cons.mp hq with h | h
        · rw [h]; exact hc
        · exact h1 q h
def xm_swk (pc : Nat) (lo hi : Int) (offs : Array Int) (sw : List (Int32 × Nat × List Nat)) : Bool :=
  decide (hi = lo + sw.length - 1) && (List.range sw.length).all fun j => match sw[j]?, offs[j]? with
    | some q, some off => decide (q.1.toInt = lo + j) && decide ((pc : Int) + off = (q.2.1 : Int))
    | _, _ => false
theorem xm_swk_at {pc : Nat} {lo hi : Int} {offs : Array Int} {sw : List (Int32 × Nat × List Nat)} (h : xm_swk pc lo hi offs sw = true) : hi = lo + sw.length - 1 ∧ ∀ (j : Nat) (q : Int32 × Nat × List Nat), sw[j]? = some q → q.1.toInt = lo + j ∧ ∃ off, offs[j]? = some off ∧ (pc : Int) + off = (q.2.1 : Int) := by
  unfold xm_swk at h
  rw [Bool.and_eq_true] at h
  refine ⟨of_decide_eq_true h.1, fun j q hj => ?_⟩
  have hl : j < sw.length := (List.getElem?_eq_some_iff.mp hj).1
  have h2 := List.all_eq_true.mp h.2 j (List.mem_range.mpr hl)
  rw [hj] at h2
  cases ho : offs[j]? with
  | none => rw [ho] at h2; cases h2
  | some off =>
    rw [ho] at h2
    have h3 : (decide (q.1.toInt = lo + j) && decide ((pc : Int) + off = (q.2.1 : Int))) = true := h2
    rw [Bool.and_eq_true] at h3
    exact ⟨of_decide_eq_true h3.1, off, rfl, of_decide_eq_true h3.2⟩
theorem xs_tsw (hx : p.tables.exec = Jvm.exec) (hb : c.code = cc) {x : Int32} {df lo hi : Int} {offs : Array Int} {ln tg : Nat} {D2 : List Nat} {sw : List (Int32 × Nat × List Nat)} (hd : decode cc pc = .ok (.tableswitch df lo hi offs, ln)) (hk : xm_swk pc lo hi offs sw = true) (ht : (pc : Int) + df = (tg : Int)) (k : xm_all (xm_X p l e R s m args below meth c Q b G D cl nL) (tg, xm_drop D2 L, S, M, bc, bs) (sw.map fun q => (x = q.1, (q.2.1, xm_drop q.2.2 L, S, M, bc, bs)))) : xm_X p l e R s m args below meth c Q b G D cl nL (pc, L, .int x :: S, M, bc, bs) := by
  obtain ⟨h1, h2⟩ := xm_swk_at hk
  rcases xm_all_or k with ⟨q, q1, q2, q3⟩ | ⟨q1, q2⟩
  · obtain ⟨w, w1, w2⟩ := List.mem_map.mp q1
    subst w2
    have q2 : x = w.1 := q2
    obtain ⟨j, hj⟩ := List.getElem?_of_mem w1
    obtain ⟨a1, off, a2, a3⟩ := h2 j w hj
    have hl : j < sw.length := (List.getElem?_eq_some_iff.mp hj).1
    have q3 := xs_drop w.2.2 q3
    intro H locs cells slots ls hP hz hS hc hs hl2
    refine lv_tableIn hx hb hd (by rw [q2, a1]; omega) (by rw [q2, a1]; omega) (off := off) ?_ a3 (q3 H locs cells slots ls hP hz hS hc hs hl2)
    rw [q2, a1, show (lo + (j : Int) - lo).toNat = j by omega]
    exact a2
  · have q2 := xs_drop D2 q2
    intro H locs cells slots ls hP hz hS hc hs hl2
    refine lv_tableOut hx hb hd ?_ ht (q2 H locs cells slots ls hP hz hS hc hs hl2)
    refine Classical.byContradiction fun hno => ?_
    have hlo : lo ≤ x.toInt := by omega
    have hhi : x.toInt ≤ hi := by omega
    have hj : (x.toInt - lo).toNat < sw.length := by omega
    have hq : sw[(x.toInt - lo).toNat]? = some sw[(x.toInt - lo).toNat] := List.getElem?_eq_getElem hj
    obtain ⟨a1, -⟩ := h2 _ _ hq
    refine q1 (x = (sw[(x.toInt - lo).toNat]).1, _) (List.mem_map.mpr ⟨_, List.mem_of_getElem? hq, rfl⟩) ?_
    show x = _
    exact Int32.toInt_inj.mp (by rw [a1]; omega)
end XC
end
section
def xm_len (i : Jvm.ClassFile.Instr) (q : Nat) : Nat := match i with
  | .tableswitch _ _ _ _ => q
  | .bipush _ => 2
  | .ldc _ => 2
  | .iload _ => 2
  | .lload _ => 2
  | .aload _ => 2
  | .istore _ => 2
  | .lstore _ => 2
  | .astore _ => 2
  | .newarray _ => 2
  | .sipush _ => 3
  | .ldc2_w _ => 3
  | .ldc_w _ => 3
  | .iinc _ _ => 3
  | .goto _ => 3
  | .ifCond _ _ => 3
  | .if_icmp _ _ => 3
  | .getfield _ => 3
  | .putfield _ => 3
  | .anewarray _ => 3
  | .new _ => 3
  | .invokevirtual _ => 3
  | .invokestatic _ => 3
  | .invokespecial _ => 3
  | _ => 1
/-- what is fixed of the methods: code, answer, places, room (frames, locals), class, parameters, kind (0 of an object, 1 static, 2 the making) -/
abbrev xm_V : Type := (Nat → ByteArray) × (Nat → Option FieldType) × (Nat → Nat) × (Nat → Nat × Nat) × (Nat → Nat) × (Nat → Nat) × (Nat → Nat)
/-- links: fields, fields of nest mates, methods, methods of nest mates, classes, Object's making, ints, longs -/
abbrev xm_K : Type := List (Nat × Nat × Nat × Nat) × List (Nat × Nat × Nat × Nat) × List (Nat × Nat × Nat) × List (Nat × Nat × Nat) × List (Nat × Nat × Nat) × List (Nat × Nat) × List (Nat × Nat × Int32) × List (Nat × Nat × Int64)
/-- of the objects' classes: kinds of fields, final fields; the class of the objects in arrays -/
abbrev xm_J : Type := (Nat → List Nat) × (Nat → Nat → Bool) × Nat × (Nat → Nat)
def xm_chk (V : xm_V) (K : xm_K) (J : xm_J) (mm pc : Nat) (e : xm_E) : Bool := match e with
  | (ins, nx, tg, _, _, (a, b, c, d), kI, kL, sw) =>
    decide (decode (V.1 mm) pc = .ok (ins, xm_len ins (nx - pc))) && (decide (nx = pc + xm_len ins (nx - pc)) && match ins with
    | .iconst n => decide (Int32.ofInt n = kI)
    | .bipush n => decide ((Int8.ofInt n).toInt32 = kI)
    | .sipush n => decide ((Int16.ofInt n).toInt32 = kI)
    | .lconst n => decide (Int64.ofNat (n : Nat) = kL)
    | .ldc ix => decide ((V.2.2.2.2.1 mm, ix, kI) ∈ K.2.2.2.2.2.2.1)
    | .ldc_w ix => decide ((V.2.2.2.2.1 mm, ix, kI) ∈ K.2.2.2.2.2.2.1)
    | .ldc2_w ix => decide ((V.2.2.2.2.1 mm, ix, kL) ∈ K.2.2.2.2.2.2.2)
    | .iload_n i => decide ((i : Nat) = a)
    | .lload_n i => decide ((i : Nat) = a)
    | .aload_n i => decide ((i : Nat) = a)
    | .iload i => decide (i = a)
    | .lload i => decide (i = a)
    | .aload i => decide (i = a)
    | .istore_n i => decide ((i : Nat) = a) && decide (a < V.2.2.1 mm)
    | .lstore_n i => decide ((i : Nat) = a) && decide (a + 1 < V.2.2.1 mm)
    | .astore_n i => decide ((i : Nat) = a) && decide (a < V.2.2.1 mm)
    | .istore i => decide (i = a) && decide (a < V.2.2.1 mm)
    | .lstore i => decide (i = a) && decide (a + 1 < V.2.2.1 mm)
    | .astore i => decide (i = a) && decide (a < V.2.2.1 mm)
    | .iinc i n => decide (i = a) && (decide (Int32.ofInt n = kI) && decide (a < V.2.2.1 mm))
    | .goto off => decide ((pc : Int) + off = (tg : Int))
    | .ifCond _ off => decide ((pc : Int) + off = (tg : Int))
    | .if_icmp _ off => decide ((pc : Int) + off = (tg : Int))
    | .tableswitch df lo hi offs => xm_swk pc lo hi offs sw && decide ((pc : Int) + df = (tg : Int))
    | .getfield ix => decide ((J.1 a)[b]? = some c) && (decide ((V.2.2.2.2.1 mm, ix, a, b) ∈ K.1) || decide ((V.2.2.2.2.1 mm, ix, a, b) ∈ K.2.1))
    | .putfield ix => decide ((J.1 a)[b]? = some c) && ((decide ((V.2.2.2.2.1 mm, ix, a, b) ∈ K.1) && (!(J.2.1 a b) || (decide (V.2.2.2.2.2.2 mm = 2) && decide (V.2.2.2.2.1 mm = a)))) || (decide ((V.2.2.2.2.1 mm, ix, a, b) ∈ K.2.1) && !(J.2.1 a b)))
    | .aastore => decide (a = J.2.2.1)
    | .newarray t => ((decide (t = .int) && decide (a = 0)) || (decide (t = .long) && decide (a = 1))) && (decide (kI.toNatClampNeg = b) && (decide (¬ kI < 0) && decide (b * 8 ≤ 536870912)))
    | .anewarray ix => decide ((V.2.2.2.2.1 mm, ix, J.2.2.1) ∈ K.2.2.2.2.1) && (decide (kI.toNatClampNeg = b) && (decide (¬ kI < 0) && decide (b * 8 ≤ 536870912)))
    | .new ix => decide ((V.2.2.2.2.1 mm, ix, a) ∈ K.2.2.2.2.1) && decide (J.2.2.2 a = b)
    | .invokevirtual ix => (decide ((V.2.2.2.2.1 mm, ix, a) ∈ K.2.2.1) || decide ((V.2.2.2.2.1 mm, ix, a) ∈ K.2.2.2.1)) && (decide (V.2.2.2.2.2.2 a = 0) && (decide (V.2.2.2.2.2.1 a = b) && (decide (V.2.2.2.2.1 a = c) && (decide ((V.2.2.2.1 a).1 + 1 ≤ (V.2.2.2.1 mm).1) && decide (V.2.2.1 a + 19 + (V.2.2.2.1 a).2 ≤ (V.2.2.2.1 mm).2)))))
    | .invokestatic ix => (decide ((V.2.2.2.2.1 mm, ix, a) ∈ K.2.2.1) || decide ((V.2.2.2.2.1 mm, ix, a) ∈ K.2.2.2.1)) && (decide (V.2.2.2.2.2.2 a = 1) && (decide (V.2.2.2.2.2.1 a = b) && (decide ((V.2.2.2.1 a).1 + 1 ≤ (V.2.2.2.1 mm).1) && decide (V.2.2.1 a + 19 + (V.2.2.2.1 a).2 ≤ (V.2.2.2.1 mm).2))))
    | .invokespecial ix => match d with
      | 0 => decide ((V.2.2.2.2.1 mm, ix) ∈ K.2.2.2.2.2.1) && (decide (1 ≤ (V.2.2.2.1 mm).1) && decide (20 ≤ (V.2.2.2.1 mm).2))
      | _ => (decide ((V.2.2.2.2.1 mm, ix, a) ∈ K.2.2.1) || decide ((V.2.2.2.2.1 mm, ix, a) ∈ K.2.2.2.1)) && (decide (V.2.2.2.2.2.2 a = 2) && (decide (V.2.2.2.2.2.1 a = b) && (decide ((V.2.2.2.1 a).1 + 1 ≤ (V.2.2.2.1 mm).1) && decide (V.2.2.1 a + 19 + (V.2.2.2.1 a).2 ≤ (V.2.2.2.1 mm).2))))
    | .ireturn => match d with
      | 0 => decide (V.2.1 mm = some .int)
      | _ => decide (V.2.1 mm = some .boolean)
    | .lreturn => decide (V.2.1 mm = some .long)
    | .return_ => decide (V.2.1 mm = none)
    | _ => true)
section XE
variable {ic : xm_C} {P : xm_R → Prop} {X : xm_S → Prop}
theorem xe_pI {S : List Value} {k : Int32 → List Value → xm_O} (h : xm_F ic P X (xm_pI S k)) : ∃ x S', S = .int x :: S' ∧ xm_F ic P X (k x S') := by
  unfold xm_pI at h
  split at h
  · exact ⟨_, _, rfl, h⟩
  · exact False.elim h
theorem xe_pL {S : List Value} {k : Int64 → List Value → xm_O} (h : xm_F ic P X (xm_pL S k)) : ∃ x S', S = .long x :: S' ∧ xm_F ic P X (k x S') := by
  unfold xm_pL at h
  split at h
  · exact ⟨_, _, rfl, h⟩
  · exact False.elim h
theorem xe_pR {S : List Value} {k : Nat → List Value → xm_O} (h : xm_F ic P X (xm_pR S k)) : ∃ x S', S = .ref x :: S' ∧ xm_F ic P X (k x S') := by
  unfold xm_pR at h
  split at h
  · exact ⟨_, _, rfl, h⟩
  · exact False.elim h
theorem xe_gI {L : xm_L} {i : Nat} {k : Int32 → xm_O} (h : xm_F ic P X (xm_gI L i k)) : ∃ x, xm_nth L i = some (some (.int x)) ∧ xm_F ic P X (k x) := by
  unfold xm_gI at h
  split at h
  · rename_i x hx
    exact ⟨_, hx, h⟩
  · exact False.elim h
theorem xe_gL {L : xm_L} {i : Nat} {k : Int64 → xm_O} (h : xm_F ic P X (xm_gL L i k)) : ∃ x, xm_nth L i = some (some (.long x)) ∧ xm_F ic P X (k x) := by
  unfold xm_gL at h
  split at h
  · rename_i x hx
    exact ⟨_, hx, h⟩
  · exact False.elim h
theorem xe_gR {L : xm_L} {i : Nat} {k : Nat → xm_O} (h : xm_F ic P X (xm_gR L i k)) : ∃ x, xm_nth L i = some (some (.ref x)) ∧ xm_F ic P X (k x) := by
  unfold xm_gR at h
  split at h
  · rename_i x hx
    exact ⟨_, hx, h⟩
  · exact False.elim h
theorem xe_sh {M : xm_M} {k kind : Nat} {f : Nat → xm_O} (h : xm_F ic P X (xm_sh M k kind f)) : ∃ n, xm_nth M.1 k = some (kind, n) ∧ xm_F ic P X (f n) := by
  unfold xm_sh at h
  split at h
  · rename_i t n hx
    cases hb : Nat.beq t kind with
    | false => rw [hb] at h; exact False.elim h
    | true =>
      rw [hb] at h
      have e : t = kind := Nat.eq_of_beq_eq_true hb
      exact ⟨n, by rw [hx, e], h⟩
  · exact False.elim h
theorem xe_if {q : Bool} {o : xm_O} (h : xm_F ic P X (xm_if q o)) : q = true ∧ xm_F ic P X o := by
  cases q with
  | false => exact False.elim h
  | true => exact ⟨rfl, h⟩
theorem xe_rv {x : Nat} {k : Nat → xm_O} (h : xm_F ic P X (xm_rv x k)) : ∃ q, x = q + 1 ∧ xm_F ic P X (k q) := by
  cases x with
  | zero => exact False.elim h
  | succ q => exact ⟨q, rfl, h⟩
theorem xe_pop : ∀ {n : Nat} {acc S : List Value} {k : List Value → List Value → xm_O}, xm_F ic P X (xm_pop n acc S k) → ∃ As S', As.length = n + acc.length ∧ As.reverse ++ S' = acc.reverse ++ S ∧ xm_F ic P X (k As S')
  | 0, acc, S, k, h => ⟨acc, S, by omega, rfl, h⟩
  | n + 1, acc, [], k, h => False.elim h
  | n + 1, acc, v :: S, k, h => by
    obtain ⟨As, S', h1, h2, h3⟩ := xe_pop (n := n) (acc := v :: acc) (S := S) (k := k) h
    exact ⟨As, S', by rw [h1]; simp; omega, by rw [h2]; simp, h3⟩
end XE
theorem xm_and {a b : Bool} (h : (a && b) = true) : a = true ∧ b = true := by
  rw [Bool.and_eq_true] at h
  exact h
theorem xm_or {a b : Bool} (h : (a || b) = true) : a = true ∨ b = true := by
  rw [Bool.or_eq_true] at h
  exact h
theorem xm_dc {q : Prop} {i : Decidable q} (h : @decide q i = true) : q := of_decide_eq_true h
/-- the kind of a field and its type -/
def xm_kt (t : Nat) (ty : FieldType) : Prop := match t with
  | 0 => ty = .int
  | 1 => ty = .long
  | 2 => (∃ n, ty = .object n) ∨ ∃ z, ty = .array z
  | _ => ty = .boolean
/-- what the tables' words lg and the nest's words Ns say of the links K -/
def xm_LK (yy : Nat → MethodName) (nm : Nat → String) (V : xm_V) (K : xm_K) (J : xm_J) (cl : List vw_C) (tyf : Nat → Nat → FieldType) (lg Ns : List Cond) (CF : String) : Prop :=
  (∀ w ∈ lg, goodWord w = true) ∧ (∀ w ∈ Ns, xm_isN w = true) ∧ Cond.arrayClass .int ∈ lg ∧ Cond.arrayClass .long ∈ lg ∧
  (∀ ci C T N, cl[ci]? = some (C, T, N) → nm ci = C ∧ (∀ w ∈ u_ws C T N, w ∈ lg) ∧ (∀ k, k < N → parseFieldDescriptor (T k).2.2.1 = some (tyf ci k)) ∧ (∀ a, a < N → ∀ b, b < N → a ≠ b → (T a).2.1 ≠ (T b).2.1) ∧ (∀ j, j < N → ∃ t, (J.1 ci)[j]? = some t ∧ xm_kt t (tyf ci j) ∧ J.2.1 ci j = (T j).2.2.2 ∧ ((T j).2.2.2 = true → (T j).1 = C)) ∧ (J.1 ci).length = N ∧ J.2.2.2 ci = N) ∧
  (∃ T N, cl[J.2.2.1]? = some (CF, T, N)) ∧
  (∀ o ix ci j, (o, ix, ci, j) ∈ K.1 → ∃ C T N, cl[ci]? = some (C, T, N) ∧ Cond.fieldLink (nm o) ix (T j).1 (T j).2.1 (T j).2.2.1 ∈ lg) ∧
  (∀ o ix ci j, (o, ix, ci, j) ∈ K.2.1 → ∃ C T N host, cl[ci]? = some (C, T, N) ∧ Cond.fieldLinkNest (nm o) ix (T j).1 (T j).2.1 (T j).2.2.1 host ∈ Ns) ∧
  (∀ o ix a, (o, ix, a) ∈ K.2.2.1 → Cond.methodLink (nm o) ix (yy a) ∈ lg) ∧
  (∀ o ix a, (o, ix, a) ∈ K.2.2.2.1 → ∃ host, Cond.methodLinkNest (nm o) ix (yy a) host ∈ Ns) ∧
  (∀ o ix ci, (o, ix, ci) ∈ K.2.2.2.2.1 → ∃ C T N, cl[ci]? = some (C, T, N) ∧ Cond.classLink (nm o) ix C ∈ lg ∧ Cond.instantiable C N ∈ lg ∧ Cond.initialized C ∈ lg) ∧
  ((∀ o ix, (o, ix) ∈ K.2.2.2.2.2.1 → Cond.methodLink (nm o) ix Lib.objectInit ∈ lg) ∧ Cond.instanceMethod Lib.objectInit ∈ lg ∧ Cond.code Lib.objectInit ⟨#[0xb1]⟩ 1 none ∈ lg) ∧
  (∀ o ix v, (o, ix, v) ∈ K.2.2.2.2.2.2.1 → Jvm.Cond.constant (nm o) ix v ∈ lg) ∧
  (∀ o ix v, (o, ix, v) ∈ K.2.2.2.2.2.2.2 → Jvm.Cond.constantLong (nm o) ix v ∈ lg)
/-- a method and its words -/
def xm_MW (yy : Nat → MethodName) (nm : Nat → String) (V : xm_V) (cl : List vw_C) (lg : List Cond) (a : Nat) : Prop :=
  nm (V.2.2.2.2.1 a) = (yy a).cls ∧ plainName (yy a).cls = true ∧ Cond.code (yy a) (V.1 a) (V.2.2.1 a) (V.2.1 a) ∈ lg ∧ Cond.initialized (yy a).cls ∈ lg ∧ ((yy a).cls ≠ "java/lang/invoke/MethodHandle" ∧ (yy a).cls ≠ "java/lang/invoke/VarHandle" ∧ (parseMethodDescriptor (yy a).desc).map (fun d => d.parameters.length) = some (V.2.2.2.2.2.1 a)) ∧
  (V.2.2.2.2.2.2 a = 0 → Cond.instanceMethod (yy a) ∈ lg ∧ Cond.selects (yy a).cls (yy a) (yy a) ∈ lg ∧ ∃ C T N, cl[V.2.2.2.2.1 a]? = some (C, T, N)) ∧ (V.2.2.2.2.2.2 a = 1 → Cond.static (yy a) ∈ lg) ∧ (V.2.2.2.2.2.2 a = 2 → (yy a).name = "<init>" ∧ Cond.instanceMethod (yy a) ∈ lg ∧ V.2.1 a = none)
def xm_ws (yy : Nat → MethodName) (V : xm_V) (lg : List Cond) (a : Nat) : List Cond := Cond.code (yy a) (V.1 a) (V.2.2.1 a) (V.2.1 a) :: lg
def xm_rm (Z : xm_Z) (V : xm_V) (a : Nat) : Room := { frames := (V.2.2.2.1 a).1, cells := (Z.2.2 a).1, slots := (Z.2.2 a).2, locals := (V.2.2.2.1 a).2 }
abbrev xm_tys (G : xm_G) (CF : String) : List (ClassId × FieldType) := [(G.1, .int), (G.2.1, .long), (G.2.2.1, .object CF)]
/-- the contract that the machine keeps -/
def xm_Met (l : Launch) (Z : xm_Z) (yy : Nat → MethodName) (V : xm_V) (lg Ns : List Cond) (CF : String) (b : Nat) (G : xm_G) (D : va_G) (cl : List vw_C) (a : Nat) (av : List Value) (M : xm_M) (P : xm_R → Prop) : Prop :=
  Met l (yy a) (xm_ws yy V lg a) (xm_rm Z V a) (xm_Pc b G D cl (xm_tys G CF) Ns CF av M) (xm_Qc b G D cl P) (Z.2.2 a).1 (Z.2.2 a).2 (fun q => b ≤ q)
theorem xm_good {yy : Nat → MethodName} {V : xm_V} {lg : List Cond} (hg : ∀ w ∈ lg, goodWord w = true) {mm a : Nat} (hc : Cond.code (yy a) (V.1 a) (V.2.2.1 a) (V.2.1 a) ∈ lg) : GoodIn (xm_ws yy V lg mm) (xm_ws yy V lg a) := by
  intro w hw
  have hl : w ∈ lg := by
    rcases List.mem_cons.mp hw with h | h
    · rw [h]; exact hc
    · exact h
  exact ⟨List.mem_cons_of_mem _ hl, good_of_word (hg w hl)⟩
end
section
/-- what is known in a frame of method mm -/
def xm_Fr (p : Program) (s : State) (m : MethodId) (args : Array Value) (meth : Method) (c : Code) (yy : Nat → MethodName) (nm : Nat → String) (V : xm_V) (lg Ns : List Cond) (CF : String) (b : Nat) (G : xm_G) (D : va_G) (cl : List vw_C) (mm : Nat) : Prop :=
  CallFix p m c (V.1 mm) (V.2.2.1 mm) s args (xm_ws yy V lg mm) (nm (V.2.2.2.2.1 mm)) ∧ va_K D cl (xm_tys G CF) s ∧ xm_N Ns CF s ∧ b ≤ s.heap.size ∧ meth.locks = false ∧ meth.sig.returnType = V.2.1 mm ∧ (V.2.2.2.2.2.2 mm = 2 → meth.name = "<init>")
section XF
variable {p : Program} {l : Launch} {e : Env} {R : Room} {s : State} {m : MethodId} {args : Array Value} {below : List Frame} {meth : Method} {c : Code} {Q : State → Prop}
variable {b : Nat} {G : xm_G} {D : va_G} {cl : List vw_C} {pc : Nat} {L : xm_L} {S : List Value} {M : xm_M} {bc bs : Nat} {CF : String} {Ns : List Cond}
variable {Z : xm_Z} {yy : Nat → MethodName} {nm : Nat → String} {V : xm_V} {K : xm_K} {J : xm_J} {tyf : Nat → Nat → FieldType} {lg : List Cond} {mm : Nat}
theorem xc_get (hF : xm_Fr p s m args meth c yy nm V lg Ns CF b G D cl mm) (hL : xm_LK yy nm V K J cl tyf lg Ns CF) (hG : G.2.2.2 = J.1) {ix a j t k : Nat} {v : Value} (hkd : (J.1 a)[j]? = some t) (hor : (V.2.2.2.2.1 mm, ix, a, j) ∈ K.1 ∨ (V.2.2.2.2.1 mm, ix, a, j) ∈ K.2.1) (hsh : xm_nth M.1 k = some (3, a)) (hv : xm_fv b M k j t = xm_v b v) (hd : decode (V.1 mm) pc = .ok (.getfield ix, 3)) (kk : xm_X p l e R s m args below meth c Q b G D cl (V.2.2.1 mm) (pc + 3, L, v :: S, M, bc, bs)) : xm_X p l e R s m args below meth c Q b G D cl (V.2.2.1 mm) (pc, L, .ref k :: S, M, bc, bs) := by
  obtain ⟨⟨hx, hb, hml, hown, hts⟩, hK, hN, -⟩ := hF
  obtain ⟨-, -, -, -, hcls, -, hFL, hFN, -⟩ := hL
  have hkd2 : (G.2.2.2 a)[j]? = some t := by rw [hG]; exact hkd
  rcases hor with h | h
  · obtain ⟨C, T, N, hc0, hw⟩ := hFL _ _ _ _ h
    obtain ⟨-, h2, -, -, -, h6, -⟩ := hcls _ _ _ _ hc0
    have hj : j < N := by rw [← h6]; exact (List.getElem?_eq_some_iff.mp hkd).1
    exact xs_getf hx hb hts (fun w hw => List.mem_cons_of_mem _ (h2 w hw)) hown hK hc0 hj (hts _ (List.mem_cons_of_mem _ hw)) hkd2 hsh hv hd kk
  · obtain ⟨C, T, N, host, hc0, hw⟩ := hFN _ _ _ _ h
    obtain ⟨-, h2, -, -, -, h6, -⟩ := hcls _ _ _ _ hc0
    have hj : j < N := by rw [← h6]; exact (List.getElem?_eq_some_iff.mp hkd).1
    exact xs_getfN hx hb hts (fun w hw => List.mem_cons_of_mem _ (h2 w hw)) hown hK hc0 hj (va_Nw.use rfl (hN.1 _ hw)) hkd2 hsh hv hd kk
theorem xc_put (hF : xm_Fr p s m args meth c yy nm V lg Ns CF b G D cl mm) (hL : xm_LK yy nm V K J cl tyf lg Ns CF) (hG : G.2.2.2 = J.1) {ix a j t k : Nat} {v : Value} {M' : xm_M} (hkd : (J.1 a)[j]? = some t) (hor : ((V.2.2.2.2.1 mm, ix, a, j) ∈ K.1 ∧ (J.2.1 a j = false ∨ (V.2.2.2.2.2.2 mm = 2 ∧ V.2.2.2.2.1 mm = a))) ∨ ((V.2.2.2.2.1 mm, ix, a, j) ∈ K.2.1 ∧ J.2.1 a j = false)) (hsh : xm_nth M.1 k = some (3, a)) (hnf : ∀ ty, xm_kt t ty → narrow ty (xm_v b v) = xm_v b v ∧ fits ty (xm_v b v) = true) (h1 : M'.1 = M.1) (hv : xm_fv b M' k j t = xm_v b v) (ho : ∀ i t', i ≠ j → xm_fv b M' k i t' = xm_fv b M k i t') (ho2 : ∀ i sh, i ≠ k → xm_e b G M' i sh = xm_e b G M i sh) (hd : decode (V.1 mm) pc = .ok (.putfield ix, 3)) (kk : xm_X p l e R s m args below meth c Q b G D cl (V.2.2.1 mm) (pc + 3, L, S, M', bc, bs)) : xm_X p l e R s m args below meth c Q b G D cl (V.2.2.1 mm) (pc, L, v :: .ref k :: S, M, bc, bs) := by
  obtain ⟨⟨hx, hb, hml, hown, hts⟩, hK, hN, -, -, -, hin2⟩ := hF
  obtain ⟨-, -, -, -, hcls, -, hFL, hFN, -⟩ := hL
  have hkd2 : (G.2.2.2 a)[j]? = some t := by rw [hG]; exact hkd
  rcases hor with ⟨h, hfi⟩ | ⟨h, hfi⟩
  · obtain ⟨C, T, N, hc0, hw⟩ := hFL _ _ _ _ h
    obtain ⟨hnm, h2, h3, h4, h5, h6, -⟩ := hcls _ _ _ _ hc0
    have hj : j < N := by rw [← h6]; exact (List.getElem?_eq_some_iff.mp hkd).1
    obtain ⟨t', g1, g2, g3, g4⟩ := h5 j hj
    have ht : t' = t := Option.some.inj (g1.symm.trans hkd)
    subst ht
    obtain ⟨n1, n2⟩ := hnf _ g2
    by_cases hfin : (T j).2.2.2 = true
    · rw [g3, hfin] at hfi
      rcases hfi with hfi | ⟨f1, f2⟩
      · cases hfi
      · exact xs_putfF hx hb hts (fun w hw => List.mem_cons_of_mem _ (h2 w hw)) (tyf a) h3 h4 hown hK hc0 hj (hts _ (List.mem_cons_of_mem _ hw)) hfin (hin2 f1) (by rw [g4 hfin, f2, hnm]) n1 n2 hkd2 hsh h1 hv ho ho2 hd kk
    · have hfin : (T j).2.2.2 = false := by simpa using hfin
      exact xs_putf hx hb hts (fun w hw => List.mem_cons_of_mem _ (h2 w hw)) (tyf a) h3 h4 hown hK hc0 hj (hts _ (List.mem_cons_of_mem _ hw)) hfin n1 n2 hkd2 hsh h1 hv ho ho2 hd kk
  · obtain ⟨C, T, N, host, hc0, hw⟩ := hFN _ _ _ _ h
    obtain ⟨hnm, h2, h3, h4, h5, h6, -⟩ := hcls _ _ _ _ hc0
    have hj : j < N := by rw [← h6]; exact (List.getElem?_eq_some_iff.mp hkd).1
    obtain ⟨t', g1, g2, g3, g4⟩ := h5 j hj
    have ht : t' = t := Option.some.inj (g1.symm.trans hkd)
    subst ht
    obtain ⟨n1, n2⟩ := hnf _ g2
    exact xs_putfN (host := host) hx hb hts (fun w hw => List.mem_cons_of_mem _ (h2 w hw)) (tyf a) h3 h4 hown hK hc0 hj (va_Nw.use rfl (hN.1 _ hw)) (by rw [← g3]; exact hfi) n1 n2 hkd2 hsh h1 hv ho ho2 hd kk
theorem xc_pI (hF : xm_Fr p s m args meth c yy nm V lg Ns CF b G D cl mm) (hL : xm_LK yy nm V K J cl tyf lg Ns CF) (hG : G.2.2.2 = J.1) {ix a j t k : Nat} {x : Int32} (ht : t = 0 ∨ (t = 3 ∧ (x = 0 ∨ x = 1))) (hkd : (J.1 a)[j]? = some t) (hor : ((V.2.2.2.2.1 mm, ix, a, j) ∈ K.1 ∧ (J.2.1 a j = false ∨ (V.2.2.2.2.2.2 mm = 2 ∧ V.2.2.2.2.1 mm = a))) ∨ ((V.2.2.2.2.1 mm, ix, a, j) ∈ K.2.1 ∧ J.2.1 a j = false)) (hsh : xm_nth M.1 k = some (3, a)) (hd : decode (V.1 mm) pc = .ok (.putfield ix, 3)) (kk : xm_X p l e R s m args below meth c Q b G D cl (V.2.2.1 mm) (pc + 3, L, S, (M.1, xm_up M.2.1 k j x, M.2.2), bc, bs)) : xm_X p l e R s m args below meth c Q b G D cl (V.2.2.1 mm) (pc, L, .int x :: .ref k :: S, M, bc, bs) := by
  refine xc_put (v := .int x) (M' := (M.1, xm_up M.2.1 k j x, M.2.2)) hF hL hG hkd hor hsh ?_ rfl ?_ ?_ (fun _ _ h => xm_eI h) hd kk
  · intro ty hty
    rcases ht with rfl | ⟨rfl, rfl | rfl⟩
    · have : ty = .int := hty
      subst this
      exact ⟨rfl, rfl⟩
    · have : ty = .boolean := hty
      subst this
      exact ⟨rfl, rfl⟩
    · have : ty = .boolean := hty
      subst this
      exact ⟨rfl, rfl⟩
  · have : xm_up M.2.1 k j x k j = x := by rw [xm_up_self, if_pos rfl]
    rcases ht with rfl | ⟨rfl, -⟩
    · show Value.int (xm_up M.2.1 k j x k j) = _
      rw [this]
      rfl
    · show Value.int (xm_up M.2.1 k j x k j) = _
      rw [this]
      rfl
  · intro i t' hi
    unfold xm_fv
    simp only [xm_up_self, if_neg hi]
theorem xc_pL (hF : xm_Fr p s m args meth c yy nm V lg Ns CF b G D cl mm) (hL : xm_LK yy nm V K J cl tyf lg Ns CF) (hG : G.2.2.2 = J.1) {ix a j k : Nat} {x : Int64} (hkd : (J.1 a)[j]? = some 1) (hor : ((V.2.2.2.2.1 mm, ix, a, j) ∈ K.1 ∧ (J.2.1 a j = false ∨ (V.2.2.2.2.2.2 mm = 2 ∧ V.2.2.2.2.1 mm = a))) ∨ ((V.2.2.2.2.1 mm, ix, a, j) ∈ K.2.1 ∧ J.2.1 a j = false)) (hsh : xm_nth M.1 k = some (3, a)) (hd : decode (V.1 mm) pc = .ok (.putfield ix, 3)) (kk : xm_X p l e R s m args below meth c Q b G D cl (V.2.2.1 mm) (pc + 3, L, S, (M.1, M.2.1, xm_up M.2.2.1 k j x, M.2.2.2), bc, bs)) : xm_X p l e R s m args below meth c Q b G D cl (V.2.2.1 mm) (pc, L, .long x :: .ref k :: S, M, bc, bs) := by
  refine xc_put (v := .long x) (M' := (M.1, M.2.1, xm_up M.2.2.1 k j x, M.2.2.2)) hF hL hG hkd hor hsh ?_ rfl ?_ ?_ (fun _ _ h => xm_eL h) hd kk
  · intro ty hty
    have : ty = .long := hty
    subst this
    exact ⟨rfl, rfl⟩
  · show Value.long (xm_up M.2.2.1 k j x k j) = _
    rw [xm_up_self, if_pos rfl]
    rfl
  · intro i t' hi
    unfold xm_fv
    simp only [xm_up_self, if_neg hi]
theorem xc_pR (hF : xm_Fr p s m args meth c yy nm V lg Ns CF b G D cl mm) (hL : xm_LK yy nm V K J cl tyf lg Ns CF) (hG : G.2.2.2 = J.1) {ix a j k x : Nat} (hkd : (J.1 a)[j]? = some 2) (hor : ((V.2.2.2.2.1 mm, ix, a, j) ∈ K.1 ∧ (J.2.1 a j = false ∨ (V.2.2.2.2.2.2 mm = 2 ∧ V.2.2.2.2.1 mm = a))) ∨ ((V.2.2.2.2.1 mm, ix, a, j) ∈ K.2.1 ∧ J.2.1 a j = false)) (hsh : xm_nth M.1 k = some (3, a)) (hd : decode (V.1 mm) pc = .ok (.putfield ix, 3)) (kk : xm_X p l e R s m args below meth c Q b G D cl (V.2.2.1 mm) (pc + 3, L, S, (M.1, M.2.1, M.2.2.1, xm_up M.2.2.2 k j (x + 1)), bc, bs)) : xm_X p l e R s m args below meth c Q b G D cl (V.2.2.1 mm) (pc, L, .ref x :: .ref k :: S, M, bc, bs) := by
  refine xc_put (v := .ref x) (M' := (M.1, M.2.1, M.2.2.1, xm_up M.2.2.2 k j (x + 1))) hF hL hG hkd hor hsh ?_ rfl ?_ ?_ (fun _ _ h => xm_eR h) hd kk
  · intro ty hty
    rcases hty with ⟨n, rfl⟩ | ⟨z, rfl⟩ <;> exact ⟨rfl, rfl⟩
  · show va_rf (xm_q b (xm_up M.2.2.2 k j (x + 1) k j)) = _
    rw [xm_up_self, if_pos rfl]
    rfl
  · intro i t' hi
    unfold xm_fv
    simp only [xm_up_self, if_neg hi]
theorem xc_room {a : Nat} (h1 : (V.2.2.2.1 a).1 + 1 ≤ (V.2.2.2.1 mm).1) (h2 : V.2.2.1 a + 19 + (V.2.2.2.1 a).2 ≤ (V.2.2.2.1 mm).2) : (xm_rm Z V a).frames + 1 ≤ (xm_rm Z V mm).frames ∧ 8 + (V.2.2.1 a + 11) + (xm_rm Z V a).locals ≤ (xm_rm Z V mm).locals := by
  refine ⟨h1, ?_⟩
  show 8 + (V.2.2.1 a + 11) + (V.2.2.2.1 a).2 ≤ (V.2.2.2.1 mm).2
  omega
theorem xc_callV (hF : xm_Fr p s m args meth c yy nm V lg Ns CF b G D cl mm) (hL : xm_LK yy nm V K J cl tyf lg Ns CF) (hG : G.2.2.2 = J.1) (hMW : ∀ o ix a, ((o, ix, a) ∈ K.2.2.1 ∨ (o, ix, a) ∈ K.2.2.2.1) → xm_MW yy nm V cl lg a) {ix a k : Nat} {As : List Value} {P0 : xm_R → Prop} (hor : (V.2.2.2.2.1 mm, ix, a) ∈ K.2.2.1 ∨ (V.2.2.2.2.1 mm, ix, a) ∈ K.2.2.2.1) (hsk : V.2.2.2.2.2.2 a = 0) (hn : As.length = V.2.2.2.2.2.1 a) (hdp : (V.2.2.2.1 a).1 + 1 ≤ (V.2.2.2.1 mm).1) (h61 : V.2.2.1 a + 19 + (V.2.2.2.1 a).2 ≤ (V.2.2.2.1 mm).2) (hsh : xm_nth M.1 k = some (3, V.2.2.2.2.1 a)) (hM : xm_Met l Z yy V lg Ns CF b G D cl a (.ref k :: As) M P0) (hcat : xm_cat S ≤ 8) (h1c : (Z.2.2 a).1 ≤ bc) (h1s : (Z.2.2 a).2 ≤ bs) (hd : decode (V.1 mm) pc = .ok (.invokevirtual ix, 3)) (kk : ∀ r, P0 r → xm_X p l e (xm_rm Z V mm) s m args below meth c Q b G D cl (V.2.2.1 mm) (xm_bk (pc + 3) L S (bc - (Z.2.2 a).1) (bs - (Z.2.2 a).2) r)) : xm_X p l e (xm_rm Z V mm) s m args below meth c Q b G D cl (V.2.2.1 mm) (pc, L, As.reverse ++ .ref k :: S, M, bc, bs) := by
  obtain ⟨S0, hK, hN, hbs, -⟩ := hF
  obtain ⟨w1, w2, w3, w4, w5, w6, w7, w8⟩ := hMW _ _ _ hor
  have hL0 := hL
  obtain ⟨hgw, hNs, -, -, -, -, -, -, hML, hMN, -⟩ := hL
  have hts := S0.2.2.2.2
  have hgd : GoodIn (xm_ws yy V lg mm) (xm_ws yy V lg a) := xm_good hgw w3
  have hmem : ∀ w, w ∈ lg → w.before args s = true := fun w h => hts w (List.mem_cons_of_mem _ h)
  obtain ⟨v1, v2, C, T, N, v3⟩ := w6 hsk
  obtain ⟨hgw2, -, -, -, hcls, -⟩ := hL0
  have hC : (yy a).cls = C := by rw [← w1]; exact (hcls _ _ _ _ v3).1
  subst hC
  rcases hor with h | h
  · exact xs_callV (C := (yy a).cls) S0 hNs hN hK hbs hM ⟨callB_of _ hts hgd rfl rfl rfl (hmem _ w4) (hmem _ (hML _ _ _ h)) w5 (xc_room hdp h61), hmem _ v1, hmem _ v2⟩ v3 hsh hn hcat h1c h1s hd kk
  · obtain ⟨host, h⟩ := hMN _ _ _ h
    exact xs_callVN (C := (yy a).cls) (host := host) S0 hNs hN hK hbs hM ⟨va_cnB _ hts hgd rfl rfl rfl (hN.1 _ h) (hmem _ w4) w5 (xc_room hdp h61), hmem _ v1, hmem _ v2⟩ v3 hsh hn hcat h1c h1s hd kk
theorem xc_callS (hF : xm_Fr p s m args meth c yy nm V lg Ns CF b G D cl mm) (hL : xm_LK yy nm V K J cl tyf lg Ns CF) (hG : G.2.2.2 = J.1) (hMW : ∀ o ix a, ((o, ix, a) ∈ K.2.2.1 ∨ (o, ix, a) ∈ K.2.2.2.1) → xm_MW yy nm V cl lg a) {ix a : Nat} {As : List Value} {P0 : xm_R → Prop} (hor : (V.2.2.2.2.1 mm, ix, a) ∈ K.2.2.1 ∨ (V.2.2.2.2.1 mm, ix, a) ∈ K.2.2.2.1) (hsk : V.2.2.2.2.2.2 a = 1) (hn : As.length = V.2.2.2.2.2.1 a) (hdp : (V.2.2.2.1 a).1 + 1 ≤ (V.2.2.2.1 mm).1) (h61 : V.2.2.1 a + 19 + (V.2.2.2.1 a).2 ≤ (V.2.2.2.1 mm).2)  (hM : xm_Met l Z yy V lg Ns CF b G D cl a (As) M P0) (hcat : xm_cat S ≤ 8) (h1c : (Z.2.2 a).1 ≤ bc) (h1s : (Z.2.2 a).2 ≤ bs) (hd : decode (V.1 mm) pc = .ok (.invokestatic ix, 3)) (kk : ∀ r, P0 r → xm_X p l e (xm_rm Z V mm) s m args below meth c Q b G D cl (V.2.2.1 mm) (xm_bk (pc + 3) L S (bc - (Z.2.2 a).1) (bs - (Z.2.2 a).2) r)) : xm_X p l e (xm_rm Z V mm) s m args below meth c Q b G D cl (V.2.2.1 mm) (pc, L, As.reverse ++ S, M, bc, bs) := by
  obtain ⟨S0, hK, hN, hbs, -⟩ := hF
  obtain ⟨w1, w2, w3, w4, w5, w6, w7, w8⟩ := hMW _ _ _ hor
  obtain ⟨hgw, hNs, -, -, -, -, -, -, hML, hMN, -⟩ := hL
  have hts := S0.2.2.2.2
  have hgd : GoodIn (xm_ws yy V lg mm) (xm_ws yy V lg a) := xm_good hgw w3
  have hmem : ∀ w, w ∈ lg → w.before args s = true := fun w h => hts w (List.mem_cons_of_mem _ h)
  rcases hor with h | h
  · exact xs_callS S0 hNs hN hK hbs hM ⟨callB_of _ hts hgd rfl rfl rfl (hmem _ w4) (hmem _ (hML _ _ _ h)) w5 (xc_room hdp h61), hmem _ (w7 hsk)⟩ hn hcat h1c h1s hd kk
  · obtain ⟨host, h⟩ := hMN _ _ _ h
    exact xs_callSN (host := host) S0 hNs hN hK hbs hM ⟨va_cnB _ hts hgd rfl rfl rfl (hN.1 _ h) (hmem _ w4) w5 (xc_room hdp h61), hmem _ (w7 hsk), trivial⟩ hn hcat h1c h1s hd kk
theorem xc_callI (hF : xm_Fr p s m args meth c yy nm V lg Ns CF b G D cl mm) (hL : xm_LK yy nm V K J cl tyf lg Ns CF) (hG : G.2.2.2 = J.1) (hMW : ∀ o ix a, ((o, ix, a) ∈ K.2.2.1 ∨ (o, ix, a) ∈ K.2.2.2.1) → xm_MW yy nm V cl lg a) {ix a k : Nat} {As : List Value} {P0 : xm_R → Prop} (hor : (V.2.2.2.2.1 mm, ix, a) ∈ K.2.2.1 ∨ (V.2.2.2.2.1 mm, ix, a) ∈ K.2.2.2.1) (hsk : V.2.2.2.2.2.2 a = 2) (hn : As.length = V.2.2.2.2.2.1 a) (hdp : (V.2.2.2.1 a).1 + 1 ≤ (V.2.2.2.1 mm).1) (h61 : V.2.2.1 a + 19 + (V.2.2.2.1 a).2 ≤ (V.2.2.2.1 mm).2)  (hM : xm_Met l Z yy V lg Ns CF b G D cl a (.ref k :: As) M P0) (hcat : xm_cat S ≤ 8) (h1c : (Z.2.2 a).1 ≤ bc) (h1s : (Z.2.2 a).2 ≤ bs) (hd : decode (V.1 mm) pc = .ok (.invokespecial ix, 3)) (kk : ∀ r, P0 r → xm_X p l e (xm_rm Z V mm) s m args below meth c Q b G D cl (V.2.2.1 mm) (xm_bk (pc + 3) L S (bc - (Z.2.2 a).1) (bs - (Z.2.2 a).2) r)) : xm_X p l e (xm_rm Z V mm) s m args below meth c Q b G D cl (V.2.2.1 mm) (pc, L, As.reverse ++ .ref k :: S, M, bc, bs) := by
  obtain ⟨S0, hK, hN, hbs, -⟩ := hF
  obtain ⟨w1, w2, w3, w4, w5, w6, w7, w8⟩ := hMW _ _ _ hor
  obtain ⟨hgw, hNs, -, -, -, -, -, -, hML, hMN, -⟩ := hL
  have hts := S0.2.2.2.2
  have hgd : GoodIn (xm_ws yy V lg mm) (xm_ws yy V lg a) := xm_good hgw w3
  have hmem : ∀ w, w ∈ lg → w.before args s = true := fun w h => hts w (List.mem_cons_of_mem _ h)
  obtain ⟨v1, v2, v3⟩ := w8 hsk
  have hws : xm_ws yy V lg a = Cond.code (yy a) (V.1 a) (V.2.2.1 a) none :: lg := by rw [← v3]; rfl
  rcases hor with h | h
  · exact xs_callI S0 hNs hN hK hbs hM ⟨callB_of _ hts hgd hws rfl rfl (hmem _ w4) (hmem _ (hML _ _ _ h)) w5 (xc_room hdp h61), v1, hmem _ v2⟩ hn hcat h1c h1s hd kk
  · obtain ⟨host, h⟩ := hMN _ _ _ h
    exact xs_callIN (host := host) S0 hNs hN hK hbs hM ⟨va_cnB _ hts hgd hws rfl rfl (hN.1 _ h) (hmem _ w4) w5 (xc_room hdp h61), v1, hmem _ v2⟩ hn hcat h1c h1s hd kk
end XF
set_option maxHeartbeats 4000000 in
theorem xm_close {p : Program} {l : Launch} {e : Env} {s : State} {m : MethodId} {args : Array Value} {below : List Frame} {meth : Method} {c : Code} {b : Nat} {G : xm_G} {D : va_G} {cl : List vw_C} {CF : String} {Ns : List Cond} {Z : xm_Z} {yy : Nat → MethodName} {nm : Nat → String} {V : xm_V} {K : xm_K} {J : xm_J} {tyf : Nat → Nat → FieldType} {lg : List Cond} {mm : Nat} {P : xm_R → Prop} (hF : xm_Fr p s m args meth c yy nm V lg Ns CF b G D cl mm) (hL : xm_LK yy nm V K J cl tyf lg Ns CF) (hG : G.2.2.2 = J.1) (hMW : ∀ o ix a, ((o, ix, a) ∈ K.2.2.1 ∨ (o, ix, a) ∈ K.2.2.2.1) → xm_MW yy nm V cl lg a) (hk4 : ∀ (ci j n : Nat), (J.1 ci)[j]? = some (n + 4) → False)
    {pc : Nat} {L : xm_L} {S : List Value} {M : xm_M} {bc bs : Nat} {ins : Jvm.ClassFile.Instr} {nx tg : Nat} {D1 D2 : List Nat} {a b' c' d : Nat} {kI : Int32} {kL : Int64} {sw : List (Int32 × Nat × List Nat)}
    (hk0 : xm_chk V K J mm pc (ins, nx, tg, D1, D2, (a, b', c', d), kI, kL, sw) = true)
    (h : xm_F (xm_Met l Z yy V lg Ns CF b G D cl) P (xm_X p l e (xm_rm Z V mm) s m args below meth c (MQ below (xm_Qc b G D cl P) args s (Z.2.2 mm).1 (Z.2.2 mm).2 (fun q => b ≤ q)) b G D cl (V.2.2.1 mm)) (xm_ins Z (ins, nx, tg, D1, D2, (a, b', c', d), kI, kL, sw) L S M bc bs)) : xm_X p l e (xm_rm Z V mm) s m args below meth c (MQ below (xm_Qc b G D cl P) args s (Z.2.2 mm).1 (Z.2.2 mm).2 (fun q => b ≤ q)) b G D cl (V.2.2.1 mm) (pc, L, S, M, bc, bs) := by
  obtain ⟨hd0, hk1⟩ := xm_and hk0
  obtain ⟨hn0, hk⟩ := xm_and hk1
  have hd := xm_dc hd0
  have hn := xm_dc hn0
  clear hk0 hk1 hd0 hn0
  have hk4 := hk4 a b'
  obtain ⟨⟨hx, hb, hml, hown, hts⟩, hK, hN, hbs, hlk, hrt, hin2⟩ := id hF
  obtain ⟨hgw, hNs, hAI, hAL, hcls, hcf, hFL, hFN, hML, hMN, hCL, hOL, hKI, hKL⟩ := id hL
  have hmem : ∀ w, w ∈ lg → w.before args s = true := fun w h => hts w (List.mem_cons_of_mem _ h)
  cases ins with
  | iconst n =>
    have hn : nx = pc + 1 := hn
    subst hn
    exact xs_iconst hx hb hd (xm_dc hk) (xs_drop D1 h)
  | bipush n =>
    have hn : nx = pc + 2 := hn
    subst hn
    exact xs_bipush hx hb hd (xm_dc hk) (xs_drop D1 h)
  | sipush n =>
    have hn : nx = pc + 3 := hn
    subst hn
    exact xs_sipush hx hb hd (xm_dc hk) (xs_drop D1 h)
  | lconst n =>
    have hn : nx = pc + 1 := hn
    subst hn
    exact xs_lconst hx hb hd (xm_dc hk) (xs_drop D1 h)
  | ldc ix =>
    have hn : nx = pc + 2 := hn
    subst hn
    exact xs_ldc hx hb hd hown (hmem _ (hKI _ _ _ (xm_dc hk))) (xs_drop D1 h)
  | ldc_w ix =>
    have hn : nx = pc + 3 := hn
    subst hn
    exact xs_ldcw hx hb hd hown (hmem _ (hKI _ _ _ (xm_dc hk))) (xs_drop D1 h)
  | ldc2_w ix =>
    have hn : nx = pc + 3 := hn
    subst hn
    exact xs_ldc2 hx hb hd hown (hmem _ (hKL _ _ _ (xm_dc hk))) (xs_drop D1 h)
  | iload_n i =>
    have hn : nx = pc + 1 := hn
    subst hn
    obtain ⟨x, hg, h9⟩ := xe_gI h
    clear h
    have h := h9
    clear h9
    exact xs_iload_n hx hb hd (xm_dc hk) hg (xs_drop D1 h)
  | iload i =>
    have hn : nx = pc + 2 := hn
    subst hn
    obtain ⟨x, hg, h9⟩ := xe_gI h
    clear h
    have h := h9
    clear h9
    have hi : i = a := xm_dc hk
    subst hi
    exact xs_iload hx hb hd hg (xs_drop D1 h)
  | istore_n i =>
    have hn : nx = pc + 1 := hn
    subst hn
    obtain ⟨x, S, rfl, h9⟩ := xe_pI h
    clear h
    have h := h9
    clear h9
    obtain ⟨k1, k2⟩ := xm_and hk
    exact xs_istore_n hx hb hd (xm_dc k1) (xm_dc k2) (xs_drop D1 h)
  | istore i =>
    have hn : nx = pc + 2 := hn
    subst hn
    obtain ⟨x, S, rfl, h9⟩ := xe_pI h
    clear h
    have h := h9
    clear h9
    obtain ⟨k1, k2⟩ := xm_and hk
    have hi : i = a := xm_dc k1
    subst hi
    exact xs_istore hx hb hd (xm_dc k2) (xs_drop D1 h)
  | lload_n i =>
    have hn : nx = pc + 1 := hn
    subst hn
    obtain ⟨x, hg, h9⟩ := xe_gL h
    clear h
    have h := h9
    clear h9
    exact xs_lload_n hx hb hd (xm_dc hk) hg (xs_drop D1 h)
  | lload i =>
    have hn : nx = pc + 2 := hn
    subst hn
    obtain ⟨x, hg, h9⟩ := xe_gL h
    clear h
    have h := h9
    clear h9
    have hi : i = a := xm_dc hk
    subst hi
    exact xs_lload hx hb hd hg (xs_drop D1 h)
  | lstore_n i =>
    have hn : nx = pc + 1 := hn
    subst hn
    obtain ⟨x, S, rfl, h9⟩ := xe_pL h
    clear h
    have h := h9
    clear h9
    obtain ⟨k1, k2⟩ := xm_and hk
    exact xs_lstore_n hx hb hd (xm_dc k1) (xm_dc k2) (xs_drop D1 h)
  | lstore i =>
    have hn : nx = pc + 2 := hn
    subst hn
    obtain ⟨x, S, rfl, h9⟩ := xe_pL h
    clear h
    have h := h9
    clear h9
    obtain ⟨k1, k2⟩ := xm_and hk
    have hi : i = a := xm_dc k1
    subst hi
    exact xs_lstore hx hb hd (xm_dc k2) (xs_drop D1 h)
  | aload_n i =>
    have hn : nx = pc + 1 := hn
    subst hn
    obtain ⟨x, hg, h9⟩ := xe_gR h
    clear h
    have h := h9
    clear h9
    exact xs_aload_n hx hb hd (xm_dc hk) hg (xs_drop D1 h)
  | aload i =>
    have hn : nx = pc + 2 := hn
    subst hn
    obtain ⟨x, hg, h9⟩ := xe_gR h
    clear h
    have h := h9
    clear h9
    have hi : i = a := xm_dc hk
    subst hi
    exact xs_aload hx hb hd hg (xs_drop D1 h)
  | astore_n i =>
    have hn : nx = pc + 1 := hn
    subst hn
    obtain ⟨x, S, rfl, h9⟩ := xe_pR h
    clear h
    have h := h9
    clear h9
    obtain ⟨k1, k2⟩ := xm_and hk
    exact xs_astore_n hx hb hd (xm_dc k1) (xm_dc k2) (xs_drop D1 h)
  | astore i =>
    have hn : nx = pc + 2 := hn
    subst hn
    obtain ⟨x, S, rfl, h9⟩ := xe_pR h
    clear h
    have h := h9
    clear h9
    obtain ⟨k1, k2⟩ := xm_and hk
    have hi : i = a := xm_dc k1
    subst hi
    exact xs_astore hx hb hd (xm_dc k2) (xs_drop D1 h)
  | iinc i n =>
    have hn : nx = pc + 3 := hn
    subst hn
    obtain ⟨x, hg, h9⟩ := xe_gI h
    clear h
    have h := h9
    clear h9
    obtain ⟨k1, k2⟩ := xm_and hk
    obtain ⟨k29, k3⟩ := xm_and k2
    clear k2
    have k2 := k29
    clear k29
    have hi : i = a := xm_dc k1
    subst hi
    exact xs_iinc hx hb hd (xm_dc k2) hg (xm_dc k3) (xs_drop D1 h)
  | iadd =>
    have hn : nx = pc + 1 := hn
    subst hn
    obtain ⟨y, S, rfl, h9⟩ := xe_pI h
    clear h
    have h := h9
    clear h9
    obtain ⟨x, S, rfl, h9⟩ := xe_pI h
    clear h
    have h := h9
    clear h9
    exact xs_iadd hx hb hd (xs_drop D1 h)
  | isub =>
    have hn : nx = pc + 1 := hn
    subst hn
    obtain ⟨y, S, rfl, h9⟩ := xe_pI h
    clear h
    have h := h9
    clear h9
    obtain ⟨x, S, rfl, h9⟩ := xe_pI h
    clear h
    have h := h9
    clear h9
    exact xs_isub hx hb hd (xs_drop D1 h)
  | imul =>
    have hn : nx = pc + 1 := hn
    subst hn
    obtain ⟨y, S, rfl, h9⟩ := xe_pI h
    clear h
    have h := h9
    clear h9
    obtain ⟨x, S, rfl, h9⟩ := xe_pI h
    clear h
    have h := h9
    clear h9
    exact xs_imul hx hb hd (xs_drop D1 h)
  | iand =>
    have hn : nx = pc + 1 := hn
    subst hn
    obtain ⟨y, S, rfl, h9⟩ := xe_pI h
    clear h
    have h := h9
    clear h9
    obtain ⟨x, S, rfl, h9⟩ := xe_pI h
    clear h
    have h := h9
    clear h9
    exact xs_iand hx hb hd (xs_drop D1 h)
  | ior =>
    have hn : nx = pc + 1 := hn
    subst hn
    obtain ⟨y, S, rfl, h9⟩ := xe_pI h
    clear h
    have h := h9
    clear h9
    obtain ⟨x, S, rfl, h9⟩ := xe_pI h
    clear h
    have h := h9
    clear h9
    exact xs_ior hx hb hd (xs_drop D1 h)
  | ixor =>
    have hn : nx = pc + 1 := hn
    subst hn
    obtain ⟨y, S, rfl, h9⟩ := xe_pI h
    clear h
    have h := h9
    clear h9
    obtain ⟨x, S, rfl, h9⟩ := xe_pI h
    clear h
    have h := h9
    clear h9
    exact xs_ixor hx hb hd (xs_drop D1 h)
  | ishl =>
    have hn : nx = pc + 1 := hn
    subst hn
    obtain ⟨y, S, rfl, h9⟩ := xe_pI h
    clear h
    have h := h9
    clear h9
    obtain ⟨x, S, rfl, h9⟩ := xe_pI h
    clear h
    have h := h9
    clear h9
    exact xs_ishl hx hb hd (xs_drop D1 h)
  | ishr =>
    have hn : nx = pc + 1 := hn
    subst hn
    obtain ⟨y, S, rfl, h9⟩ := xe_pI h
    clear h
    have h := h9
    clear h9
    obtain ⟨x, S, rfl, h9⟩ := xe_pI h
    clear h
    have h := h9
    clear h9
    exact xs_ishr hx hb hd (xs_drop D1 h)
  | iushr =>
    have hn : nx = pc + 1 := hn
    subst hn
    obtain ⟨y, S, rfl, h9⟩ := xe_pI h
    clear h
    have h := h9
    clear h9
    obtain ⟨x, S, rfl, h9⟩ := xe_pI h
    clear h
    have h := h9
    clear h9
    exact xs_iushr hx hb hd (xs_drop D1 h)
  | ladd =>
    have hn : nx = pc + 1 := hn
    subst hn
    obtain ⟨y, S, rfl, h9⟩ := xe_pL h
    clear h
    have h := h9
    clear h9
    obtain ⟨x, S, rfl, h9⟩ := xe_pL h
    clear h
    have h := h9
    clear h9
    exact xs_ladd hx hb hd (xs_drop D1 h)
  | lsub =>
    have hn : nx = pc + 1 := hn
    subst hn
    obtain ⟨y, S, rfl, h9⟩ := xe_pL h
    clear h
    have h := h9
    clear h9
    obtain ⟨x, S, rfl, h9⟩ := xe_pL h
    clear h
    have h := h9
    clear h9
    exact xs_lsub hx hb hd (xs_drop D1 h)
  | lmul =>
    have hn : nx = pc + 1 := hn
    subst hn
    obtain ⟨y, S, rfl, h9⟩ := xe_pL h
    clear h
    have h := h9
    clear h9
    obtain ⟨x, S, rfl, h9⟩ := xe_pL h
    clear h
    have h := h9
    clear h9
    exact xs_lmul hx hb hd (xs_drop D1 h)
  | land =>
    have hn : nx = pc + 1 := hn
    subst hn
    obtain ⟨y, S, rfl, h9⟩ := xe_pL h
    clear h
    have h := h9
    clear h9
    obtain ⟨x, S, rfl, h9⟩ := xe_pL h
    clear h
    have h := h9
    clear h9
    exact xs_land hx hb hd (xs_drop D1 h)
  | lor =>
    have hn : nx = pc + 1 := hn
    subst hn
    obtain ⟨y, S, rfl, h9⟩ := xe_pL h
    clear h
    have h := h9
    clear h9
    obtain ⟨x, S, rfl, h9⟩ := xe_pL h
    clear h
    have h := h9
    clear h9
    exact xs_lor hx hb hd (xs_drop D1 h)
  | lxor =>
    have hn : nx = pc + 1 := hn
    subst hn
    obtain ⟨y, S, rfl, h9⟩ := xe_pL h
    clear h
    have h := h9
    clear h9
    obtain ⟨x, S, rfl, h9⟩ := xe_pL h
    clear h
    have h := h9
    clear h9
    exact xs_lxor hx hb hd (xs_drop D1 h)
  | lcmp =>
    have hn : nx = pc + 1 := hn
    subst hn
    obtain ⟨y, S, rfl, h9⟩ := xe_pL h
    clear h
    have h := h9
    clear h9
    obtain ⟨x, S, rfl, h9⟩ := xe_pL h
    clear h
    have h := h9
    clear h9
    exact xs_lcmp hx hb hd (xs_drop D1 h)
  | lshl =>
    have hn : nx = pc + 1 := hn
    subst hn
    obtain ⟨y, S, rfl, h9⟩ := xe_pI h
    clear h
    have h := h9
    clear h9
    obtain ⟨x, S, rfl, h9⟩ := xe_pL h
    clear h
    have h := h9
    clear h9
    exact xs_lshl hx hb hd (xs_drop D1 h)
  | lshr =>
    have hn : nx = pc + 1 := hn
    subst hn
    obtain ⟨y, S, rfl, h9⟩ := xe_pI h
    clear h
    have h := h9
    clear h9
    obtain ⟨x, S, rfl, h9⟩ := xe_pL h
    clear h
    have h := h9
    clear h9
    exact xs_lshr hx hb hd (xs_drop D1 h)
  | lushr =>
    have hn : nx = pc + 1 := hn
    subst hn
    obtain ⟨y, S, rfl, h9⟩ := xe_pI h
    clear h
    have h := h9
    clear h9
    obtain ⟨x, S, rfl, h9⟩ := xe_pL h
    clear h
    have h := h9
    clear h9
    exact xs_lushr hx hb hd (xs_drop D1 h)
  | i2l =>
    have hn : nx = pc + 1 := hn
    subst hn
    obtain ⟨x, S, rfl, h9⟩ := xe_pI h
    clear h
    have h := h9
    clear h9
    exact xs_i2l hx hb hd (xs_drop D1 h)
  | l2i =>
    have hn : nx = pc + 1 := hn
    subst hn
    obtain ⟨x, S, rfl, h9⟩ := xe_pL h
    clear h
    have h := h9
    clear h9
    exact xs_l2i hx hb hd (xs_drop D1 h)
  | dup =>
    have hn : nx = pc + 1 := hn
    subst hn
    match S, h with
    | .int x :: S, h => exact xs_dup (v := .int x) hx hb hd rfl (xs_drop D1 h)
    | .ref x :: S, h => exact xs_dup (v := .ref x) hx hb hd rfl (xs_drop D1 h)
    | [], h => exact False.elim h
    | .long _ :: _, h => exact False.elim h
    | .float _ :: _, h => exact False.elim h
    | .double _ :: _, h => exact False.elim h
    | .null :: _, h => exact False.elim h
    | .retAddr _ :: _, h => exact False.elim h
  | pop =>
    have hn : nx = pc + 1 := hn
    subst hn
    match S, h with
    | .int x :: S, h => exact xs_pop (v := .int x) hx hb hd rfl (xs_drop D1 h)
    | .ref x :: S, h => exact xs_pop (v := .ref x) hx hb hd rfl (xs_drop D1 h)
    | [], h => exact False.elim h
    | .long _ :: _, h => exact False.elim h
    | .float _ :: _, h => exact False.elim h
    | .double _ :: _, h => exact False.elim h
    | .null :: _, h => exact False.elim h
    | .retAddr _ :: _, h => exact False.elim h
  | dup2 =>
    have hn : nx = pc + 1 := hn
    subst hn
    obtain ⟨y, S, rfl, h9⟩ := xe_pI h
    clear h
    have h := h9
    clear h9
    obtain ⟨x, S, rfl, h9⟩ := xe_pR h
    clear h
    have h := h9
    clear h9
    exact xs_dup2 (v := .int y) (w := .ref x) hx hb hd rfl rfl (xs_drop D1 h)
  | goto off =>
    have hn : nx = pc + 3 := hn
    subst hn
    exact xs_goto hx hb hd (xm_dc hk) (xs_drop D1 h)
  | ifCond q off =>
    have hn : nx = pc + 3 := hn
    subst hn
    obtain ⟨x, S, rfl, h9⟩ := xe_pI h
    clear h
    have h := h9
    clear h9
    match q, hd, h with
    | .eq, hd, h => exact xs_if_eq hx hb hd (xm_dc hk) (fun z => xs_drop D2 (h.1 z)) (fun z => xs_drop D1 (h.2 z))
    | .ne, hd, h => exact xs_if_ne hx hb hd (xm_dc hk) (fun z => xs_drop D2 (h.2 z)) (fun z => xs_drop D1 (h.1 z))
    | .lt, hd, h => exact xs_if_lt hx hb hd (xm_dc hk) (fun z => xs_drop D2 (h.1 z)) (fun z => xs_drop D1 (h.2 z))
    | .ge, hd, h => exact xs_if_ge hx hb hd (xm_dc hk) (fun z => xs_drop D2 (h.1 z)) (fun z => xs_drop D1 (h.2 z))
    | .gt, hd, h => exact xs_if_gt hx hb hd (xm_dc hk) (fun z => xs_drop D2 (h.1 z)) (fun z => xs_drop D1 (h.2 z))
    | .le, hd, h => exact xs_if_le hx hb hd (xm_dc hk) (fun z => xs_drop D2 (h.1 z)) (fun z => xs_drop D1 (h.2 z))
  | if_icmp q off =>
    have hn : nx = pc + 3 := hn
    subst hn
    obtain ⟨y, S, rfl, h9⟩ := xe_pI h
    clear h
    have h := h9
    clear h9
    obtain ⟨x, S, rfl, h9⟩ := xe_pI h
    clear h
    have h := h9
    clear h9
    match q, hd, h with
    | .eq, hd, h => exact xs_icmp_eq hx hb hd (xm_dc hk) (fun z => xs_drop D2 (h.1 z)) (fun z => xs_drop D1 (h.2 z))
    | .ne, hd, h => exact xs_icmp_ne hx hb hd (xm_dc hk) (fun z => xs_drop D2 (h.2 z)) (fun z => xs_drop D1 (h.1 z))
    | .lt, hd, h => exact xs_icmp_lt hx hb hd (xm_dc hk) (fun z => xs_drop D2 (h.1 z)) (fun z => xs_drop D1 (h.2 z))
    | .ge, hd, h => exact xs_icmp_ge hx hb hd (xm_dc hk) (fun z => xs_drop D2 (h.1 z)) (fun z => xs_drop D1 (h.2 z))
    | .gt, hd, h => exact xs_icmp_gt hx hb hd (xm_dc hk) (fun z => xs_drop D2 (h.1 z)) (fun z => xs_drop D1 (h.2 z))
    | .le, hd, h => exact xs_icmp_le hx hb hd (xm_dc hk) (fun z => xs_drop D2 (h.1 z)) (fun z => xs_drop D1 (h.2 z))
  | tableswitch df lo hi offs =>
    obtain ⟨x, S, rfl, h⟩ := xe_pI h
    obtain ⟨k1, k2⟩ := xm_and hk
    exact xs_tsw hx hb hd k1 (xm_dc k2) h
  | getfield ix =>
    have hn : nx = pc + 3 := hn
    subst hn
    obtain ⟨k, S, rfl, h9⟩ := xe_pR h
    clear h
    have h := h9
    clear h9
    obtain ⟨k1, k2⟩ := xm_and hk
    have hkd : (J.1 a)[b']? = some c' := xm_dc k1
    have hor : (V.2.2.2.2.1 mm, ix, a, b') ∈ K.1 ∨ (V.2.2.2.2.1 mm, ix, a, b') ∈ K.2.1 := (xm_or k2).imp xm_dc xm_dc
    match d, h with
    | 0, g =>
      obtain ⟨ci, hsh, g9⟩ := xe_sh g
      clear g
      have g := g9
      clear g9
      obtain ⟨hq, g9⟩ := xe_if g
      clear g
      have g := g9
      clear g9
      replace hq : ci = a := Nat.eq_of_beq_eq_true hq
      subst hq
      match c', hkd, g with
      | 0, hkd, g => exact xc_get (v := .int (M.2.1 k b')) hF hL hG hkd hor hsh rfl hd (xs_drop D1 g)
      | 1, hkd, g => exact xc_get (v := .long (M.2.2.1 k b')) hF hL hG hkd hor hsh rfl hd (xs_drop D1 g)
      | 2, hkd, g =>
        obtain ⟨q, hq, g9⟩ := xe_rv g
        clear g
        have g := g9
        clear g9
        exact xc_get (v := .ref q) hF hL hG hkd hor hsh (by show va_rf (xm_q b (M.2.2.2 k b')) = _; rw [hq]; rfl) hd (xs_drop D1 g)
      | n + 3, hkd, g => exact xc_get (v := .int (M.2.1 k b')) hF hL hG hkd hor hsh rfl hd (xs_drop D1 g)
    | d + 1, h =>
      match c', hkd, h with
      | 0, hkd, h => exact xc_get (v := .int (M.2.1 k b')) hF hL hG hkd hor h.1 rfl hd (xs_drop D1 h.2)
      | 1, hkd, h => exact xc_get (v := .long (M.2.2.1 k b')) hF hL hG hkd hor h.1 rfl hd (xs_drop D1 h.2)
      | 2, hkd, h => exact False.elim h
      | n + 3, hkd, h => exact xc_get (v := .int (M.2.1 k b')) hF hL hG hkd hor h.1 rfl hd (xs_drop D1 h.2)
  | putfield ix =>
    have hn : nx = pc + 3 := hn
    subst hn
    obtain ⟨k1, k2⟩ := xm_and hk
    have hkd : (J.1 a)[b']? = some c' := xm_dc k1
    have hor : ((V.2.2.2.2.1 mm, ix, a, b') ∈ K.1 ∧ (J.2.1 a b' = false ∨ (V.2.2.2.2.2.2 mm = 2 ∧ V.2.2.2.2.1 mm = a))) ∨ ((V.2.2.2.2.1 mm, ix, a, b') ∈ K.2.1 ∧ J.2.1 a b' = false) := by
      rcases xm_or k2 with z | z
      · obtain ⟨z1, z2⟩ := xm_and z
        refine Or.inl ⟨xm_dc z1, ?_⟩
        rcases xm_or z2 with y | y
        · exact Or.inl (by simpa using y)
        · obtain ⟨y1, y2⟩ := xm_and y
          exact Or.inr ⟨xm_dc y1, xm_dc y2⟩
      · obtain ⟨z1, z2⟩ := xm_and z
        exact Or.inr ⟨xm_dc z1, by simpa using z2⟩
    match c', hkd, h with
    | 1, hkd, g =>
      obtain ⟨x, S, rfl, g9⟩ := xe_pL g
      clear g
      have g := g9
      clear g9
      obtain ⟨k, S, rfl, g9⟩ := xe_pR g
      clear g
      have g := g9
      clear g9
      match d, g with
      | 0, f =>
        obtain ⟨ci, hsh, f9⟩ := xe_sh f
        clear f
        have f := f9
        clear f9
        obtain ⟨hq, f9⟩ := xe_if f
        clear f
        have f := f9
        clear f9
        replace hq : ci = a := Nat.eq_of_beq_eq_true hq
        subst hq
        exact xc_pL hF hL hG hkd hor hsh hd (xs_drop D1 f)
      | d + 1, f => exact xc_pL hF hL hG hkd hor f.1 hd (xs_drop D1 f.2)
    | 2, hkd, g =>
      obtain ⟨x, S, rfl, g9⟩ := xe_pR g
      clear g
      have g := g9
      clear g9
      obtain ⟨k, S, rfl, g9⟩ := xe_pR g
      clear g
      have g := g9
      clear g9
      obtain ⟨ci, hsh, g9⟩ := xe_sh g
      clear g
      have g := g9
      clear g9
      obtain ⟨hq, g9⟩ := xe_if g
      clear g
      have g := g9
      clear g9
      replace hq : ci = a := Nat.eq_of_beq_eq_true hq
      subst hq
      exact xc_pR hF hL hG hkd hor hsh hd (xs_drop D1 g)
    | 3, hkd, g =>
      obtain ⟨x, S, rfl, g9⟩ := xe_pI g
      clear g
      have g := g9
      clear g9
      obtain ⟨k, S, rfl, g9⟩ := xe_pR g
      clear g
      have g := g9
      clear g9
      obtain ⟨ci, hsh, g9⟩ := xe_sh g
      clear g
      have g := g9
      clear g9
      obtain ⟨hq, g9⟩ := xe_if g
      clear g
      have g := g9
      clear g9
      replace hq : ci = a := Nat.eq_of_beq_eq_true hq
      subst hq
      exact xc_pI hF hL hG (Or.inr ⟨rfl, g.1⟩) hkd hor hsh hd (xs_drop D1 g.2)
    | 0, hkd, g =>
      obtain ⟨x, S, rfl, g9⟩ := xe_pI g
      clear g
      have g := g9
      clear g9
      obtain ⟨k, S, rfl, g9⟩ := xe_pR g
      clear g
      have g := g9
      clear g9
      match d, g with
      | 0, f =>
        obtain ⟨ci, hsh, f9⟩ := xe_sh f
        clear f
        have f := f9
        clear f9
        obtain ⟨hq, f9⟩ := xe_if f
        clear f
        have f := f9
        clear f9
        replace hq : ci = a := Nat.eq_of_beq_eq_true hq
        subst hq
        exact xc_pI hF hL hG (Or.inl rfl) hkd hor hsh hd (xs_drop D1 f)
      | d + 1, f => exact xc_pI hF hL hG (Or.inl rfl) hkd hor f.1 hd (xs_drop D1 f.2)
    | n + 4, hkd, h => exact False.elim (hk4 n hkd)
  | iaload =>
    have hn : nx = pc + 1 := hn
    subst hn
    obtain ⟨i, S, rfl, h9⟩ := xe_pI h
    clear h
    have h := h9
    clear h9
    obtain ⟨k, S, rfl, h9⟩ := xe_pR h
    clear h
    have h := h9
    clear h9
    obtain ⟨n, hsh, h9⟩ := xe_sh h
    clear h
    have h := h9
    clear h9
    exact xs_iald hx hb hK hsh h.1 hd (xs_drop D1 h.2)
  | laload =>
    have hn : nx = pc + 1 := hn
    subst hn
    obtain ⟨i, S, rfl, h9⟩ := xe_pI h
    clear h
    have h := h9
    clear h9
    obtain ⟨k, S, rfl, h9⟩ := xe_pR h
    clear h
    have h := h9
    clear h9
    obtain ⟨n, hsh, h9⟩ := xe_sh h
    clear h
    have h := h9
    clear h9
    exact xs_lald hx hb hK hsh h.1 hd (xs_drop D1 h.2)
  | aaload =>
    have hn : nx = pc + 1 := hn
    subst hn
    obtain ⟨i, S, rfl, h9⟩ := xe_pI h
    clear h
    have h := h9
    clear h9
    obtain ⟨k, S, rfl, h9⟩ := xe_pR h
    clear h
    have h := h9
    clear h9
    obtain ⟨n, hsh, h9⟩ := xe_sh h
    clear h
    have h := h9
    clear h9
    obtain ⟨h1, q, hq, h⟩ := h
    exact xs_aald hx hb hK hsh h1 hq hd (xs_drop D1 h)
  | iastore =>
    have hn : nx = pc + 1 := hn
    subst hn
    obtain ⟨x, S, rfl, h9⟩ := xe_pI h
    clear h
    have h := h9
    clear h9
    obtain ⟨i, S, rfl, h9⟩ := xe_pI h
    clear h
    have h := h9
    clear h9
    obtain ⟨k, S, rfl, h9⟩ := xe_pR h
    clear h
    have h := h9
    clear h9
    obtain ⟨n, hsh, h9⟩ := xe_sh h
    clear h
    have h := h9
    clear h9
    exact xs_iast hx hb hK hsh h.1 hd (xs_drop D1 h.2)
  | lastore =>
    have hn : nx = pc + 1 := hn
    subst hn
    obtain ⟨x, S, rfl, h9⟩ := xe_pL h
    clear h
    have h := h9
    clear h9
    obtain ⟨i, S, rfl, h9⟩ := xe_pI h
    clear h
    have h := h9
    clear h9
    obtain ⟨k, S, rfl, h9⟩ := xe_pR h
    clear h
    have h := h9
    clear h9
    obtain ⟨n, hsh, h9⟩ := xe_sh h
    clear h
    have h := h9
    clear h9
    exact xs_last hx hb hK hsh h.1 hd (xs_drop D1 h.2)
  | aastore =>
    have hn : nx = pc + 1 := hn
    subst hn
    obtain ⟨x, S, rfl, h9⟩ := xe_pR h
    clear h
    have h := h9
    clear h9
    obtain ⟨i, S, rfl, h9⟩ := xe_pI h
    clear h
    have h := h9
    clear h9
    obtain ⟨k, S, rfl, h9⟩ := xe_pR h
    clear h
    have h := h9
    clear h9
    obtain ⟨n, hsh, h9⟩ := xe_sh h
    clear h
    have h := h9
    clear h9
    have ha : a = J.2.2.1 := xm_dc hk
    subst ha
    obtain ⟨T, N, hcf⟩ := hcf
    exact xs_aast hx hb hcf hK hsh h.1.1 h.1.2 hd (xs_drop D1 h.2)
  | arraylength =>
    have hn : nx = pc + 1 := hn
    subst hn
    obtain ⟨k, S, rfl, h9⟩ := xe_pR h
    clear h
    have h := h9
    clear h9
    obtain ⟨n, hsh, h9⟩ := xe_sh h
    clear h
    have h := h9
    clear h9
    exact xs_alen hx hb hK hsh hd (xs_drop D1 h)
  | newarray t =>
    have hn : nx = pc + 2 := hn
    subst hn
    obtain ⟨x, S, rfl, h9⟩ := xe_pI h
    clear h
    have h := h9
    clear h9
    obtain ⟨hq, h9⟩ := xe_if h
    clear h
    have h := h9
    clear h9
    obtain ⟨q1, q2⟩ := xm_and hq
    have hxk : x = kI := h.1
    subst hxk
    obtain ⟨k1, k2⟩ := xm_and hk
    obtain ⟨k29, k3⟩ := xm_and k2
    clear k2
    have k2 := k29
    clear k29
    obtain ⟨k39, k4⟩ := xm_and k3
    clear k3
    have k3 := k39
    clear k39
    replace k4 : b' * 8 ≤ 536870912 := xm_dc k4
    rcases xm_or k1 with z | z
    · obtain ⟨z1, z2⟩ := xm_and z
      replace z1 : t = .int := xm_dc z1
      replace z2 : a = 0 := xm_dc z2
      subst z1; subst z2
      exact xs_newI hx hb hK (hmem _ hAI) (xm_dc k3) (xm_dc k2) (by omega) (Nat.le_of_ble_eq_true q1) (Nat.le_of_ble_eq_true q2) hd (xs_drop D1 h.2)
    · obtain ⟨z1, z2⟩ := xm_and z
      replace z1 : t = .long := xm_dc z1
      replace z2 : a = 1 := xm_dc z2
      subst z1; subst z2
      exact xs_newL hx hb hK (hmem _ hAL) (xm_dc k3) (xm_dc k2) (by omega) (Nat.le_of_ble_eq_true q1) (Nat.le_of_ble_eq_true q2) hd (xs_drop D1 h.2)
  | anewarray ix =>
    have hn : nx = pc + 3 := hn
    subst hn
    obtain ⟨x, S, rfl, h9⟩ := xe_pI h
    clear h
    have h := h9
    clear h9
    obtain ⟨hq, h9⟩ := xe_if h
    clear h
    have h := h9
    clear h9
    obtain ⟨q1, q2⟩ := xm_and hq
    have hxk : x = kI := h.1
    subst hxk
    obtain ⟨k1, k2⟩ := xm_and hk
    obtain ⟨k29, k3⟩ := xm_and k2
    clear k2
    have k2 := k29
    clear k29
    obtain ⟨k39, k4⟩ := xm_and k3
    clear k3
    have k3 := k39
    clear k39
    replace k4 : b' * 8 ≤ 536870912 := xm_dc k4
    obtain ⟨C, T, N, hc0, y1, -, -⟩ := hCL _ _ _ (xm_dc k1)
    obtain ⟨T2, N2, hcf⟩ := hcf
    have hC : C = CF := by have := hc0.symm.trans hcf; simp at this; exact this.1
    subst hC
    exact xs_newR hx hb hown (hmem _ y1) hN.2 hK (xm_dc k3) (xm_dc k2) (by omega) (Nat.le_of_ble_eq_true q1) (Nat.le_of_ble_eq_true q2) hd (xs_drop D1 h.2)
  | new ix =>
    have hn : nx = pc + 3 := hn
    subst hn
    obtain ⟨hq, h9⟩ := xe_if h
    clear h
    have h := h9
    clear h9
    obtain ⟨q1, q2⟩ := xm_and hq
    obtain ⟨k1, k2⟩ := xm_and hk
    obtain ⟨C, T, N, hc0, y1, y2, y3⟩ := hCL _ _ _ (xm_dc k1)
    obtain ⟨-, g2, g3, -, g5, -, g7⟩ := hcls _ _ _ _ hc0
    have hN0 : N = b' := g7.symm.trans (xm_dc k2)
    subst hN0
    refine xs_newO hx hb hts (fun w hw => List.mem_cons_of_mem _ (g2 w hw)) (tyf a) g3 hown (hmem _ y1) (hmem _ y2) (hmem _ y3) hK hc0 (fun j hj => ?_) (Nat.le_of_ble_eq_true q1) (Nat.le_of_ble_eq_true q2) hd (xs_drop D1 h)
    obtain ⟨t, f1, f2, -⟩ := g5 j hj
    refine ⟨t, by rw [hG]; exact f1, ?_⟩
    match t, f2 with
    | 0, f2 => rw [show tyf a j = .int from f2]; rfl
    | 1, f2 => rw [show tyf a j = .long from f2]; rfl
    | 2, f2 => rcases f2 with ⟨n, f2⟩ | ⟨z, f2⟩ <;> rw [f2] <;> rfl
    | n + 3, f2 => rw [show tyf a j = .boolean from f2]; rfl
  | invokevirtual ix =>
    have hn : nx = pc + 3 := hn
    subst hn
    obtain ⟨As, S', p1, p2, h9⟩ := xe_pop h
    clear h
    have h := h9
    clear h9
    replace p2 : As.reverse ++ S' = S := p2
    subst p2
    obtain ⟨k, S', rfl, h9⟩ := xe_pR h
    clear h
    have h := h9
    clear h9
    obtain ⟨ci, hsh, h9⟩ := xe_sh h
    clear h
    have h := h9
    clear h9
    obtain ⟨hq, h9⟩ := xe_if h
    clear h
    have h := h9
    clear h9
    obtain ⟨q0, hq9⟩ := xm_and hq
    clear hq
    have hq := hq9
    clear hq9
    replace q0 : ci = c' := Nat.eq_of_beq_eq_true q0
    obtain ⟨q1, hq9⟩ := xm_and hq
    clear hq
    have hq := hq9
    clear hq9
    obtain ⟨q2, q3⟩ := xm_and hq
    obtain ⟨k1, k2⟩ := xm_and hk
    obtain ⟨k29, k3⟩ := xm_and k2
    clear k2
    have k2 := k29
    clear k29
    obtain ⟨k39, k4⟩ := xm_and k3
    clear k3
    have k3 := k39
    clear k39
    obtain ⟨k49, k5⟩ := xm_and k4
    clear k4
    have k4 := k49
    clear k49
    replace k4 : V.2.2.2.2.1 a = c' := xm_dc k4
    obtain ⟨k59, k6⟩ := xm_and k5
    clear k5
    have k5 := k59
    clear k59
    replace hsh : xm_nth M.1 k = some (3, V.2.2.2.2.1 a) := by rw [k4, ← q0]; exact hsh
    have hnp : V.2.2.2.2.2.1 a = b' := xm_dc k3
    have hlen : As.length = V.2.2.2.2.2.1 a := by rw [hnp]; exact p1
    obtain ⟨P0, h1, h2⟩ := h
    refine xs_drop D1 ?_
    exact xc_callV hF hL hG hMW ((xm_or k1).imp xm_dc xm_dc) (xm_dc k2) hlen (xm_dc k5) (xm_dc k6) hsh h1 (Nat.le_of_ble_eq_true q1) (Nat.le_of_ble_eq_true q2) (Nat.le_of_ble_eq_true q3) hd (fun r hr => h2 r hr)
  | invokestatic ix =>
    have hn : nx = pc + 3 := hn
    subst hn
    obtain ⟨As, S', p1, p2, h9⟩ := xe_pop h
    clear h
    have h := h9
    clear h9
    replace p2 : As.reverse ++ S' = S := p2
    subst p2
    obtain ⟨hq, h9⟩ := xe_if h
    clear h
    have h := h9
    clear h9
    obtain ⟨q1, hq9⟩ := xm_and hq
    clear hq
    have hq := hq9
    clear hq9
    obtain ⟨q2, q3⟩ := xm_and hq
    obtain ⟨k1, k2⟩ := xm_and hk
    obtain ⟨k29, k3⟩ := xm_and k2
    clear k2
    have k2 := k29
    clear k29
    obtain ⟨k39, k4⟩ := xm_and k3
    clear k3
    have k3 := k39
    clear k39
    obtain ⟨k5, k6⟩ := xm_and k4
    have hnp : V.2.2.2.2.2.1 a = b' := xm_dc k3
    have hlen : As.length = V.2.2.2.2.2.1 a := by rw [hnp]; exact p1
    obtain ⟨P0, h1, h2⟩ := h
    refine xs_drop D1 ?_
    exact xc_callS hF hL hG hMW ((xm_or k1).imp xm_dc xm_dc) (xm_dc k2) hlen (xm_dc k5) (xm_dc k6) h1 (Nat.le_of_ble_eq_true q1) (Nat.le_of_ble_eq_true q2) (Nat.le_of_ble_eq_true q3) hd (fun r hr => h2 r hr)
  | invokespecial ix =>
    have hn : nx = pc + 3 := hn
    subst hn
    match d, hk, h with
    | 0, gk, g =>
      obtain ⟨k, S, rfl, g9⟩ := xe_pR g
      clear g
      have g := g9
      clear g9
      obtain ⟨hq, g9⟩ := xe_if g
      clear g
      have g := g9
      clear g9
      obtain ⟨k1, k2⟩ := xm_and gk
      obtain ⟨k29, k3⟩ := xm_and k2
      clear k2
      have k2 := k29
      clear k29
      exact xs_objInit hx hb hml hown (hmem _ (hOL.1 _ _ (xm_dc k1))) (hmem _ hOL.2.1) (hmem _ hOL.2.2) (Nat.le_of_ble_eq_true hq) (xm_dc k2) (xm_dc k3) hd (xs_drop D1 g)
    | d + 1, gk, g =>
      obtain ⟨As, S', p1, p2, g9⟩ := xe_pop g
      clear g
      have g := g9
      clear g9
      replace p2 : As.reverse ++ S' = S := p2
      subst p2
      obtain ⟨k, S', rfl, g9⟩ := xe_pR g
      clear g
      have g := g9
      clear g9
      obtain ⟨hq, g9⟩ := xe_if g
      clear g
      have g := g9
      clear g9
      obtain ⟨q1, hq9⟩ := xm_and hq
      clear hq
      have hq := hq9
      clear hq9
      obtain ⟨q2, q3⟩ := xm_and hq
      obtain ⟨k1, k2⟩ := xm_and gk
      obtain ⟨k29, k3⟩ := xm_and k2
      clear k2
      have k2 := k29
      clear k29
      obtain ⟨k39, k4⟩ := xm_and k3
      clear k3
      have k3 := k39
      clear k39
      obtain ⟨k5, k6⟩ := xm_and k4
      have hnp : V.2.2.2.2.2.1 a = b' := xm_dc k3
      have hlen : As.length = V.2.2.2.2.2.1 a := by rw [hnp]; exact p1
      obtain ⟨P0, h1, h2⟩ := g
      refine xs_drop D1 ?_
      exact xc_callI hF hL hG hMW ((xm_or k1).imp xm_dc xm_dc) (xm_dc k2) hlen (xm_dc k5) (xm_dc k6) h1 (Nat.le_of_ble_eq_true q1) (Nat.le_of_ble_eq_true q2) (Nat.le_of_ble_eq_true q3) hd (fun r hr => h2 r hr)
  | ireturn =>
    have hn : nx = pc + 1 := hn
    subst hn
    match S, h with
    | [.int x], h =>
      match d, hk, h with
      | 0, hk, h => exact xs_iret hx hb hlk (hrt.trans (xm_dc hk)) h hd
      | d + 1, hk, h => exact xs_zret hx hb hlk (hrt.trans (xm_dc hk)) (by rcases h.1 with rfl | rfl <;> rfl) h.2 hd
    | [], h => exact False.elim h
    | .long _ :: _, h => exact False.elim h
    | .float _ :: _, h => exact False.elim h
    | .double _ :: _, h => exact False.elim h
    | .null :: _, h => exact False.elim h
    | .ref _ :: _, h => exact False.elim h
    | .retAddr _ :: _, h => exact False.elim h
    | .int _ :: _ :: _, h => exact False.elim h
  | lreturn =>
    have hn : nx = pc + 1 := hn
    subst hn
    match S, h with
    | [.long x], h => exact xs_lret hx hb hlk (hrt.trans (xm_dc hk)) h hd
    | [], h => exact False.elim h
    | .int _ :: _, h => exact False.elim h
    | .float _ :: _, h => exact False.elim h
    | .double _ :: _, h => exact False.elim h
    | .null :: _, h => exact False.elim h
    | .ref _ :: _, h => exact False.elim h
    | .retAddr _ :: _, h => exact False.elim h
    | .long _ :: _ :: _, h => exact False.elim h
  | return_ =>
    have hn : nx = pc + 1 := hn
    subst hn
    match S, h with
    | [], h => exact xs_vret hx hb hlk (hrt.trans (xm_dc hk)) h hd
    | _ :: _, h => exact False.elim h
  | _ => exact False.elim h
theorem xm_sound {l : Launch} {b : Nat} {G : xm_G} {D : va_G} {cl : List vw_C} {CF : String} {Ns : List Cond} {Z : xm_Z} {yy : Nat → MethodName} {nm : Nat → String} {V : xm_V} {K : xm_K} {J : xm_J} {tyf : Nat → Nat → FieldType} {lg : List Cond} (hL : xm_LK yy nm V K J cl tyf lg Ns CF) (hG : G.2.2.2 = J.1) (hMW : ∀ o ix a, ((o, ix, a) ∈ K.2.2.1 ∨ (o, ix, a) ∈ K.2.2.2.1) → xm_MW yy nm V cl lg a) (hk4 : ∀ (ci j n : Nat), (J.1 ci)[j]? = some (n + 4) → False) (hV : Z.2.1 = V.2.2.1)
    (hT : ∀ a pc ee, Z.1 a pc = some ee → xm_chk V K J a pc ee = true ∧ pc < 1000000 ∧ xm_MW yy nm V cl lg a) {a : Nat} {av : List Value} {M : xm_M} {P : xm_R → Prop} (h : xm_Ev Z a av M P) : xm_Met l Z yy V lg Ns CF b G D cl a av M P := by
  refine h (xm_Met l Z yy V lg Ns CF b G D cl) ?_
  clear h
  intro mm av M P hW
  have hsome : ∀ (st : xm_S) (X : xm_S → Prop), xm_F (xm_Met l Z yy V lg Ns CF b G D cl) P X (xm_step Z (Z.1 mm) st) → ∃ ee, Z.1 mm st.1 = some ee ∧ xm_F (xm_Met l Z yy V lg Ns CF b G D cl) P X (xm_ins Z ee st.2.1 st.2.2.1 st.2.2.2.1 st.2.2.2.2.1 st.2.2.2.2.2) := by
    intro st X hF
    obtain ⟨pc, L, S, M, bc, bs⟩ := st
    have hF : xm_F (xm_Met l Z yy V lg Ns CF b G D cl) P X (match Z.1 mm pc with
      | none => xm_bad
      | some e => xm_ins Z e L S M bc bs) := hF
    show ∃ ee, Z.1 mm pc = some ee ∧ xm_F (xm_Met l Z yy V lg Ns CF b G D cl) P X (xm_ins Z ee L S M bc bs)
    cases hz : Z.1 mm pc with
    | none => rw [hz] at hF; exact False.elim hF
    | some ee => rw [hz] at hF; exact ⟨ee, rfl, hF⟩
  -- the first pc stands in the table
  have h0 : ∃ ee, Z.1 mm (xm_st Z mm av M).1 = some ee := by
    have := hW (fun st => ∃ ee, Z.1 mm st.1 = some ee) (fun st hF => by
      obtain ⟨ee, h1, -⟩ := hsome st _ hF
      exact ⟨ee, h1⟩)
    exact this
  obtain ⟨ee, he⟩ := h0
  have hMW0 := (hT _ _ _ he).2.2
  have hcat : xm_cat av ≤ V.2.2.1 mm := by
    have h1 := (hT _ _ _ he).2.1
    refine Nat.le_of_ble_eq_true ?_
    cases hq : Nat.ble (xm_cat av) (V.2.2.1 mm) with
    | true => rfl
    | false =>
      have : (xm_st Z mm av M).1 = 1000000 := by
        unfold xm_st
        rw [hV, hq]
        rfl
      rw [this] at h1
      exact absurd h1 (Nat.lt_irrefl _)
  obtain ⟨w1, w2, w3, w4, w5, w6, w7, w8⟩ := hMW0
  refine Met.ofW (cc := V.1 mm) (maxL := V.2.2.1 mm) (ret := V.2.1 mm) w2 rfl ?_
  intro p e s m args below meth c s₁ B hml hv
  obtain ⟨rfl, hB, hK, hN, hbs⟩ := hv
  have hts := atoms_spec (ws := xm_ws yy V lg mm) B.pre
  have hown : s.vm.findClass (yy mm).cls = some m.cls := findClass_of_methodNamed B.named
  have hFr : xm_Fr p s m (av.map (xm_v b)).toArray meth c yy nm V lg Ns CF b G D cl mm := ⟨⟨B.exec, B.bytes, hml, by rw [w1]; exact hown, hts⟩, hK, hN, hbs, B.notSynchronized, B.returns, fun hsk => by
    rw [← (w8 hsk).1]
    exact (name_of_methodNamed B.named B.method).1⟩
  have main := hW (xm_X p l e (xm_rm Z V mm) s m (av.map (xm_v b)).toArray below meth c (MQ below (xm_Qc b G D cl P) (av.map (xm_v b)).toArray s (Z.2.2 mm).1 (Z.2.2 mm).2 (fun q => b ≤ q)) b G D cl (V.2.2.1 mm)) (fun st hF => by
    obtain ⟨⟨ins, nx, tg, D1, D2, ⟨a, b', c', d⟩, kI, kL, sw⟩, h1, h2⟩ := hsome st _ hF
    obtain ⟨pc, L, S, M, bc, bs⟩ := st
    exact xm_close hFr hL hG hMW hk4 (hT _ _ _ h1).1 h2)
  have hpc : (xm_st Z mm av M).1 = 0 := by
    unfold xm_st
    rw [hV, show Nat.ble (xm_cat av) (V.2.2.1 mm) = true from Nat.ble_eq_true_of_le hcat]
    rfl
  rw [lg_entry_eq]
  have := main s.heap [] 0 0 _ hB.1 hB.2 va_S.rf (Nat.zero_add _) (Nat.zero_add _) (by
    show lv_has _ (V.2.2.1 mm) (xm_l b 0 (xm_pad (Z.2.1 mm) (xm_ea av)))
    rw [hV]
    exact xm_enter hcat)
  rw [hpc] at this
  exact this
end
