def xm_at1 (f : Cond → Bool) (i : Nat) (w : Cond) : Bool := decide (lw_tbl[i]? = some w) && f w
theorem xm_at1_ok {f : Cond → Bool} {i : Nat} {w : Cond} (h : xm_at1 f i w = true) : w ∈ lw_tbl.filter f := by
  obtain ⟨h1, h2⟩ := xm_and h
  exact List.mem_filter.mpr ⟨List.mem_of_getElem? (xm_dc h1), h2⟩
theorem xm_fstmem {α β : Type} {l : List (α × β)} {a : α} (h : a ∈ l.map Prod.fst) : ∃ b, (a, b) ∈ l := by
  obtain ⟨q, h1, h2⟩ := List.mem_map.mp h
  exact ⟨q.2, by rw [← h2]; exact h1⟩
theorem xcl_at {a : Nat} (h : a < 9) : xcl[a]? = some (xnm a, xT a, xN a) := by
  unfold xcl
  rw [List.getElem?_map, List.getElem?_range h]
  rfl
theorem xcl_of {a : Nat} {C : String} {T : u_T} {N : Nat} (h : xcl[a]? = some (C, T, N)) : a < 9 ∧ C = xnm a ∧ T = xT a ∧ N = xN a := by
  have hl : a < 9 := by
    have := (List.getElem?_eq_some_iff.mp h).1
    unfold xcl at this
    simpa using this
  rw [xcl_at hl] at h
  have := Option.some.inj h
  simp only [Prod.mk.injEq] at this
  exact ⟨hl, this.1.symm, this.2.1.symm, this.2.2.symm⟩
def xm_ktb (t : Nat) (ty : FieldType) : Bool := match t, ty with
  | 0, .int => true
  | 1, .long => true
  | 2, .object _ => true
  | 2, .array _ => true
  | 3, .boolean => true
  | _, _ => false
theorem xm_ktb_ok {t : Nat} {ty : FieldType} (h : xm_ktb t ty = true) : xm_kt t ty := by
  unfold xm_ktb at h
  split at h
  · rfl
  · rfl
  · exact Or.inl ⟨_, rfl⟩
  · exact Or.inr ⟨_, rfl⟩
  · rfl
  · cases h
theorem xFL_ok : xFLi.all (fun q => Nat.blt q.1.2.2.1 9 && xm_at1 goodWord q.2 (.fieldLink (xnm q.1.1) q.1.2.1 (xT q.1.2.2.1 q.1.2.2.2).1 (xT q.1.2.2.1 q.1.2.2.2).2.1 (xT q.1.2.2.1 q.1.2.2.2).2.2.1)) = true := by decide +kernel
theorem xML_ok : xMLi.all (fun q => Nat.blt q.1.2.2 171 && xm_at1 goodWord q.2 (.methodLink (xnm q.1.1) q.1.2.1 (xyy q.1.2.2))) = true := by decide +kernel
theorem xMN_ok : xMNi.all (fun q => Nat.blt q.1.2.2 171 && xm_at1 xm_isN q.2 (.methodLinkNest (xnm q.1.1) q.1.2.1 (xyy q.1.2.2) "ModuleScanner")) = true := by decide +kernel
theorem xCL_ok : xCLi.all (fun q => Nat.blt q.1.2.2 9 && (xm_at1 goodWord q.2.1 (.classLink (xnm q.1.1) q.1.2.1 (xnm q.1.2.2)) && (xm_at1 goodWord q.2.2.1 (.instantiable (xnm q.1.2.2) (xN q.1.2.2)) && xm_at1 goodWord q.2.2.2 (.initialized (xnm q.1.2.2))))) = true := by decide +kernel
theorem xOL_ok : xOLi.all (fun q => xm_at1 goodWord q.2 (.methodLink (xnm q.1.1) q.1.2 Lib.objectInit)) = true := by decide +kernel
theorem xOI_ok : xm_at1 goodWord 91 (.instanceMethod Lib.objectInit) = true := by decide +kernel
theorem xOC_ok : xm_at1 goodWord 92 (.code Lib.objectInit ⟨#[0xb1]⟩ 1 none) = true := by decide +kernel
theorem xKI_ok : xKIi.all (fun q => xm_at1 goodWord q.2 (Jvm.Cond.constant (xnm q.1.1) q.1.2.1 q.1.2.2)) = true := by decide +kernel
theorem xKL_ok : xKLi.all (fun q => xm_at1 goodWord q.2 (Jvm.Cond.constantLong (xnm q.1.1) q.1.2.1 q.1.2.2)) = true := by decide +kernel
theorem xXL_ok : xXLi.all (fun q => xm_at1 goodWord q.2 (.methodLink (xnm q.1.1) q.1.2 Lib.Math.max.name)) = true := by decide +kernel
theorem xXS_ok : xm_at1 goodWord 624 (.static Lib.Math.max.name) = true := by decide +kernel
theorem xXI_ok : xm_at1 goodWord 82 (.initialized "java/lang/Math") = true := by decide +kernel
theorem xXC_ok : xm_at1 goodWord 625 (.code Lib.Math.max.name Lib.Math.max.code 2 (some .int)) = true := by decide +kernel
theorem xAI_ok : xm_at1 goodWord 113 (.arrayClass .int) = true := by decide +kernel
theorem xAL_ok : xm_at1 goodWord 267 (.arrayClass .long) = true := by decide +kernel
theorem xLY_ok : xLYi.all (fun q => xm_at1 goodWord q.2 (u_lay (xnm q.1.1) (xT q.1.1) q.1.2)) = true := by decide +kernel
theorem xLY_in : (List.range 9).all (fun a => (List.range (xN a)).all fun k => decide ((a, k) ∈ xLYi.map Prod.fst)) = true := by decide +kernel
def xm_cf (a : Nat) : Bool := decide ((xkd a).length = xN a) && (List.range (xN a)).all fun k => decide (parseFieldDescriptor (xT a k).2.2.1 = some (xtyf a k)) && ((match (xkd a)[k]? with
  | some t => xm_ktb t (xtyf a k)
  | none => false) && ((!(xT a k).2.2.2 || decide ((xT a k).1 = xnm a)) && (List.range (xN a)).all fun b => decide (k = b) || decide ((xT a k).2.1 ≠ (xT a b).2.1)))
theorem xCF_ok : (List.range 9).all xm_cf = true := by decide +kernel
def xmw (a : Nat) (q : Nat × Nat × Nat × Nat) : Bool := decide (xnm (xco a) = (xyy a).cls) && (plainName (xyy a).cls && (xm_at1 goodWord q.2.1 (.initialized (xyy a).cls) && (decide ((xyy a).cls ≠ "java/lang/invoke/MethodHandle") && (decide ((xyy a).cls ≠ "java/lang/invoke/VarHandle") && (decide ((parseMethodDescriptor (xyy a).desc).map (fun d => d.parameters.length) = some (xnp a)) && match xsk a with
  | 0 => xm_at1 goodWord q.2.2.1 (.instanceMethod (xyy a)) && (xm_at1 goodWord q.2.2.2 (.selects (xyy a).cls (xyy a) (xyy a)) && Nat.blt (xco a) 9)
  | 1 => xm_at1 goodWord q.2.2.1 (.static (xyy a))
  | 2 => decide ((xyy a).name = "<init>") && (xm_at1 goodWord q.2.2.1 (.instanceMethod (xyy a)) && decide (xrt a = none))
  | _ => false)))))
theorem xmw0 : xmw 0 (89, 72, 88, 0) = true := by decide +kernel
theorem xmw1 : xmw 1 (97, 73, 96, 0) = true := by decide +kernel
theorem xmw2 : xmw 2 (103, 74, 102, 0) = true := by decide +kernel
theorem xmw3 : xmw 3 (118, 75, 117, 0) = true := by decide +kernel
theorem xmw4 : xmw 4 (196, 76, 195, 0) = true := by decide +kernel
theorem xmw5 : xmw 5 (223, 77, 222, 0) = true := by decide +kernel
theorem xmw6 : xmw 6 (230, 78, 229, 0) = true := by decide +kernel
theorem xmw7 : xmw 7 (298, 79, 297, 0) = true := by decide +kernel
theorem xmw8 : xmw 8 (777, 80, 776, 0) = true := by decide +kernel
theorem xmw9 : xmw 9 (334, 72, 332, 333) = true := by decide +kernel
theorem xmw10 : xmw 10 (338, 74, 336, 337) = true := by decide +kernel
theorem xmw11 : xmw 11 (342, 72, 340, 341) = true := by decide +kernel
theorem xmw12 : xmw 12 (346, 74, 344, 345) = true := by decide +kernel
theorem xmw13 : xmw 13 (350, 72, 348, 349) = true := by decide +kernel
theorem xmw14 : xmw 14 (353, 72, 352, 0) = true := by decide +kernel
theorem xmw15 : xmw 15 (357, 73, 355, 356) = true := by decide +kernel
theorem xmw16 : xmw 16 (361, 73, 360, 0) = true := by decide +kernel
theorem xmw17 : xmw 17 (365, 73, 364, 1) = true := by decide +kernel
theorem xmw18 : xmw 18 (369, 74, 367, 368) = true := by decide +kernel
theorem xmw19 : xmw 19 (374, 73, 373, 2) = true := by decide +kernel
theorem xmw20 : xmw 20 (378, 73, 377, 3) = true := by decide +kernel
theorem xmw21 : xmw 21 (382, 75, 380, 381) = true := by decide +kernel
theorem xmw22 : xmw 22 (386, 75, 384, 385) = true := by decide +kernel
theorem xmw23 : xmw 23 (390, 75, 388, 389) = true := by decide +kernel
theorem xmw24 : xmw 24 (394, 75, 392, 393) = true := by decide +kernel
theorem xmw25 : xmw 25 (397, 75, 396, 0) = true := by decide +kernel
theorem xmw26 : xmw 26 (401, 73, 400, 4) = true := by decide +kernel
theorem xmw27 : xmw 27 (407, 75, 405, 406) = true := by decide +kernel
theorem xmw28 : xmw 28 (411, 73, 410, 5) = true := by decide +kernel
theorem xmw29 : xmw 29 (415, 75, 413, 414) = true := by decide +kernel
theorem xmw30 : xmw 30 (419, 75, 417, 418) = true := by decide +kernel
theorem xmw31 : xmw 31 (422, 81, 421, 0) = true := by decide +kernel
theorem xmw32 : xmw 32 (426, 74, 424, 425) = true := by decide +kernel
theorem xmw33 : xmw 33 (429, 81, 428, 0) = true := by decide +kernel
theorem xmw34 : xmw 34 (432, 81, 431, 0) = true := by decide +kernel
theorem xmw35 : xmw 35 (435, 81, 434, 0) = true := by decide +kernel
theorem xmw36 : xmw 36 (440, 81, 439, 0) = true := by decide +kernel
theorem xmw37 : xmw 37 (445, 73, 444, 6) = true := by decide +kernel
theorem xmw38 : xmw 38 (449, 73, 448, 7) = true := by decide +kernel
theorem xmw39 : xmw 39 (453, 75, 451, 452) = true := by decide +kernel
theorem xmw40 : xmw 40 (457, 75, 455, 456) = true := by decide +kernel
theorem xmw41 : xmw 41 (461, 75, 459, 460) = true := by decide +kernel
theorem xmw42 : xmw 42 (466, 75, 464, 465) = true := by decide +kernel
theorem xmw43 : xmw 43 (470, 75, 468, 469) = true := by decide +kernel
theorem xmw44 : xmw 44 (474, 75, 472, 473) = true := by decide +kernel
theorem xmw45 : xmw 45 (478, 73, 477, 8) = true := by decide +kernel
theorem xmw46 : xmw 46 (482, 75, 480, 481) = true := by decide +kernel
theorem xmw47 : xmw 47 (487, 73, 486, 9) = true := by decide +kernel
theorem xmw48 : xmw 48 (491, 73, 490, 10) = true := by decide +kernel
theorem xmw49 : xmw 49 (495, 73, 494, 11) = true := by decide +kernel
theorem xmw50 : xmw 50 (499, 72, 498, 12) = true := by decide +kernel
theorem xmw51 : xmw 51 (505, 76, 503, 504) = true := by decide +kernel
theorem xmw52 : xmw 52 (509, 74, 507, 508) = true := by decide +kernel
theorem xmw53 : xmw 53 (513, 77, 511, 512) = true := by decide +kernel
theorem xmw54 : xmw 54 (517, 72, 516, 13) = true := by decide +kernel
theorem xmw55 : xmw 55 (521, 72, 520, 14) = true := by decide +kernel
theorem xmw56 : xmw 56 (525, 76, 523, 524) = true := by decide +kernel
theorem xmw57 : xmw 57 (530, 76, 529, 15) = true := by decide +kernel
theorem xmw58 : xmw 58 (535, 76, 534, 16) = true := by decide +kernel
theorem xmw59 : xmw 59 (539, 76, 538, 17) = true := by decide +kernel
theorem xmw60 : xmw 60 (543, 72, 542, 18) = true := by decide +kernel
theorem xmw61 : xmw 61 (547, 72, 546, 0) = true := by decide +kernel
theorem xmw62 : xmw 62 (552, 76, 550, 551) = true := by decide +kernel
theorem xmw63 : xmw 63 (560, 72, 559, 19) = true := by decide +kernel
theorem xmw64 : xmw 64 (564, 72, 563, 20) = true := by decide +kernel
theorem xmw65 : xmw 65 (570, 76, 568, 569) = true := by decide +kernel
theorem xmw66 : xmw 66 (574, 72, 573, 21) = true := by decide +kernel
theorem xmw67 : xmw 67 (578, 77, 576, 577) = true := by decide +kernel
theorem xmw68 : xmw 68 (582, 77, 581, 22) = true := by decide +kernel
theorem xmw69 : xmw 69 (586, 77, 584, 585) = true := by decide +kernel
theorem xmw70 : xmw 70 (590, 77, 589, 23) = true := by decide +kernel
theorem xmw71 : xmw 71 (594, 77, 592, 593) = true := by decide +kernel
theorem xmw72 : xmw 72 (598, 77, 597, 24) = true := by decide +kernel
theorem xmw73 : xmw 73 (602, 77, 601, 25) = true := by decide +kernel
theorem xmw74 : xmw 74 (605, 72, 604, 0) = true := by decide +kernel
theorem xmw75 : xmw 75 (609, 77, 608, 26) = true := by decide +kernel
theorem xmw76 : xmw 76 (613, 77, 612, 27) = true := by decide +kernel
theorem xmw77 : xmw 77 (617, 77, 616, 28) = true := by decide +kernel
theorem xmw78 : xmw 78 (621, 77, 620, 29) = true := by decide +kernel
theorem xmw79 : xmw 79 (629, 79, 627, 628) = true := by decide +kernel
theorem xmw80 : xmw 80 (634, 79, 633, 30) = true := by decide +kernel
theorem xmw81 : xmw 81 (638, 72, 636, 637) = true := by decide +kernel
theorem xmw82 : xmw 82 (642, 77, 640, 641) = true := by decide +kernel
theorem xmw83 : xmw 83 (646, 72, 644, 645) = true := by decide +kernel
theorem xmw84 : xmw 84 (650, 72, 648, 649) = true := by decide +kernel
theorem xmw85 : xmw 85 (654, 76, 652, 653) = true := by decide +kernel
theorem xmw86 : xmw 86 (658, 76, 656, 657) = true := by decide +kernel
theorem xmw87 : xmw 87 (662, 72, 660, 661) = true := by decide +kernel
theorem xmw88 : xmw 88 (667, 72, 665, 666) = true := by decide +kernel
theorem xmw89 : xmw 89 (671, 72, 670, 31) = true := by decide +kernel
theorem xmw90 : xmw 90 (675, 72, 673, 674) = true := by decide +kernel
theorem xmw91 : xmw 91 (679, 72, 677, 678) = true := by decide +kernel
theorem xmw92 : xmw 92 (684, 72, 682, 683) = true := by decide +kernel
theorem xmw93 : xmw 93 (687, 83, 686, 0) = true := by decide +kernel
theorem xmw94 : xmw 94 (690, 84, 689, 0) = true := by decide +kernel
theorem xmw95 : xmw 95 (695, 72, 693, 694) = true := by decide +kernel
theorem xmw96 : xmw 96 (699, 72, 697, 698) = true := by decide +kernel
theorem xmw97 : xmw 97 (703, 76, 701, 702) = true := by decide +kernel
theorem xmw98 : xmw 98 (707, 72, 705, 706) = true := by decide +kernel
theorem xmw99 : xmw 99 (711, 72, 710, 32) = true := by decide +kernel
theorem xmw100 : xmw 100 (715, 72, 713, 714) = true := by decide +kernel
theorem xmw101 : xmw 101 (719, 79, 717, 718) = true := by decide +kernel
theorem xmw102 : xmw 102 (722, 79, 721, 0) = true := by decide +kernel
theorem xmw103 : xmw 103 (727, 72, 725, 726) = true := by decide +kernel
theorem xmw104 : xmw 104 (731, 79, 729, 730) = true := by decide +kernel
theorem xmw105 : xmw 105 (736, 72, 734, 735) = true := by decide +kernel
theorem xmw106 : xmw 106 (740, 77, 738, 739) = true := by decide +kernel
theorem xmw107 : xmw 107 (743, 83, 742, 0) = true := by decide +kernel
theorem xmw108 : xmw 108 (750, 72, 749, 33) = true := by decide +kernel
theorem xmw109 : xmw 109 (753, 84, 752, 0) = true := by decide +kernel
theorem xmw110 : xmw 110 (760, 79, 758, 759) = true := by decide +kernel
theorem xmw111 : xmw 111 (764, 72, 763, 34) = true := by decide +kernel
theorem xmw112 : xmw 112 (768, 76, 766, 767) = true := by decide +kernel
theorem xmw113 : xmw 113 (772, 77, 770, 771) = true := by decide +kernel
theorem xmw114 : xmw 114 (891, 80, 889, 890) = true := by decide +kernel
theorem xmw115 : xmw 115 (896, 80, 894, 895) = true := by decide +kernel
theorem xmw116 : xmw 116 (900, 80, 898, 899) = true := by decide +kernel
theorem xmw117 : xmw 117 (903, 80, 902, 0) = true := by decide +kernel
theorem xmw118 : xmw 118 (907, 80, 906, 35) = true := by decide +kernel
theorem xmw119 : xmw 119 (911, 80, 910, 36) = true := by decide +kernel
theorem xmw120 : xmw 120 (915, 80, 914, 37) = true := by decide +kernel
theorem xmw121 : xmw 121 (920, 80, 919, 38) = true := by decide +kernel
theorem xmw122 : xmw 122 (924, 80, 923, 39) = true := by decide +kernel
theorem xmw123 : xmw 123 (928, 80, 927, 40) = true := by decide +kernel
theorem xmw124 : xmw 124 (932, 80, 931, 41) = true := by decide +kernel
theorem xmw125 : xmw 125 (936, 80, 935, 42) = true := by decide +kernel
theorem xmw126 : xmw 126 (940, 80, 939, 43) = true := by decide +kernel
theorem xmw127 : xmw 127 (944, 80, 943, 44) = true := by decide +kernel
theorem xmw128 : xmw 128 (947, 80, 946, 0) = true := by decide +kernel
theorem xmw129 : xmw 129 (951, 80, 950, 45) = true := by decide +kernel
theorem xmw130 : xmw 130 (955, 80, 954, 46) = true := by decide +kernel
theorem xmw131 : xmw 131 (958, 80, 957, 0) = true := by decide +kernel
theorem xmw132 : xmw 132 (962, 80, 961, 47) = true := by decide +kernel
theorem xmw133 : xmw 133 (966, 80, 965, 48) = true := by decide +kernel
theorem xmw134 : xmw 134 (970, 80, 969, 49) = true := by decide +kernel
theorem xmw135 : xmw 135 (974, 80, 973, 50) = true := by decide +kernel
theorem xmw136 : xmw 136 (978, 80, 977, 51) = true := by decide +kernel
theorem xmw137 : xmw 137 (982, 80, 981, 52) = true := by decide +kernel
theorem xmw138 : xmw 138 (986, 80, 985, 53) = true := by decide +kernel
theorem xmw139 : xmw 139 (990, 80, 989, 54) = true := by decide +kernel
theorem xmw140 : xmw 140 (994, 80, 993, 55) = true := by decide +kernel
theorem xmw141 : xmw 141 (998, 80, 997, 56) = true := by decide +kernel
theorem xmw142 : xmw 142 (1002, 80, 1001, 57) = true := by decide +kernel
theorem xmw143 : xmw 143 (1006, 80, 1005, 58) = true := by decide +kernel
theorem xmw144 : xmw 144 (1011, 80, 1010, 59) = true := by decide +kernel
theorem xmw145 : xmw 145 (1015, 80, 1013, 1014) = true := by decide +kernel
theorem xmw146 : xmw 146 (1019, 80, 1017, 1018) = true := by decide +kernel
theorem xmw147 : xmw 147 (1023, 80, 1021, 1022) = true := by decide +kernel
theorem xmw148 : xmw 148 (1027, 80, 1026, 60) = true := by decide +kernel
theorem xmw149 : xmw 149 (1031, 80, 1029, 1030) = true := by decide +kernel
theorem xmw150 : xmw 150 (1035, 80, 1034, 61) = true := by decide +kernel
theorem xmw151 : xmw 151 (1039, 80, 1037, 1038) = true := by decide +kernel
theorem xmw152 : xmw 152 (1043, 80, 1041, 1042) = true := by decide +kernel
theorem xmw153 : xmw 153 (1047, 80, 1045, 1046) = true := by decide +kernel
theorem xmw154 : xmw 154 (1051, 80, 1050, 62) = true := by decide +kernel
theorem xmw155 : xmw 155 (1054, 80, 1053, 0) = true := by decide +kernel
theorem xmw156 : xmw 156 (1058, 80, 1056, 1057) = true := by decide +kernel
theorem xmw157 : xmw 157 (1062, 80, 1061, 63) = true := by decide +kernel
theorem xmw158 : xmw 158 (1066, 80, 1064, 1065) = true := by decide +kernel
theorem xmw159 : xmw 159 (1070, 80, 1069, 64) = true := by decide +kernel
theorem xmw160 : xmw 160 (1074, 80, 1072, 1073) = true := by decide +kernel
theorem xmw161 : xmw 161 (1078, 80, 1077, 65) = true := by decide +kernel
theorem xmw162 : xmw 162 (1082, 80, 1081, 66) = true := by decide +kernel
theorem xmw163 : xmw 163 (1086, 80, 1084, 1085) = true := by decide +kernel
theorem xmw164 : xmw 164 (1090, 80, 1088, 1089) = true := by decide +kernel
theorem xmw165 : xmw 165 (1094, 80, 1093, 67) = true := by decide +kernel
theorem xmw166 : xmw 166 (1098, 80, 1097, 68) = true := by decide +kernel
theorem xmw167 : xmw 167 (1102, 80, 1100, 1101) = true := by decide +kernel
theorem xmw168 : xmw 168 (1107, 80, 1105, 1106) = true := by decide +kernel
theorem xmw169 : xmw 169 (1112, 80, 1111, 69) = true := by decide +kernel
theorem xmw170 : xmw 170 (1116, 80, 1115, 70) = true := by decide +kernel
set_option maxRecDepth 20000 in
theorem xcw0 : Cond.code (xyy 0) (xcd 0) (xnl 0) (xrt 0) ∈ xlg := List.mem_filter.mpr ⟨List.mem_of_getElem? (i := 89) rfl, rfl⟩
set_option maxRecDepth 20000 in
theorem xcw1 : Cond.code (xyy 1) (xcd 1) (xnl 1) (xrt 1) ∈ xlg := List.mem_filter.mpr ⟨List.mem_of_getElem? (i := 97) rfl, rfl⟩
set_option maxRecDepth 20000 in
theorem xcw2 : Cond.code (xyy 2) (xcd 2) (xnl 2) (xrt 2) ∈ xlg := List.mem_filter.mpr ⟨List.mem_of_getElem? (i := 103) rfl, rfl⟩
set_option maxRecDepth 20000 in
theorem xcw3 : Cond.code (xyy 3) (xcd 3) (xnl 3) (xrt 3) ∈ xlg := List.mem_filter.mpr ⟨List.mem_of_getElem? (i := 118) rfl, rfl⟩
set_option maxRecDepth 20000 in
theorem xcw4 : Cond.code (xyy 4) (xcd 4) (xnl 4) (xrt 4) ∈ xlg := List.mem_filter.mpr ⟨List.mem_of_getElem? (i := 196) rfl, rfl⟩
set_option maxRecDepth 20000 in
theorem xcw5 : Cond.code (xyy 5) (xcd 5) (xnl 5) (xrt 5) ∈ xlg := List.mem_filter.mpr ⟨List.mem_of_getElem? (i := 223) rfl, rfl⟩
set_option maxRecDepth 20000 in
theorem xcw6 : Cond.code (xyy 6) (xcd 6) (xnl 6) (xrt 6) ∈ xlg := List.mem_filter.mpr ⟨List.mem_of_getElem? (i := 230) rfl, rfl⟩
set_option maxRecDepth 20000 in
theorem xcw7 : Cond.code (xyy 7) (xcd 7) (xnl 7) (xrt 7) ∈ xlg := List.mem_filter.mpr ⟨List.mem_of_getElem? (i := 298) rfl, rfl⟩
set_option maxRecDepth 20000 in
theorem xcw8 : Cond.code (xyy 8) (xcd 8) (xnl 8) (xrt 8) ∈ xlg := List.mem_filter.mpr ⟨List.mem_of_getElem? (i := 777) rfl, rfl⟩
set_option maxRecDepth 20000 in
theorem xcw9 : Cond.code (xyy 9) (xcd 9) (xnl 9) (xrt 9) ∈ xlg := List.mem_filter.mpr ⟨List.mem_of_getElem? (i := 334) rfl, rfl⟩
set_option maxRecDepth 20000 in
theorem xcw10 : Cond.code (xyy 10) (xcd 10) (xnl 10) (xrt 10) ∈ xlg := List.mem_filter.mpr ⟨List.mem_of_getElem? (i := 338) rfl, rfl⟩
set_option maxRecDepth 20000 in
theorem xcw11 : Cond.code (xyy 11) (xcd 11) (xnl 11) (xrt 11) ∈ xlg := List.mem_filter.mpr ⟨List.mem_of_getElem? (i := 342) rfl, rfl⟩
set_option maxRecDepth 20000 in
theorem xcw12 : Cond.code (xyy 12) (xcd 12) (xnl 12) (xrt 12) ∈ xlg := List.mem_filter.mpr ⟨List.mem_of_getElem? (i := 346) rfl, rfl⟩
set_option maxRecDepth 20000 in
theorem xcw13 : Cond.code (xyy 13) (xcd 13) (xnl 13) (xrt 13) ∈ xlg := List.mem_filter.mpr ⟨List.mem_of_getElem? (i := 350) rfl, rfl⟩
set_option maxRecDepth 20000 in
theorem xcw14 : Cond.code (xyy 14) (xcd 14) (xnl 14) (xrt 14) ∈ xlg := List.mem_filter.mpr ⟨List.mem_of_getElem? (i := 353) rfl, rfl⟩
set_option maxRecDepth 20000 in
theorem xcw15 : Cond.code (xyy 15) (xcd 15) (xnl 15) (xrt 15) ∈ xlg := List.mem_filter.mpr ⟨List.mem_of_getElem? (i := 357) rfl, rfl⟩
set_option maxRecDepth 20000 in
theorem xcw16 : Cond.code (xyy 16) (xcd 16) (xnl 16) (xrt 16) ∈ xlg := List.mem_filter.mpr ⟨List.mem_of_getElem? (i := 361) rfl, rfl⟩
set_option maxRecDepth 20000 in
theorem xcw17 : Cond.code (xyy 17) (xcd 17) (xnl 17) (xrt 17) ∈ xlg := List.mem_filter.mpr ⟨List.mem_of_getElem? (i := 365) rfl, rfl⟩
set_option maxRecDepth 20000 in
theorem xcw18 : Cond.code (xyy 18) (xcd 18) (xnl 18) (xrt 18) ∈ xlg := List.mem_filter.mpr ⟨List.mem_of_getElem? (i := 369) rfl, rfl⟩
set_option maxRecDepth 20000 in
theorem xcw19 : Cond.code (xyy 19) (xcd 19) (xnl 19) (xrt 19) ∈ xlg := List.mem_filter.mpr ⟨List.mem_of_getElem? (i := 374) rfl, rfl⟩
set_option maxRecDepth 20000 in
theorem xcw20 : Cond.code (xyy 20) (xcd 20) (xnl 20) (xrt 20) ∈ xlg := List.mem_filter.mpr ⟨List.mem_of_getElem? (i := 378) rfl, rfl⟩
set_option maxRecDepth 20000 in
theorem xcw21 : Cond.code (xyy 21) (xcd 21) (xnl 21) (xrt 21) ∈ xlg := List.mem_filter.mpr ⟨List.mem_of_getElem? (i := 382) rfl, rfl⟩
set_option maxRecDepth 20000 in
theorem xcw22 : Cond.code (xyy 22) (xcd 22) (xnl 22) (xrt 22) ∈ xlg := List.mem_filter.mpr ⟨List.mem_of_getElem? (i := 386) rfl, rfl⟩
set_option maxRecDepth 20000 in
theorem xcw23 : Cond.code (xyy 23) (xcd 23) (xnl 23) (xrt 23) ∈ xlg := List.mem_filter.mpr ⟨List.mem_of_getElem? (i := 390) rfl, rfl⟩
set_option maxRecDepth 20000 in
theorem xcw24 : Cond.code (xyy 24) (xcd 24) (xnl 24) (xrt 24) ∈ xlg := List.mem_filter.mpr ⟨List.mem_of_getElem? (i := 394) rfl, rfl⟩
set_option maxRecDepth 20000 in
theorem xcw25 : Cond.code (xyy 25) (xcd 25) (xnl 25) (xrt 25) ∈ xlg := List.mem_filter.mpr ⟨List.mem_of_getElem? (i := 397) rfl, rfl⟩
set_option maxRecDepth 20000 in
theorem xcw26 : Cond.code (xyy 26) (xcd 26) (xnl 26) (xrt 26) ∈ xlg := List.mem_filter.mpr ⟨List.mem_of_getElem? (i := 401) rfl, rfl⟩
set_option maxRecDepth 20000 in
theorem xcw27 : Cond.code (xyy 27) (xcd 27) (xnl 27) (xrt 27) ∈ xlg := List.mem_filter.mpr ⟨List.mem_of_getElem? (i := 407) rfl, rfl⟩
set_option maxRecDepth 20000 in
theorem xcw28 : Cond.code (xyy 28) (xcd 28) (xnl 28) (xrt 28) ∈ xlg := List.mem_filter.mpr ⟨List.mem_of_getElem? (i := 411) rfl, rfl⟩
set_option maxRecDepth 20000 in
theorem xcw29 : Cond.code (xyy 29) (xcd 29) (xnl 29) (xrt 29) ∈ xlg := List.mem_filter.mpr ⟨List.mem_of_getElem? (i := 415) rfl, rfl⟩
set_option maxRecDepth 20000 in
theorem xcw30 : Cond.code (xyy 30) (xcd 30) (xnl 30) (xrt 30) ∈ xlg := List.mem_filter.mpr ⟨List.mem_of_getElem? (i := 419) rfl, rfl⟩
set_option maxRecDepth 20000 in
theorem xcw31 : Cond.code (xyy 31) (xcd 31) (xnl 31) (xrt 31) ∈ xlg := List.mem_filter.mpr ⟨List.mem_of_getElem? (i := 422) rfl, rfl⟩
set_option maxRecDepth 20000 in
theorem xcw32 : Cond.code (xyy 32) (xcd 32) (xnl 32) (xrt 32) ∈ xlg := List.mem_filter.mpr ⟨List.mem_of_getElem? (i := 426) rfl, rfl⟩
set_option maxRecDepth 20000 in
theorem xcw33 : Cond.code (xyy 33) (xcd 33) (xnl 33) (xrt 33) ∈ xlg := List.mem_filter.mpr ⟨List.mem_of_getElem? (i := 429) rfl, rfl⟩
set_option maxRecDepth 20000 in
theorem xcw34 : Cond.code (xyy 34) (xcd 34) (xnl 34) (xrt 34) ∈ xlg := List.mem_filter.mpr ⟨List.mem_of_getElem? (i := 432) rfl, rfl⟩
set_option maxRecDepth 20000 in
theorem xcw35 : Cond.code (xyy 35) (xcd 35) (xnl 35) (xrt 35) ∈ xlg := List.mem_filter.mpr ⟨List.mem_of_getElem? (i := 435) rfl, rfl⟩
set_option maxRecDepth 20000 in
theorem xcw36 : Cond.code (xyy 36) (xcd 36) (xnl 36) (xrt 36) ∈ xlg := List.mem_filter.mpr ⟨List.mem_of_getElem? (i := 440) rfl, rfl⟩
set_option maxRecDepth 20000 in
theorem xcw37 : Cond.code (xyy 37) (xcd 37) (xnl 37) (xrt 37) ∈ xlg := List.mem_filter.mpr ⟨List.mem_of_getElem? (i := 445) rfl, rfl⟩
set_option maxRecDepth 20000 in
theorem xcw38 : Cond.code (xyy 38) (xcd 38) (xnl 38) (xrt 38) ∈ xlg := List.mem_filter.mpr ⟨List.mem_of_getElem? (i := 449) rfl, rfl⟩
set_option maxRecDepth 20000 in
theorem xcw39 : Cond.code (xyy 39) (xcd 39) (xnl 39) (xrt 39) ∈ xlg := List.mem_filter.mpr ⟨List.mem_of_getElem? (i := 453) rfl, rfl⟩
set_option maxRecDepth 20000 in
theorem xcw40 : Cond.code (xyy 40) (xcd 40) (xnl 40) (xrt 40) ∈ xlg := List.mem_filter.mpr ⟨List.mem_of_getElem? (i := 457) rfl, rfl⟩
set_option maxRecDepth 20000 in
theorem xcw41 : Cond.code (xyy 41) (xcd 41) (xnl 41) (xrt 41) ∈ xlg := List.mem_filter.mpr ⟨List.mem_of_getElem? (i := 461) rfl, rfl⟩
set_option maxRecDepth 20000 in
theorem xcw42 : Cond.code (xyy 42) (xcd 42) (xnl 42) (xrt 42) ∈ xlg := List.mem_filter.mpr ⟨List.mem_of_getElem? (i := 466) rfl, rfl⟩
set_option maxRecDepth 20000 in
theorem xcw43 : Cond.code (xyy 43) (xcd 43) (xnl 43) (xrt 43) ∈ xlg := List.mem_filter.mpr ⟨List.mem_of_getElem? (i := 470) rfl, rfl⟩
set_option maxRecDepth 20000 in
theorem xcw44 : Cond.code (xyy 44) (xcd 44) (xnl 44) (xrt 44) ∈ xlg := List.mem_filter.mpr ⟨List.mem_of_getElem? (i := 474) rfl, rfl⟩
set_option maxRecDepth 20000 in
theorem xcw45 : Cond.code (xyy 45) (xcd 45) (xnl 45) (xrt 45) ∈ xlg := List.mem_filter.mpr ⟨List.mem_of_getElem? (i := 478) rfl, rfl⟩
set_option maxRecDepth 20000 in
theorem xcw46 : Cond.code (xyy 46) (xcd 46) (xnl 46) (xrt 46) ∈ xlg := List.mem_filter.mpr ⟨List.mem_of_getElem? (i := 482) rfl, rfl⟩
set_option maxRecDepth 20000 in
theorem xcw47 : Cond.code (xyy 47) (xcd 47) (xnl 47) (xrt 47) ∈ xlg := List.mem_filter.mpr ⟨List.mem_of_getElem? (i := 487) rfl, rfl⟩
set_option maxRecDepth 20000 in
theorem xcw48 : Cond.code (xyy 48) (xcd 48) (xnl 48) (xrt 48) ∈ xlg := List.mem_filter.mpr ⟨List.mem_of_getElem? (i := 491) rfl, rfl⟩
set_option maxRecDepth 20000 in
theorem xcw49 : Cond.code (xyy 49) (xcd 49) (xnl 49) (xrt 49) ∈ xlg := List.mem_filter.mpr ⟨List.mem_of_getElem? (i := 495) rfl, rfl⟩
set_option maxRecDepth 20000 in
theorem xcw50 : Cond.code (xyy 50) (xcd 50) (xnl 50) (xrt 50) ∈ xlg := List.mem_filter.mpr ⟨List.mem_of_getElem? (i := 499) rfl, rfl⟩
set_option maxRecDepth 20000 in
theorem xcw51 : Cond.code (xyy 51) (xcd 51) (xnl 51) (xrt 51) ∈ xlg := List.mem_filter.mpr ⟨List.mem_of_getElem? (i := 505) rfl, rfl⟩
set_option maxRecDepth 20000 in
theorem xcw52 : Cond.code (xyy 52) (xcd 52) (xnl 52) (xrt 52) ∈ xlg := List.mem_filter.mpr ⟨List.mem_of_getElem? (i := 509) rfl, rfl⟩
set_option maxRecDepth 20000 in
theorem xcw53 : Cond.code (xyy 53) (xcd 53) (xnl 53) (xrt 53) ∈ xlg := List.mem_filter.mpr ⟨List.mem_of_getElem? (i := 513) rfl, rfl⟩
set_option maxRecDepth 20000 in
theorem xcw54 : Cond.code (xyy 54) (xcd 54) (xnl 54) (xrt 54) ∈ xlg := List.mem_filter.mpr ⟨List.mem_of_getElem? (i := 517) rfl, rfl⟩
set_option maxRecDepth 20000 in
theorem xcw55 : Cond.code (xyy 55) (xcd 55) (xnl 55) (xrt 55) ∈ xlg := List.mem_filter.mpr ⟨List.mem_of_getElem? (i := 521) rfl, rfl⟩
set_option maxRecDepth 20000 in
theorem xcw56 : Cond.code (xyy 56) (xcd 56) (xnl 56) (xrt 56) ∈ xlg := List.mem_filter.mpr ⟨List.mem_of_getElem? (i := 525) rfl, rfl⟩
set_option maxRecDepth 20000 in
theorem xcw57 : Cond.code (xyy 57) (xcd 57) (xnl 57) (xrt 57) ∈ xlg := List.mem_filter.mpr ⟨List.mem_of_getElem? (i := 530) rfl, rfl⟩
set_option maxRecDepth 20000 in
theorem xcw58 : Cond.code (xyy 58) (xcd 58) (xnl 58) (xrt 58) ∈ xlg := List.mem_filter.mpr ⟨List.mem_of_getElem? (i := 535) rfl, rfl⟩
set_option maxRecDepth 20000 in
theorem xcw59 : Cond.code (xyy 59) (xcd 59) (xnl 59) (xrt 59) ∈ xlg := List.mem_filter.mpr ⟨List.mem_of_getElem? (i := 539) rfl, rfl⟩
set_option maxRecDepth 20000 in
theorem xcw60 : Cond.code (xyy 60) (xcd 60) (xnl 60) (xrt 60) ∈ xlg := List.mem_filter.mpr ⟨List.mem_of_getElem? (i := 543) rfl, rfl⟩
set_option maxRecDepth 20000 in
theorem xcw61 : Cond.code (xyy 61) (xcd 61) (xnl 61) (xrt 61) ∈ xlg := List.mem_filter.mpr ⟨List.mem_of_getElem? (i := 547) rfl, rfl⟩
set_option maxRecDepth 20000 in
theorem xcw62 : Cond.code (xyy 62) (xcd 62) (xnl 62) (xrt 62) ∈ xlg := List.mem_filter.mpr ⟨List.mem_of_getElem? (i := 552) rfl, rfl⟩
set_option maxRecDepth 20000 in
theorem xcw63 : Cond.code (xyy 63) (xcd 63) (xnl 63) (xrt 63) ∈ xlg := List.mem_filter.mpr ⟨List.mem_of_getElem? (i := 560) rfl, rfl⟩
set_option maxRecDepth 20000 in
theorem xcw64 : Cond.code (xyy 64) (xcd 64) (xnl 64) (xrt 64) ∈ xlg := List.mem_filter.mpr ⟨List.mem_of_getElem? (i := 564) rfl, rfl⟩
set_option maxRecDepth 20000 in
theorem xcw65 : Cond.code (xyy 65) (xcd 65) (xnl 65) (xrt 65) ∈ xlg := List.mem_filter.mpr ⟨List.mem_of_getElem? (i := 570) rfl, rfl⟩
set_option maxRecDepth 20000 in
theorem xcw66 : Cond.code (xyy 66) (xcd 66) (xnl 66) (xrt 66) ∈ xlg := List.mem_filter.mpr ⟨List.mem_of_getElem? (i := 574) rfl, rfl⟩
set_option maxRecDepth 20000 in
theorem xcw67 : Cond.code (xyy 67) (xcd 67) (xnl 67) (xrt 67) ∈ xlg := List.mem_filter.mpr ⟨List.mem_of_getElem? (i := 578) rfl, rfl⟩
set_option maxRecDepth 20000 in
theorem xcw68 : Cond.code (xyy 68) (xcd 68) (xnl 68) (xrt 68) ∈ xlg := List.mem_filter.mpr ⟨List.mem_of_getElem? (i := 582) rfl, rfl⟩
set_option maxRecDepth 20000 in
theorem xcw69 : Cond.code (xyy 69) (xcd 69) (xnl 69) (xrt 69) ∈ xlg := List.mem_filter.mpr ⟨List.mem_of_getElem? (i := 586) rfl, rfl⟩
set_option maxRecDepth 20000 in
theorem xcw70 : Cond.code (xyy 70) (xcd 70) (xnl 70) (xrt 70) ∈ xlg := List.mem_filter.mpr ⟨List.mem_of_getElem? (i := 590) rfl, rfl⟩
set_option maxRecDepth 20000 in
theorem xcw71 : Cond.code (xyy 71) (xcd 71) (xnl 71) (xrt 71) ∈ xlg := List.mem_filter.mpr ⟨List.mem_of_getElem? (i := 594) rfl, rfl⟩
set_option maxRecDepth 20000 in
theorem xcw72 : Cond.code (xyy 72) (xcd 72) (xnl 72) (xrt 72) ∈ xlg := List.mem_filter.mpr ⟨List.mem_of_getElem? (i := 598) rfl, rfl⟩
set_option maxRecDepth 20000 in
theorem xcw73 : Cond.code (xyy 73) (xcd 73) (xnl 73) (xrt 73) ∈ xlg := List.mem_filter.mpr ⟨List.mem_of_getElem? (i := 602) rfl, rfl⟩
set_option maxRecDepth 20000 in
theorem xcw74 : Cond.code (xyy 74) (xcd 74) (xnl 74) (xrt 74) ∈ xlg := List.mem_filter.mpr ⟨List.mem_of_getElem? (i := 605) rfl, rfl⟩
set_option maxRecDepth 20000 in
theorem xcw75 : Cond.code (xyy 75) (xcd 75) (xnl 75) (xrt 75) ∈ xlg := List.mem_filter.mpr ⟨List.mem_of_getElem? (i := 609) rfl, rfl⟩
set_option maxRecDepth 20000 in
theorem xcw76 : Cond.code (xyy 76) (xcd 76) (xnl 76) (xrt 76) ∈ xlg := List.mem_filter.mpr ⟨List.mem_of_getElem? (i := 613) rfl, rfl⟩
set_option maxRecDepth 20000 in
theorem xcw77 : Cond.code (xyy 77) (xcd 77) (xnl 77) (xrt 77) ∈ xlg := List.mem_filter.mpr ⟨List.mem_of_getElem? (i := 617) rfl, rfl⟩
set_option maxRecDepth 20000 in
theorem xcw78 : Cond.code (xyy 78) (xcd 78) (xnl 78) (xrt 78) ∈ xlg := List.mem_filter.mpr ⟨List.mem_of_getElem? (i := 621) rfl, rfl⟩
set_option maxRecDepth 20000 in
theorem xcw79 : Cond.code (xyy 79) (xcd 79) (xnl 79) (xrt 79) ∈ xlg := List.mem_filter.mpr ⟨List.mem_of_getElem? (i := 629) rfl, rfl⟩
set_option maxRecDepth 20000 in
theorem xcw80 : Cond.code (xyy 80) (xcd 80) (xnl 80) (xrt 80) ∈ xlg := List.mem_filter.mpr ⟨List.mem_of_getElem? (i := 634) rfl, rfl⟩
set_option maxRecDepth 20000 in
theorem xcw81 : Cond.code (xyy 81) (xcd 81) (xnl 81) (xrt 81) ∈ xlg := List.mem_filter.mpr ⟨List.mem_of_getElem? (i := 638) rfl, rfl⟩
set_option maxRecDepth 20000 in
theorem xcw82 : Cond.code (xyy 82) (xcd 82) (xnl 82) (xrt 82) ∈ xlg := List.mem_filter.mpr ⟨List.mem_of_getElem? (i := 642) rfl, rfl⟩
set_option maxRecDepth 20000 in
theorem xcw83 : Cond.code (xyy 83) (xcd 83) (xnl 83) (xrt 83) ∈ xlg := List.mem_filter.mpr ⟨List.mem_of_getElem? (i := 646) rfl, rfl⟩
set_option maxRecDepth 20000 in
theorem xcw84 : Cond.code (xyy 84) (xcd 84) (xnl 84) (xrt 84) ∈ xlg := List.mem_filter.mpr ⟨List.mem_of_getElem? (i := 650) rfl, rfl⟩
set_option maxRecDepth 20000 in
theorem xcw85 : Cond.code (xyy 85) (xcd 85) (xnl 85) (xrt 85) ∈ xlg := List.mem_filter.mpr ⟨List.mem_of_getElem? (i := 654) rfl, rfl⟩
set_option maxRecDepth 20000 in
theorem xcw86 : Cond.code (xyy 86) (xcd 86) (xnl 86) (xrt 86) ∈ xlg := List.mem_filter.mpr ⟨List.mem_of_getElem? (i := 658) rfl, rfl⟩
set_option maxRecDepth 20000 in
theorem xcw87 : Cond.code (xyy 87) (xcd 87) (xnl 87) (xrt 87) ∈ xlg := List.mem_filter.mpr ⟨List.mem_of_getElem? (i := 662) rfl, rfl⟩
set_option maxRecDepth 20000 in
theorem xcw88 : Cond.code (xyy 88) (xcd 88) (xnl 88) (xrt 88) ∈ xlg := List.mem_filter.mpr ⟨List.mem_of_getElem? (i := 667) rfl, rfl⟩
set_option maxRecDepth 20000 in
theorem xcw89 : Cond.code (xyy 89) (xcd 89) (xnl 89) (xrt 89) ∈ xlg := List.mem_filter.mpr ⟨List.mem_of_getElem? (i := 671) rfl, rfl⟩
set_option maxRecDepth 20000 in
theorem xcw90 : Cond.code (xyy 90) (xcd 90) (xnl 90) (xrt 90) ∈ xlg := List.mem_filter.mpr ⟨List.mem_of_getElem? (i := 675) rfl, rfl⟩
set_option maxRecDepth 20000 in
theorem xcw91 : Cond.code (xyy 91) (xcd 91) (xnl 91) (xrt 91) ∈ xlg := List.mem_filter.mpr ⟨List.mem_of_getElem? (i := 679) rfl, rfl⟩
set_option maxRecDepth 20000 in
theorem xcw92 : Cond.code (xyy 92) (xcd 92) (xnl 92) (xrt 92) ∈ xlg := List.mem_filter.mpr ⟨List.mem_of_getElem? (i := 684) rfl, rfl⟩
set_option maxRecDepth 20000 in
theorem xcw93 : Cond.code (xyy 93) (xcd 93) (xnl 93) (xrt 93) ∈ xlg := List.mem_filter.mpr ⟨List.mem_of_getElem? (i := 687) rfl, rfl⟩
set_option maxRecDepth 20000 in
theorem xcw94 : Cond.code (xyy 94) (xcd 94) (xnl 94) (xrt 94) ∈ xlg := List.mem_filter.mpr ⟨List.mem_of_getElem? (i := 690) rfl, rfl⟩
set_option maxRecDepth 20000 in
theorem xcw95 : Cond.code (xyy 95) (xcd 95) (xnl 95) (xrt 95) ∈ xlg := List.mem_filter.mpr ⟨List.mem_of_getElem? (i := 695) rfl, rfl⟩
set_option maxRecDepth 20000 in
theorem xcw96 : Cond.code (xyy 96) (xcd 96) (xnl 96) (xrt 96) ∈ xlg := List.mem_filter.mpr ⟨List.mem_of_getElem? (i := 699) rfl, rfl⟩
set_option maxRecDepth 20000 in
theorem xcw97 : Cond.code (xyy 97) (xcd 97) (xnl 97) (xrt 97) ∈ xlg := List.mem_filter.mpr ⟨List.mem_of_getElem? (i := 703) rfl, rfl⟩
set_option maxRecDepth 20000 in
theorem xcw98 : Cond.code (xyy 98) (xcd 98) (xnl 98) (xrt 98) ∈ xlg := List.mem_filter.mpr ⟨List.mem_of_getElem? (i := 707) rfl, rfl⟩
set_option maxRecDepth 20000 in
theorem xcw99 : Cond.code (xyy 99) (xcd 99) (xnl 99) (xrt 99) ∈ xlg := List.mem_filter.mpr ⟨List.mem_of_getElem? (i := 711) rfl, rfl⟩
set_option maxRecDepth 20000 in
theorem xcw100 : Cond.code (xyy 100) (xcd 100) (xnl 100) (xrt 100) ∈ xlg := List.mem_filter.mpr ⟨List.mem_of_getElem? (i := 715) rfl, rfl⟩
set_option maxRecDepth 20000 in
theorem xcw101 : Cond.code (xyy 101) (xcd 101) (xnl 101) (xrt 101) ∈ xlg := List.mem_filter.mpr ⟨List.mem_of_getElem? (i := 719) rfl, rfl⟩
set_option maxRecDepth 20000 in
theorem xcw102 : Cond.code (xyy 102) (xcd 102) (xnl 102) (xrt 102) ∈ xlg := List.mem_filter.mpr ⟨List.mem_of_getElem? (i := 722) rfl, rfl⟩
set_option maxRecDepth 20000 in
theorem xcw103 : Cond.code (xyy 103) (xcd 103) (xnl 103) (xrt 103) ∈ xlg := List.mem_filter.mpr ⟨List.mem_of_getElem? (i := 727) rfl, rfl⟩
set_option maxRecDepth 20000 in
theorem xcw104 : Cond.code (xyy 104) (xcd 104) (xnl 104) (xrt 104) ∈ xlg := List.mem_filter.mpr ⟨List.mem_of_getElem? (i := 731) rfl, rfl⟩
set_option maxRecDepth 20000 in
theorem xcw105 : Cond.code (xyy 105) (xcd 105) (xnl 105) (xrt 105) ∈ xlg := List.mem_filter.mpr ⟨List.mem_of_getElem? (i := 736) rfl, rfl⟩
set_option maxRecDepth 20000 in
theorem xcw106 : Cond.code (xyy 106) (xcd 106) (xnl 106) (xrt 106) ∈ xlg := List.mem_filter.mpr ⟨List.mem_of_getElem? (i := 740) rfl, rfl⟩
set_option maxRecDepth 20000 in
theorem xcw107 : Cond.code (xyy 107) (xcd 107) (xnl 107) (xrt 107) ∈ xlg := List.mem_filter.mpr ⟨List.mem_of_getElem? (i := 743) rfl, rfl⟩
set_option maxRecDepth 20000 in
theorem xcw108 : Cond.code (xyy 108) (xcd 108) (xnl 108) (xrt 108) ∈ xlg := List.mem_filter.mpr ⟨List.mem_of_getElem? (i := 750) rfl, rfl⟩
set_option maxRecDepth 20000 in
theorem xcw109 : Cond.code (xyy 109) (xcd 109) (xnl 109) (xrt 109) ∈ xlg := List.mem_filter.mpr ⟨List.mem_of_getElem? (i := 753) rfl, rfl⟩
set_option maxRecDepth 20000 in
theorem xcw110 : Cond.code (xyy 110) (xcd 110) (xnl 110) (xrt 110) ∈ xlg := List.mem_filter.mpr ⟨List.mem_of_getElem? (i := 760) rfl, rfl⟩
set_option maxRecDepth 20000 in
theorem xcw111 : Cond.code (xyy 111) (xcd 111) (xnl 111) (xrt 111) ∈ xlg := List.mem_filter.mpr ⟨List.mem_of_getElem? (i := 764) rfl, rfl⟩
set_option maxRecDepth 20000 in
theorem xcw112 : Cond.code (xyy 112) (xcd 112) (xnl 112) (xrt 112) ∈ xlg := List.mem_filter.mpr ⟨List.mem_of_getElem? (i := 768) rfl, rfl⟩
set_option maxRecDepth 20000 in
theorem xcw113 : Cond.code (xyy 113) (xcd 113) (xnl 113) (xrt 113) ∈ xlg := List.mem_filter.mpr ⟨List.mem_of_getElem? (i := 772) rfl, rfl⟩
set_option maxRecDepth 20000 in
theorem xcw114 : Cond.code (xyy 114) (xcd 114) (xnl 114) (xrt 114) ∈ xlg := List.mem_filter.mpr ⟨List.mem_of_getElem? (i := 891) rfl, rfl⟩
set_option maxRecDepth 20000 in
theorem xcw115 : Cond.code (xyy 115) (xcd 115) (xnl 115) (xrt 115) ∈ xlg := List.mem_filter.mpr ⟨List.mem_of_getElem? (i := 896) rfl, rfl⟩
set_option maxRecDepth 20000 in
theorem xcw116 : Cond.code (xyy 116) (xcd 116) (xnl 116) (xrt 116) ∈ xlg := List.mem_filter.mpr ⟨List.mem_of_getElem? (i := 900) rfl, rfl⟩
set_option maxRecDepth 20000 in
theorem xcw117 : Cond.code (xyy 117) (xcd 117) (xnl 117) (xrt 117) ∈ xlg := List.mem_filter.mpr ⟨List.mem_of_getElem? (i := 903) rfl, rfl⟩
set_option maxRecDepth 20000 in
theorem xcw118 : Cond.code (xyy 118) (xcd 118) (xnl 118) (xrt 118) ∈ xlg := List.mem_filter.mpr ⟨List.mem_of_getElem? (i := 907) rfl, rfl⟩
set_option maxRecDepth 20000 in
theorem xcw119 : Cond.code (xyy 119) (xcd 119) (xnl 119) (xrt 119) ∈ xlg := List.mem_filter.mpr ⟨List.mem_of_getElem? (i := 911) rfl, rfl⟩
set_option maxRecDepth 20000 in
theorem xcw120 : Cond.code (xyy 120) (xcd 120) (xnl 120) (xrt 120) ∈ xlg := List.mem_filter.mpr ⟨List.mem_of_getElem? (i := 915) rfl, rfl⟩
set_option maxRecDepth 20000 in
theorem xcw121 : Cond.code (xyy 121) (xcd 121) (xnl 121) (xrt 121) ∈ xlg := List.mem_filter.mpr ⟨List.mem_of_getElem? (i := 920) rfl, rfl⟩
set_option maxRecDepth 20000 in
theorem xcw122 : Cond.code (xyy 122) (xcd 122) (xnl 122) (xrt 122) ∈ xlg := List.mem_filter.mpr ⟨List.mem_of_getElem? (i := 924) rfl, rfl⟩
set_option maxRecDepth 20000 in
theorem xcw123 : Cond.code (xyy 123) (xcd 123) (xnl 123) (xrt 123) ∈ xlg := List.mem_filter.mpr ⟨List.mem_of_getElem? (i := 928) rfl, rfl⟩
set_option maxRecDepth 20000 in
theorem xcw124 : Cond.code (xyy 124) (xcd 124) (xnl 124) (xrt 124) ∈ xlg := List.mem_filter.mpr ⟨List.mem_of_getElem? (i := 932) rfl, rfl⟩
set_option maxRecDepth 20000 in
theorem xcw125 : Cond.code (xyy 125) (xcd 125) (xnl 125) (xrt 125) ∈ xlg := List.mem_filter.mpr ⟨List.mem_of_getElem? (i := 936) rfl, rfl⟩
set_option maxRecDepth 20000 in
theorem xcw126 : Cond.code (xyy 126) (xcd 126) (xnl 126) (xrt 126) ∈ xlg := List.mem_filter.mpr ⟨List.mem_of_getElem? (i := 940) rfl, rfl⟩
set_option maxRecDepth 20000 in
theorem xcw127 : Cond.code (xyy 127) (xcd 127) (xnl 127) (xrt 127) ∈ xlg := List.mem_filter.mpr ⟨List.mem_of_getElem? (i := 944) rfl, rfl⟩
set_option maxRecDepth 20000 in
theorem xcw128 : Cond.code (xyy 128) (xcd 128) (xnl 128) (xrt 128) ∈ xlg := List.mem_filter.mpr ⟨List.mem_of_getElem? (i := 947) rfl, rfl⟩
set_option maxRecDepth 20000 in
theorem xcw129 : Cond.code (xyy 129) (xcd 129) (xnl 129) (xrt 129) ∈ xlg := List.mem_filter.mpr ⟨List.mem_of_getElem? (i := 951) rfl, rfl⟩
set_option maxRecDepth 20000 in
theorem xcw130 : Cond.code (xyy 130) (xcd 130) (xnl 130) (xrt 130) ∈ xlg := List.mem_filter.mpr ⟨List.mem_of_getElem? (i := 955) rfl, rfl⟩
set_option maxRecDepth 20000 in
theorem xcw131 : Cond.code (xyy 131) (xcd 131) (xnl 131) (xrt 131) ∈ xlg := List.mem_filter.mpr ⟨List.mem_of_getElem? (i := 958) rfl, rfl⟩
set_option maxRecDepth 20000 in
theorem xcw132 : Cond.code (xyy 132) (xcd 132) (xnl 132) (xrt 132) ∈ xlg := List.mem_filter.mpr ⟨List.mem_of_getElem? (i := 962) rfl, rfl⟩
set_option maxRecDepth 20000 in
theorem xcw133 : Cond.code (xyy 133) (xcd 133) (xnl 133) (xrt 133) ∈ xlg := List.mem_filter.mpr ⟨List.mem_of_getElem? (i := 966) rfl, rfl⟩
set_option maxRecDepth 20000 in
theorem xcw134 : Cond.code (xyy 134) (xcd 134) (xnl 134) (xrt 134) ∈ xlg := List.mem_filter.mpr ⟨List.mem_of_getElem? (i := 970) rfl, rfl⟩
set_option maxRecDepth 20000 in
theorem xcw135 : Cond.code (xyy 135) (xcd 135) (xnl 135) (xrt 135) ∈ xlg := List.mem_filter.mpr ⟨List.mem_of_getElem? (i := 974) rfl, rfl⟩
set_option maxRecDepth 20000 in
theorem xcw136 : Cond.code (xyy 136) (xcd 136) (xnl 136) (xrt 136) ∈ xlg := List.mem_filter.mpr ⟨List.mem_of_getElem? (i := 978) rfl, rfl⟩
set_option maxRecDepth 20000 in
theorem xcw137 : Cond.code (xyy 137) (xcd 137) (xnl 137) (xrt 137) ∈ xlg := List.mem_filter.mpr ⟨List.mem_of_getElem? (i := 982) rfl, rfl⟩
set_option maxRecDepth 20000 in
theorem xcw138 : Cond.code (xyy 138) (xcd 138) (xnl 138) (xrt 138) ∈ xlg := List.mem_filter.mpr ⟨List.mem_of_getElem? (i := 986) rfl, rfl⟩
set_option maxRecDepth 20000 in
theorem xcw139 : Cond.code (xyy 139) (xcd 139) (xnl 139) (xrt 139) ∈ xlg := List.mem_filter.mpr ⟨List.mem_of_getElem? (i := 990) rfl, rfl⟩
set_option maxRecDepth 20000 in
theorem xcw140 : Cond.code (xyy 140) (xcd 140) (xnl 140) (xrt 140) ∈ xlg := List.mem_filter.mpr ⟨List.mem_of_getElem? (i := 994) rfl, rfl⟩
set_option maxRecDepth 20000 in
theorem xcw141 : Cond.code (xyy 141) (xcd 141) (xnl 141) (xrt 141) ∈ xlg := List.mem_filter.mpr ⟨List.mem_of_getElem? (i := 998) rfl, rfl⟩
set_option maxRecDepth 20000 in
theorem xcw142 : Cond.code (xyy 142) (xcd 142) (xnl 142) (xrt 142) ∈ xlg := List.mem_filter.mpr ⟨List.mem_of_getElem? (i := 1002) rfl, rfl⟩
set_option maxRecDepth 20000 in
theorem xcw143 : Cond.code (xyy 143) (xcd 143) (xnl 143) (xrt 143) ∈ xlg := List.mem_filter.mpr ⟨List.mem_of_getElem? (i := 1006) rfl, rfl⟩
set_option maxRecDepth 20000 in
theorem xcw144 : Cond.code (xyy 144) (xcd 144) (xnl 144) (xrt 144) ∈ xlg := List.mem_filter.mpr ⟨List.mem_of_getElem? (i := 1011) rfl, rfl⟩
set_option maxRecDepth 20000 in
theorem xcw145 : Cond.code (xyy 145) (xcd 145) (xnl 145) (xrt 145) ∈ xlg := List.mem_filter.mpr ⟨List.mem_of_getElem? (i := 1015) rfl, rfl⟩
set_option maxRecDepth 20000 in
theorem xcw146 : Cond.code (xyy 146) (xcd 146) (xnl 146) (xrt 146) ∈ xlg := List.mem_filter.mpr ⟨List.mem_of_getElem? (i := 1019) rfl, rfl⟩
set_option maxRecDepth 20000 in
theorem xcw147 : Cond.code (xyy 147) (xcd 147) (xnl 147) (xrt 147) ∈ xlg := List.mem_filter.mpr ⟨List.mem_of_getElem? (i := 1023) rfl, rfl⟩
set_option maxRecDepth 20000 in
theorem xcw148 : Cond.code (xyy 148) (xcd 148) (xnl 148) (xrt 148) ∈ xlg := List.mem_filter.mpr ⟨List.mem_of_getElem? (i := 1027) rfl, rfl⟩
set_option maxRecDepth 20000 in
theorem xcw149 : Cond.code (xyy 149) (xcd 149) (xnl 149) (xrt 149) ∈ xlg := List.mem_filter.mpr ⟨List.mem_of_getElem? (i := 1031) rfl, rfl⟩
set_option maxRecDepth 20000 in
theorem xcw150 : Cond.code (xyy 150) (xcd 150) (xnl 150) (xrt 150) ∈ xlg := List.mem_filter.mpr ⟨List.mem_of_getElem? (i := 1035) rfl, rfl⟩
set_option maxRecDepth 20000 in
theorem xcw151 : Cond.code (xyy 151) (xcd 151) (xnl 151) (xrt 151) ∈ xlg := List.mem_filter.mpr ⟨List.mem_of_getElem? (i := 1039) rfl, rfl⟩
set_option maxRecDepth 20000 in
theorem xcw152 : Cond.code (xyy 152) (xcd 152) (xnl 152) (xrt 152) ∈ xlg := List.mem_filter.mpr ⟨List.mem_of_getElem? (i := 1043) rfl, rfl⟩
set_option maxRecDepth 20000 in
theorem xcw153 : Cond.code (xyy 153) (xcd 153) (xnl 153) (xrt 153) ∈ xlg := List.mem_filter.mpr ⟨List.mem_of_getElem? (i := 1047) rfl, rfl⟩
set_option maxRecDepth 20000 in
theorem xcw154 : Cond.code (xyy 154) (xcd 154) (xnl 154) (xrt 154) ∈ xlg := List.mem_filter.mpr ⟨List.mem_of_getElem? (i := 1051) rfl, rfl⟩
set_option maxRecDepth 20000 in
theorem xcw155 : Cond.code (xyy 155) (xcd 155) (xnl 155) (xrt 155) ∈ xlg := List.mem_filter.mpr ⟨List.mem_of_getElem? (i := 1054) rfl, rfl⟩
set_option maxRecDepth 20000 in
theorem xcw156 : Cond.code (xyy 156) (xcd 156) (xnl 156) (xrt 156) ∈ xlg := List.mem_filter.mpr ⟨List.mem_of_getElem? (i := 1058) rfl, rfl⟩
set_option maxRecDepth 20000 in
theorem xcw157 : Cond.code (xyy 157) (xcd 157) (xnl 157) (xrt 157) ∈ xlg := List.mem_filter.mpr ⟨List.mem_of_getElem? (i := 1062) rfl, rfl⟩
set_option maxRecDepth 20000 in
theorem xcw158 : Cond.code (xyy 158) (xcd 158) (xnl 158) (xrt 158) ∈ xlg := List.mem_filter.mpr ⟨List.mem_of_getElem? (i := 1066) rfl, rfl⟩
set_option maxRecDepth 20000 in
theorem xcw159 : Cond.code (xyy 159) (xcd 159) (xnl 159) (xrt 159) ∈ xlg := List.mem_filter.mpr ⟨List.mem_of_getElem? (i := 1070) rfl, rfl⟩
set_option maxRecDepth 20000 in
theorem xcw160 : Cond.code (xyy 160) (xcd 160) (xnl 160) (xrt 160) ∈ xlg := List.mem_filter.mpr ⟨List.mem_of_getElem? (i := 1074) rfl, rfl⟩
set_option maxRecDepth 20000 in
theorem xcw161 : Cond.code (xyy 161) (xcd 161) (xnl 161) (xrt 161) ∈ xlg := List.mem_filter.mpr ⟨List.mem_of_getElem? (i := 1078) rfl, rfl⟩
set_option maxRecDepth 20000 in
theorem xcw162 : Cond.code (xyy 162) (xcd 162) (xnl 162) (xrt 162) ∈ xlg := List.mem_filter.mpr ⟨List.mem_of_getElem? (i := 1082) rfl, rfl⟩
set_option maxRecDepth 20000 in
theorem xcw163 : Cond.code (xyy 163) (xcd 163) (xnl 163) (xrt 163) ∈ xlg := List.mem_filter.mpr ⟨List.mem_of_getElem? (i := 1086) rfl, rfl⟩
set_option maxRecDepth 20000 in
theorem xcw164 : Cond.code (xyy 164) (xcd 164) (xnl 164) (xrt 164) ∈ xlg := List.mem_filter.mpr ⟨List.mem_of_getElem? (i := 1090) rfl, rfl⟩
set_option maxRecDepth 20000 in
theorem xcw165 : Cond.code (xyy 165) (xcd 165) (xnl 165) (xrt 165) ∈ xlg := List.mem_filter.mpr ⟨List.mem_of_getElem? (i := 1094) rfl, rfl⟩
set_option maxRecDepth 20000 in
theorem xcw166 : Cond.code (xyy 166) (xcd 166) (xnl 166) (xrt 166) ∈ xlg := List.mem_filter.mpr ⟨List.mem_of_getElem? (i := 1098) rfl, rfl⟩
set_option maxRecDepth 20000 in
theorem xcw167 : Cond.code (xyy 167) (xcd 167) (xnl 167) (xrt 167) ∈ xlg := List.mem_filter.mpr ⟨List.mem_of_getElem? (i := 1102) rfl, rfl⟩
set_option maxRecDepth 20000 in
theorem xcw168 : Cond.code (xyy 168) (xcd 168) (xnl 168) (xrt 168) ∈ xlg := List.mem_filter.mpr ⟨List.mem_of_getElem? (i := 1107) rfl, rfl⟩
set_option maxRecDepth 20000 in
theorem xcw169 : Cond.code (xyy 169) (xcd 169) (xnl 169) (xrt 169) ∈ xlg := List.mem_filter.mpr ⟨List.mem_of_getElem? (i := 1112) rfl, rfl⟩
set_option maxRecDepth 20000 in
theorem xcw170 : Cond.code (xyy 170) (xcd 170) (xnl 170) (xrt 170) ∈ xlg := List.mem_filter.mpr ⟨List.mem_of_getElem? (i := 1116) rfl, rfl⟩
theorem xrange : List.range 171 = [0, 1, 2, 3, 4, 5, 6, 7, 8, 9, 10, 11, 12, 13, 14, 15, 16, 17, 18, 19, 20, 21, 22, 23, 24, 25, 26, 27, 28, 29, 30, 31, 32, 33, 34, 35, 36, 37, 38, 39, 40, 41, 42, 43, 44, 45, 46, 47, 48, 49, 50, 51, 52, 53, 54, 55, 56, 57, 58, 59, 60, 61, 62, 63, 64, 65, 66, 67, 68, 69, 70, 71, 72, 73, 74, 75, 76, 77, 78, 79, 80, 81, 82, 83, 84, 85, 86, 87, 88, 89, 90, 91, 92, 93, 94, 95, 96, 97, 98, 99, 100, 101, 102, 103, 104, 105, 106, 107, 108, 109, 110, 111, 112, 113, 114, 115, 116, 117, 118, 119, 120, 121, 122, 123, 124, 125, 126, 127, 128, 129, 130, 131, 132, 133, 134, 135, 136, 137, 138, 139, 140, 141, 142, 143, 144, 145, 146, 147, 148, 149, 150, 151, 152, 153, 154, 155, 156, 157, 158, 159, 160, 161, 162, 163, 164, 165, 166, 167, 168, 169, 170] := by decide +kernel
theorem xcwc0 : ∀ a ∈ ([0, 1, 2, 3, 4, 5, 6, 7, 8, 9, 10, 11, 12, 13, 14, 15, 16, 17, 18, 19] : List Nat), Cond.code (xyy a) (xcd a) (xnl a) (xrt a) ∈ xlg := List.forall_mem_cons.mpr ⟨xcw0, List.forall_mem_cons.mpr ⟨xcw1, List.forall_mem_cons.mpr ⟨xcw2, List.forall_mem_cons.mpr ⟨xcw3, List.forall_mem_cons.mpr ⟨xcw4, List.forall_mem_cons.mpr ⟨xcw5, List.forall_mem_cons.mpr ⟨xcw6, List.forall_mem_cons.mpr ⟨xcw7, List.forall_mem_cons.mpr ⟨xcw8, List.forall_mem_cons.mpr ⟨xcw9, List.forall_mem_cons.mpr ⟨xcw10, List.forall_mem_cons.mpr ⟨xcw11, List.forall_mem_cons.mpr ⟨xcw12, List.forall_mem_cons.mpr ⟨xcw13, List.forall_mem_cons.mpr ⟨xcw14, List.forall_mem_cons.mpr ⟨xcw15, List.forall_mem_cons.mpr ⟨xcw16, List.forall_mem_cons.mpr ⟨xcw17, List.forall_mem_cons.mpr ⟨xcw18, List.forall_mem_cons.mpr ⟨xcw19, fun _ h => absurd h List.not_mem_nil⟩⟩⟩⟩⟩⟩⟩⟩⟩⟩⟩⟩⟩⟩⟩⟩⟩⟩⟩⟩
theorem xcwc1 : ∀ a ∈ ([20, 21, 22, 23, 24, 25, 26, 27, 28, 29, 30, 31, 32, 33, 34, 35, 36, 37, 38, 39] : List Nat), Cond.code (xyy a) (xcd a) (xnl a) (xrt a) ∈ xlg := List.forall_mem_cons.mpr ⟨xcw20, List.forall_mem_cons.mpr ⟨xcw21, List.forall_mem_cons.mpr ⟨xcw22, List.forall_mem_cons.mpr ⟨xcw23, List.forall_mem_cons.mpr ⟨xcw24, List.forall_mem_cons.mpr ⟨xcw25, List.forall_mem_cons.mpr ⟨xcw26, List.forall_mem_cons.mpr ⟨xcw27, List.forall_mem_cons.mpr ⟨xcw28, List.forall_mem_cons.mpr ⟨xcw29, List.forall_mem_cons.mpr ⟨xcw30, List.forall_mem_cons.mpr ⟨xcw31, List.forall_mem_cons.mpr ⟨xcw32, List.forall_mem_cons.mpr ⟨xcw33, List.forall_mem_cons.mpr ⟨xcw34, List.forall_mem_cons.mpr ⟨xcw35, List.forall_mem_cons.mpr ⟨xcw36, List.forall_mem_cons.mpr ⟨xcw37, List.forall_mem_cons.mpr ⟨xcw38, List.forall_mem_cons.mpr ⟨xcw39, fun _ h => absurd h List.not_mem_nil⟩⟩⟩⟩⟩⟩⟩⟩⟩⟩⟩⟩⟩⟩⟩⟩⟩⟩⟩⟩
theorem xcwc2 : ∀ a ∈ ([40, 41, 42, 43, 44, 45, 46, 47, 48, 49, 50, 51, 52, 53, 54, 55, 56, 57, 58, 59] : List Nat), Cond.code (xyy a) (xcd a) (xnl a) (xrt a) ∈ xlg := List.forall_mem_cons.mpr ⟨xcw40, List.forall_mem_cons.mpr ⟨xcw41, List.forall_mem_cons.mpr ⟨xcw42, List.forall_mem_cons.mpr ⟨xcw43, List.forall_mem_cons.mpr ⟨xcw44, List.forall_mem_cons.mpr ⟨xcw45, List.forall_mem_cons.mpr ⟨xcw46, List.forall_mem_cons.mpr ⟨xcw47, List.forall_mem_cons.mpr ⟨xcw48, List.forall_mem_cons.mpr ⟨xcw49, List.forall_mem_cons.mpr ⟨xcw50, List.forall_mem_cons.mpr ⟨xcw51, List.forall_mem_cons.mpr ⟨xcw52, List.forall_mem_cons.mpr ⟨xcw53, List.forall_mem_cons.mpr ⟨xcw54, List.forall_mem_cons.mpr ⟨xcw55, List.forall_mem_cons.mpr ⟨xcw56, List.forall_mem_cons.mpr ⟨xcw57, List.forall_mem_cons.mpr ⟨xcw58, List.forall_mem_cons.mpr ⟨xcw59, fun _ h => absurd h List.not_mem_nil⟩⟩⟩⟩⟩⟩⟩⟩⟩⟩⟩⟩⟩⟩⟩⟩⟩⟩⟩⟩
theorem xcwc3 : ∀ a ∈ ([60, 61, 62, 63, 64, 65, 66, 67, 68, 69, 70, 71, 72, 73, 74, 75, 76, 77, 78, 79] : List Nat), Cond.code (xyy a) (xcd a) (xnl a) (xrt a) ∈ xlg := List.forall_mem_cons.mpr ⟨xcw60, List.forall_mem_cons.mpr ⟨xcw61, List.forall_mem_cons.mpr ⟨xcw62, List.forall_mem_cons.mpr ⟨xcw63, List.forall_mem_cons.mpr ⟨xcw64, List.forall_mem_cons.mpr ⟨xcw65, List.forall_mem_cons.mpr ⟨xcw66, List.forall_mem_cons.mpr ⟨xcw67, List.forall_mem_cons.mpr ⟨xcw68, List.forall_mem_cons.mpr ⟨xcw69, List.forall_mem_cons.mpr ⟨xcw70, List.forall_mem_cons.mpr ⟨xcw71, List.forall_mem_cons.mpr ⟨xcw72, List.forall_mem_cons.mpr ⟨xcw73, List.forall_mem_cons.mpr ⟨xcw74, List.forall_mem_cons.mpr ⟨xcw75, List.forall_mem_cons.mpr ⟨xcw76, List.forall_mem_cons.mpr ⟨xcw77, List.forall_mem_cons.mpr ⟨xcw78, List.forall_mem_cons.mpr ⟨xcw79, fun _ h => absurd h List.not_mem_nil⟩⟩⟩⟩⟩⟩⟩⟩⟩⟩⟩⟩⟩⟩⟩⟩⟩⟩⟩⟩
theorem xcwc4 : ∀ a ∈ ([80, 81, 82, 83, 84, 85, 86, 87, 88, 89, 90, 91, 92, 93, 94, 95, 96, 97, 98, 99] : List Nat), Cond.code (xyy a) (xcd a) (xnl a) (xrt a) ∈ xlg := List.forall_mem_cons.mpr ⟨xcw80, List.forall_mem_cons.mpr ⟨xcw81, List.forall_mem_cons.mpr ⟨xcw82, List.forall_mem_cons.mpr ⟨xcw83, List.forall_mem_cons.mpr ⟨xcw84, List.forall_mem_cons.mpr ⟨xcw85, List.forall_mem_cons.mpr ⟨xcw86, List.forall_mem_cons.mpr ⟨xcw87, List.forall_mem_cons.mpr ⟨xcw88, List.forall_mem_cons.mpr ⟨xcw89, List.forall_mem_cons.mpr ⟨xcw90, List.forall_mem_cons.mpr ⟨xcw91, List.forall_mem_cons.mpr ⟨xcw92, List.forall_mem_cons.mpr ⟨xcw93, List.forall_mem_cons.mpr ⟨xcw94, List.forall_mem_cons.mpr ⟨xcw95, List.forall_mem_cons.mpr ⟨xcw96, List.forall_mem_cons.mpr ⟨xcw97, List.forall_mem_cons.mpr ⟨xcw98, List.forall_mem_cons.mpr ⟨xcw99, fun _ h => absurd h List.not_mem_nil⟩⟩⟩⟩⟩⟩⟩⟩⟩⟩⟩⟩⟩⟩⟩⟩⟩⟩⟩⟩
theorem xcwc5 : ∀ a ∈ ([100, 101, 102, 103, 104, 105, 106, 107, 108, 109, 110, 111, 112, 113, 114, 115, 116, 117, 118, 119] : List Nat), Cond.code (xyy a) (xcd a) (xnl a) (xrt a) ∈ xlg := List.forall_mem_cons.mpr ⟨xcw100, List.forall_mem_cons.mpr ⟨xcw101, List.forall_mem_cons.mpr ⟨xcw102, List.forall_mem_cons.mpr ⟨xcw103, List.forall_mem_cons.mpr ⟨xcw104, List.forall_mem_cons.mpr ⟨xcw105, List.forall_mem_cons.mpr ⟨xcw106, List.forall_mem_cons.mpr ⟨xcw107, List.forall_mem_cons.mpr ⟨xcw108, List.forall_mem_cons.mpr ⟨xcw109, List.forall_mem_cons.mpr ⟨xcw110, List.forall_mem_cons.mpr ⟨xcw111, List.forall_mem_cons.mpr ⟨xcw112, List.forall_mem_cons.mpr ⟨xcw113, List.forall_mem_cons.mpr ⟨xcw114, List.forall_mem_cons.mpr ⟨xcw115, List.forall_mem_cons.mpr ⟨xcw116, List.forall_mem_cons.mpr ⟨xcw117, List.forall_mem_cons.mpr ⟨xcw118, List.forall_mem_cons.mpr ⟨xcw119, fun _ h => absurd h List.not_mem_nil⟩⟩⟩⟩⟩⟩⟩⟩⟩⟩⟩⟩⟩⟩⟩⟩⟩⟩⟩⟩
theorem xcwc6 : ∀ a ∈ ([120, 121, 122, 123, 124, 125, 126, 127, 128, 129, 130, 131, 132, 133, 134, 135, 136, 137, 138, 139] : List Nat), Cond.code (xyy a) (xcd a) (xnl a) (xrt a) ∈ xlg := List.forall_mem_cons.mpr ⟨xcw120, List.forall_mem_cons.mpr ⟨xcw121, List.forall_mem_cons.mpr ⟨xcw122, List.forall_mem_cons.mpr ⟨xcw123, List.forall_mem_cons.mpr ⟨xcw124, List.forall_mem_cons.mpr ⟨xcw125, List.forall_mem_cons.mpr ⟨xcw126, List.forall_mem_cons.mpr ⟨xcw127, List.forall_mem_cons.mpr ⟨xcw128, List.forall_mem_cons.mpr ⟨xcw129, List.forall_mem_cons.mpr ⟨xcw130, List.forall_mem_cons.mpr ⟨xcw131, List.forall_mem_cons.mpr ⟨xcw132, List.forall_mem_cons.mpr ⟨xcw133, List.forall_mem_cons.mpr ⟨xcw134, List.forall_mem_cons.mpr ⟨xcw135, List.forall_mem_cons.mpr ⟨xcw136, List.forall_mem_cons.mpr ⟨xcw137, List.forall_mem_cons.mpr ⟨xcw138, List.forall_mem_cons.mpr ⟨xcw139, fun _ h => absurd h List.not_mem_nil⟩⟩⟩⟩⟩⟩⟩⟩⟩⟩⟩⟩⟩⟩⟩⟩⟩⟩⟩⟩
theorem xcwc7 : ∀ a ∈ ([140, 141, 142, 143, 144, 145, 146, 147, 148, 149, 150, 151, 152, 153, 154, 155, 156, 157, 158, 159] : List Nat), Cond.code (xyy a) (xcd a) (xnl a) (xrt a) ∈ xlg := List.forall_mem_cons.mpr ⟨xcw140, List.forall_mem_cons.mpr ⟨xcw141, List.forall_mem_cons.mpr ⟨xcw142, List.forall_mem_cons.mpr ⟨xcw143, List.forall_mem_cons.mpr ⟨xcw144, List.forall_mem_cons.mpr ⟨xcw145, List.forall_mem_cons.mpr ⟨xcw146, List.forall_mem_cons.mpr ⟨xcw147, List.forall_mem_cons.mpr ⟨xcw148, List.forall_mem_cons.mpr ⟨xcw149, List.forall_mem_cons.mpr ⟨xcw150, List.forall_mem_cons.mpr ⟨xcw151, List.forall_mem_cons.mpr ⟨xcw152, List.forall_mem_cons.mpr ⟨xcw153, List.forall_mem_cons.mpr ⟨xcw154, List.forall_mem_cons.mpr ⟨xcw155, List.forall_mem_cons.mpr ⟨xcw156, List.forall_mem_cons.mpr ⟨xcw157, List.forall_mem_cons.mpr ⟨xcw158, List.forall_mem_cons.mpr ⟨xcw159, fun _ h => absurd h List.not_mem_nil⟩⟩⟩⟩⟩⟩⟩⟩⟩⟩⟩⟩⟩⟩⟩⟩⟩⟩⟩⟩
theorem xcwc8 : ∀ a ∈ ([160, 161, 162, 163, 164, 165, 166, 167, 168, 169, 170] : List Nat), Cond.code (xyy a) (xcd a) (xnl a) (xrt a) ∈ xlg := List.forall_mem_cons.mpr ⟨xcw160, List.forall_mem_cons.mpr ⟨xcw161, List.forall_mem_cons.mpr ⟨xcw162, List.forall_mem_cons.mpr ⟨xcw163, List.forall_mem_cons.mpr ⟨xcw164, List.forall_mem_cons.mpr ⟨xcw165, List.forall_mem_cons.mpr ⟨xcw166, List.forall_mem_cons.mpr ⟨xcw167, List.forall_mem_cons.mpr ⟨xcw168, List.forall_mem_cons.mpr ⟨xcw169, List.forall_mem_cons.mpr ⟨xcw170, fun _ h => absurd h List.not_mem_nil⟩⟩⟩⟩⟩⟩⟩⟩⟩⟩⟩
theorem xmwc0 : ∀ a ∈ ([0, 1, 2, 3, 4, 5, 6, 7, 8, 9, 10, 11, 12, 13, 14, 15, 16, 17, 18, 19] : List Nat), ∃ q, xmw a q = true := List.forall_mem_cons.mpr ⟨⟨_, xmw0⟩, List.forall_mem_cons.mpr ⟨⟨_, xmw1⟩, List.forall_mem_cons.mpr ⟨⟨_, xmw2⟩, List.forall_mem_cons.mpr ⟨⟨_, xmw3⟩, List.forall_mem_cons.mpr ⟨⟨_, xmw4⟩, List.forall_mem_cons.mpr ⟨⟨_, xmw5⟩, List.forall_mem_cons.mpr ⟨⟨_, xmw6⟩, List.forall_mem_cons.mpr ⟨⟨_, xmw7⟩, List.forall_mem_cons.mpr ⟨⟨_, xmw8⟩, List.forall_mem_cons.mpr ⟨⟨_, xmw9⟩, List.forall_mem_cons.mpr ⟨⟨_, xmw10⟩, List.forall_mem_cons.mpr ⟨⟨_, xmw11⟩, List.forall_mem_cons.mpr ⟨⟨_, xmw12⟩, List.forall_mem_cons.mpr ⟨⟨_, xmw13⟩, List.forall_mem_cons.mpr ⟨⟨_, xmw14⟩, List.forall_mem_cons.mpr ⟨⟨_, xmw15⟩, List.forall_mem_cons.mpr ⟨⟨_, xmw16⟩, List.forall_mem_cons.mpr ⟨⟨_, xmw17⟩, List.forall_mem_cons.mpr ⟨⟨_, xmw18⟩, List.forall_mem_cons.mpr ⟨⟨_, xmw19⟩, fun _ h => absurd h List.not_mem_nil⟩⟩⟩⟩⟩⟩⟩⟩⟩⟩⟩⟩⟩⟩⟩⟩⟩⟩⟩⟩
theorem xmwc1 : ∀ a ∈ ([20, 21, 22, 23, 24, 25, 26, 27, 28, 29, 30, 31, 32, 33, 34, 35, 36, 37, 38, 39] : List Nat), ∃ q, xmw a q = true := List.forall_mem_cons.mpr ⟨⟨_, xmw20⟩, List.forall_mem_cons.mpr ⟨⟨_, xmw21⟩, List.forall_mem_cons.mpr ⟨⟨_, xmw22⟩, List.forall_mem_cons.mpr ⟨⟨_, xmw23⟩, List.forall_mem_cons.mpr ⟨⟨_, xmw24⟩, List.forall_mem_cons.mpr ⟨⟨_, xmw25⟩, List.forall_mem_cons.mpr ⟨⟨_, xmw26⟩, List.forall_mem_cons.mpr ⟨⟨_, xmw27⟩, List.forall_mem_cons.mpr ⟨⟨_, xmw28⟩, List.forall_mem_cons.mpr ⟨⟨_, xmw29⟩, List.forall_mem_cons.mpr ⟨⟨_, xmw30⟩, List.forall_mem_cons.mpr ⟨⟨_, xmw31⟩, List.forall_mem_cons.mpr ⟨⟨_, xmw32⟩, List.forall_mem_cons.mpr ⟨⟨_, xmw33⟩, List.forall_mem_cons.mpr ⟨⟨_, xmw34⟩, List.forall_mem_cons.mpr ⟨⟨_, xmw35⟩, List.forall_mem_cons.mpr ⟨⟨_, xmw36⟩, List.forall_mem_cons.mpr ⟨⟨_, xmw37⟩, List.forall_mem_cons.mpr ⟨⟨_, xmw38⟩, List.forall_mem_cons.mpr ⟨⟨_, xmw39⟩, fun _ h => absurd h List.not_mem_nil⟩⟩⟩⟩⟩⟩⟩⟩⟩⟩⟩⟩⟩⟩⟩⟩⟩⟩⟩⟩
theorem xmwc2 : ∀ a ∈ ([40, 41, 42, 43, 44, 45, 46, 47, 48, 49, 50, 51, 52, 53, 54, 55, 56, 57, 58, 59] : List Nat), ∃ q, xmw a q = true := List.forall_mem_cons.mpr ⟨⟨_, xmw40⟩, List.forall_mem_cons.mpr ⟨⟨_, xmw41⟩, List.forall_mem_cons.mpr ⟨⟨_, xmw42⟩, List.forall_mem_cons.mpr ⟨⟨_, xmw43⟩, List.forall_mem_cons.mpr ⟨⟨_, xmw44⟩, List.forall_mem_cons.mpr ⟨⟨_, xmw45⟩, List.forall_mem_cons.mpr ⟨⟨_, xmw46⟩, List.forall_mem_cons.mpr ⟨⟨_, xmw47⟩, List.forall_mem_cons.mpr ⟨⟨_, xmw48⟩, List.forall_mem_cons.mpr ⟨⟨_, xmw49⟩, List.forall_mem_cons.mpr ⟨⟨_, xmw50⟩, List.forall_mem_cons.mpr ⟨⟨_, xmw51⟩, List.forall_mem_cons.mpr ⟨⟨_, xmw52⟩, List.forall_mem_cons.mpr ⟨⟨_, xmw53⟩, List.forall_mem_cons.mpr ⟨⟨_, xmw54⟩, List.forall_mem_cons.mpr ⟨⟨_, xmw55⟩, List.forall_mem_cons.mpr ⟨⟨_, xmw56⟩, List.forall_mem_cons.mpr ⟨⟨_, xmw57⟩, List.forall_mem_cons.mpr ⟨⟨_, xmw58⟩, List.forall_mem_cons.mpr ⟨⟨_, xmw59⟩, fun _ h => absurd h List.not_mem_nil⟩⟩⟩⟩⟩⟩⟩⟩⟩⟩⟩⟩⟩⟩⟩⟩⟩⟩⟩⟩
theorem xmwc3 : ∀ a ∈ ([60, 61, 62, 63, 64, 65, 66, 67, 68, 69, 70, 71, 72, 73, 74, 75, 76, 77, 78, 79] : List Nat), ∃ q, xmw a q = true := List.forall_mem_cons.mpr ⟨⟨_, xmw60⟩, List.forall_mem_cons.mpr ⟨⟨_, xmw61⟩, List.forall_mem_cons.mpr ⟨⟨_, xmw62⟩, List.forall_mem_cons.mpr ⟨⟨_, xmw63⟩, List.forall_mem_cons.mpr ⟨⟨_, xmw64⟩, List.forall_mem_cons.mpr ⟨⟨_, xmw65⟩, List.forall_mem_cons.mpr ⟨⟨_, xmw66⟩, List.forall_mem_cons.mpr ⟨⟨_, xmw67⟩, List.forall_mem_cons.mpr ⟨⟨_, xmw68⟩, List.forall_mem_cons.mpr ⟨⟨_, xmw69⟩, List.forall_mem_cons.mpr ⟨⟨_, xmw70⟩, List.forall_mem_cons.mpr ⟨⟨_, xmw71⟩, List.forall_mem_cons.mpr ⟨⟨_, xmw72⟩, List.forall_mem_cons.mpr ⟨⟨_, xmw73⟩, List.forall_mem_cons.mpr ⟨⟨_, xmw74⟩, List.forall_mem_cons.mpr ⟨⟨_, xmw75⟩, List.forall_mem_cons.mpr ⟨⟨_, xmw76⟩, List.forall_mem_cons.mpr ⟨⟨_, xmw77⟩, List.forall_mem_cons.mpr ⟨⟨_, xmw78⟩, List.forall_mem_cons.mpr ⟨⟨_, xmw79⟩, fun _ h => absurd h List.not_mem_nil⟩⟩⟩⟩⟩⟩⟩⟩⟩⟩⟩⟩⟩⟩⟩⟩⟩⟩⟩⟩
theorem xmwc4 : ∀ a ∈ ([80, 81, 82, 83, 84, 85, 86, 87, 88, 89, 90, 91, 92, 93, 94, 95, 96, 97, 98, 99] : List Nat), ∃ q, xmw a q = true := List.forall_mem_cons.mpr ⟨⟨_, xmw80⟩, List.forall_mem_cons.mpr ⟨⟨_, xmw81⟩, List.forall_mem_cons.mpr ⟨⟨_, xmw82⟩, List.forall_mem_cons.mpr ⟨⟨_, xmw83⟩, List.forall_mem_cons.mpr ⟨⟨_, xmw84⟩, List.forall_mem_cons.mpr ⟨⟨_, xmw85⟩, List.forall_mem_cons.mpr ⟨⟨_, xmw86⟩, List.forall_mem_cons.mpr ⟨⟨_, xmw87⟩, List.forall_mem_cons.mpr ⟨⟨_, xmw88⟩, List.forall_mem_cons.mpr ⟨⟨_, xmw89⟩, List.forall_mem_cons.mpr ⟨⟨_, xmw90⟩, List.forall_mem_cons.mpr ⟨⟨_, xmw91⟩, List.forall_mem_cons.mpr ⟨⟨_, xmw92⟩, List.forall_mem_cons.mpr ⟨⟨_, xmw93⟩, List.forall_mem_cons.mpr ⟨⟨_, xmw94⟩, List.forall_mem_cons.mpr ⟨⟨_, xmw95⟩, List.forall_mem_cons.mpr ⟨⟨_, xmw96⟩, List.forall_mem_cons.mpr ⟨⟨_, xmw97⟩, List.forall_mem_cons.mpr ⟨⟨_, xmw98⟩, List.forall_mem_cons.mpr ⟨⟨_, xmw99⟩, fun _ h => absurd h List.not_mem_nil⟩⟩⟩⟩⟩⟩⟩⟩⟩⟩⟩⟩⟩⟩⟩⟩⟩⟩⟩⟩
theorem xmwc5 : ∀ a ∈ ([100, 101, 102, 103, 104, 105, 106, 107, 108, 109, 110, 111, 112, 113, 114, 115, 116, 117, 118, 119] : List Nat), ∃ q, xmw a q = true := List.forall_mem_cons.mpr ⟨⟨_, xmw100⟩, List.forall_mem_cons.mpr ⟨⟨_, xmw101⟩, List.forall_mem_cons.mpr ⟨⟨_, xmw102⟩, List.forall_mem_cons.mpr ⟨⟨_, xmw103⟩, List.forall_mem_cons.mpr ⟨⟨_, xmw104⟩, List.forall_mem_cons.mpr ⟨⟨_, xmw105⟩, List.forall_mem_cons.mpr ⟨⟨_, xmw106⟩, List.forall_mem_cons.mpr ⟨⟨_, xmw107⟩, List.forall_mem_cons.mpr ⟨⟨_, xmw108⟩, List.forall_mem_cons.mpr ⟨⟨_, xmw109⟩, List.forall_mem_cons.mpr ⟨⟨_, xmw110⟩, List.forall_mem_cons.mpr ⟨⟨_, xmw111⟩, List.forall_mem_cons.mpr ⟨⟨_, xmw112⟩, List.forall_mem_cons.mpr ⟨⟨_, xmw113⟩, List.forall_mem_cons.mpr ⟨⟨_, xmw114⟩, List.forall_mem_cons.mpr ⟨⟨_, xmw115⟩, List.forall_mem_cons.mpr ⟨⟨_, xmw116⟩, List.forall_mem_cons.mpr ⟨⟨_, xmw117⟩, List.forall_mem_cons.mpr ⟨⟨_, xmw118⟩, List.forall_mem_cons.mpr ⟨⟨_, xmw119⟩, fun _ h => absurd h List.not_mem_nil⟩⟩⟩⟩⟩⟩⟩⟩⟩⟩⟩⟩⟩⟩⟩⟩⟩⟩⟩⟩
theorem xmwc6 : ∀ a ∈ ([120, 121, 122, 123, 124, 125, 126, 127, 128, 129, 130, 131, 132, 133, 134, 135, 136, 137, 138, 139] : List Nat), ∃ q, xmw a q = true := List.forall_mem_cons.mpr ⟨⟨_, xmw120⟩, List.forall_mem_cons.mpr ⟨⟨_, xmw121⟩, List.forall_mem_cons.mpr ⟨⟨_, xmw122⟩, List.forall_mem_cons.mpr ⟨⟨_, xmw123⟩, List.forall_mem_cons.mpr ⟨⟨_, xmw124⟩, List.forall_mem_cons.mpr ⟨⟨_, xmw125⟩, List.forall_mem_cons.mpr ⟨⟨_, xmw126⟩, List.forall_mem_cons.mpr ⟨⟨_, xmw127⟩, List.forall_mem_cons.mpr ⟨⟨_, xmw128⟩, List.forall_mem_cons.mpr ⟨⟨_, xmw129⟩, List.forall_mem_cons.mpr ⟨⟨_, xmw130⟩, List.forall_mem_cons.mpr ⟨⟨_, xmw131⟩, List.forall_mem_cons.mpr ⟨⟨_, xmw132⟩, List.forall_mem_cons.mpr ⟨⟨_, xmw133⟩, List.forall_mem_cons.mpr ⟨⟨_, xmw134⟩, List.forall_mem_cons.mpr ⟨⟨_, xmw135⟩, List.forall_mem_cons.mpr ⟨⟨_, xmw136⟩, List.forall_mem_cons.mpr ⟨⟨_, xmw137⟩, List.forall_mem_cons.mpr ⟨⟨_, xmw138⟩, List.forall_mem_cons.mpr ⟨⟨_, xmw139⟩, fun _ h => absurd h List.not_mem_nil⟩⟩⟩⟩⟩⟩⟩⟩⟩⟩⟩⟩⟩⟩⟩⟩⟩⟩⟩⟩
theorem xmwc7 : ∀ a ∈ ([140, 141, 142, 143, 144, 145, 146, 147, 148, 149, 150, 151, 152, 153, 154, 155, 156, 157, 158, 159] : List Nat), ∃ q, xmw a q = true := List.forall_mem_cons.mpr ⟨⟨_, xmw140⟩, List.forall_mem_cons.mpr ⟨⟨_, xmw141⟩, List.forall_mem_cons.mpr ⟨⟨_, xmw142⟩, List.forall_mem_cons.mpr ⟨⟨_, xmw143⟩, List.forall_mem_cons.mpr ⟨⟨_, xmw144⟩, List.forall_mem_cons.mpr ⟨⟨_, xmw145⟩, List.forall_mem_cons.mpr ⟨⟨_, xmw146⟩, List.forall_mem_cons.mpr ⟨⟨_, xmw147⟩, List.forall_mem_cons.mpr ⟨⟨_, xmw148⟩, List.forall_mem_cons.mpr ⟨⟨_, xmw149⟩, List.forall_mem_cons.mpr ⟨⟨_, xmw150⟩, List.forall_mem_cons.mpr ⟨⟨_, xmw151⟩, List.forall_mem_cons.mpr ⟨⟨_, xmw152⟩, List.forall_mem_cons.mpr ⟨⟨_, xmw153⟩, List.forall_mem_cons.mpr ⟨⟨_, xmw154⟩, List.forall_mem_cons.mpr ⟨⟨_, xmw155⟩, List.forall_mem_cons.mpr ⟨⟨_, xmw156⟩, List.forall_mem_cons.mpr ⟨⟨_, xmw157⟩, List.forall_mem_cons.mpr ⟨⟨_, xmw158⟩, List.forall_mem_cons.mpr ⟨⟨_, xmw159⟩, fun _ h => absurd h List.not_mem_nil⟩⟩⟩⟩⟩⟩⟩⟩⟩⟩⟩⟩⟩⟩⟩⟩⟩⟩⟩⟩
theorem xmwc8 : ∀ a ∈ ([160, 161, 162, 163, 164, 165, 166, 167, 168, 169, 170] : List Nat), ∃ q, xmw a q = true := List.forall_mem_cons.mpr ⟨⟨_, xmw160⟩, List.forall_mem_cons.mpr ⟨⟨_, xmw161⟩, List.forall_mem_cons.mpr ⟨⟨_, xmw162⟩, List.forall_mem_cons.mpr ⟨⟨_, xmw163⟩, List.forall_mem_cons.mpr ⟨⟨_, xmw164⟩, List.forall_mem_cons.mpr ⟨⟨_, xmw165⟩, List.forall_mem_cons.mpr ⟨⟨_, xmw166⟩, List.forall_mem_cons.mpr ⟨⟨_, xmw167⟩, List.forall_mem_cons.mpr ⟨⟨_, xmw168⟩, List.forall_mem_cons.mpr ⟨⟨_, xmw169⟩, List.forall_mem_cons.mpr ⟨⟨_, xmw170⟩, fun _ h => absurd h List.not_mem_nil⟩⟩⟩⟩⟩⟩⟩⟩⟩⟩⟩
theorem xMTq {a : Nat} (h : a < 171) : ∃ q, xmw a q = true := by
  have hm : a ∈ List.range 171 := List.mem_range.mpr h
  rw [xrange] at hm
  have all : ∀ a ∈ (([0, 1, 2, 3, 4, 5, 6, 7, 8, 9, 10, 11, 12, 13, 14, 15, 16, 17, 18, 19] ++ ([20, 21, 22, 23, 24, 25, 26, 27, 28, 29, 30, 31, 32, 33, 34, 35, 36, 37, 38, 39] ++ ([40, 41, 42, 43, 44, 45, 46, 47, 48, 49, 50, 51, 52, 53, 54, 55, 56, 57, 58, 59] ++ ([60, 61, 62, 63, 64, 65, 66, 67, 68, 69, 70, 71, 72, 73, 74, 75, 76, 77, 78, 79] ++ ([80, 81, 82, 83, 84, 85, 86, 87, 88, 89, 90, 91, 92, 93, 94, 95, 96, 97, 98, 99] ++ ([100, 101, 102, 103, 104, 105, 106, 107, 108, 109, 110, 111, 112, 113, 114, 115, 116, 117, 118, 119] ++ ([120, 121, 122, 123, 124, 125, 126, 127, 128, 129, 130, 131, 132, 133, 134, 135, 136, 137, 138, 139] ++ ([140, 141, 142, 143, 144, 145, 146, 147, 148, 149, 150, 151, 152, 153, 154, 155, 156, 157, 158, 159] ++ [160, 161, 162, 163, 164, 165, 166, 167, 168, 169, 170])))))))) : List Nat), ∃ q, xmw a q = true := List.forall_mem_append.mpr ⟨xmwc0, List.forall_mem_append.mpr ⟨xmwc1, List.forall_mem_append.mpr ⟨xmwc2, List.forall_mem_append.mpr ⟨xmwc3, List.forall_mem_append.mpr ⟨xmwc4, List.forall_mem_append.mpr ⟨xmwc5, List.forall_mem_append.mpr ⟨xmwc6, List.forall_mem_append.mpr ⟨xmwc7, xmwc8⟩⟩⟩⟩⟩⟩⟩⟩
  exact all a hm
theorem xCW {a : Nat} (h : a < 171) : Cond.code (xyy a) (xcd a) (xnl a) (xrt a) ∈ xlg := by
  have hm : a ∈ List.range 171 := List.mem_range.mpr h
  rw [xrange] at hm
  have all : ∀ a ∈ (([0, 1, 2, 3, 4, 5, 6, 7, 8, 9, 10, 11, 12, 13, 14, 15, 16, 17, 18, 19] ++ ([20, 21, 22, 23, 24, 25, 26, 27, 28, 29, 30, 31, 32, 33, 34, 35, 36, 37, 38, 39] ++ ([40, 41, 42, 43, 44, 45, 46, 47, 48, 49, 50, 51, 52, 53, 54, 55, 56, 57, 58, 59] ++ ([60, 61, 62, 63, 64, 65, 66, 67, 68, 69, 70, 71, 72, 73, 74, 75, 76, 77, 78, 79] ++ ([80, 81, 82, 83, 84, 85, 86, 87, 88, 89, 90, 91, 92, 93, 94, 95, 96, 97, 98, 99] ++ ([100, 101, 102, 103, 104, 105, 106, 107, 108, 109, 110, 111, 112, 113, 114, 115, 116, 117, 118, 119] ++ ([120, 121, 122, 123, 124, 125, 126, 127, 128, 129, 130, 131, 132, 133, 134, 135, 136, 137, 138, 139] ++ ([140, 141, 142, 143, 144, 145, 146, 147, 148, 149, 150, 151, 152, 153, 154, 155, 156, 157, 158, 159] ++ [160, 161, 162, 163, 164, 165, 166, 167, 168, 169, 170])))))))) : List Nat), Cond.code (xyy a) (xcd a) (xnl a) (xrt a) ∈ xlg := List.forall_mem_append.mpr ⟨xcwc0, List.forall_mem_append.mpr ⟨xcwc1, List.forall_mem_append.mpr ⟨xcwc2, List.forall_mem_append.mpr ⟨xcwc3, List.forall_mem_append.mpr ⟨xcwc4, List.forall_mem_append.mpr ⟨xcwc5, List.forall_mem_append.mpr ⟨xcwc6, List.forall_mem_append.mpr ⟨xcwc7, xcwc8⟩⟩⟩⟩⟩⟩⟩⟩
  exact all a hm
theorem xMW {a : Nat} (h : a < 171) : xm_MW xyy xnm xV xcl xlg a := by
  obtain ⟨q, hk⟩ := xMTq h
  obtain ⟨h1, hk⟩ := xm_and hk
  obtain ⟨h2, hk⟩ := xm_and hk
  obtain ⟨h4, hk⟩ := xm_and hk
  obtain ⟨h5, hk⟩ := xm_and hk
  obtain ⟨h6, hk⟩ := xm_and hk
  obtain ⟨h7, hk⟩ := xm_and hk
  refine ⟨xm_dc h1, h2, xCW h, xm_at1_ok h4, ⟨xm_dc h5, xm_dc h6, xm_dc h7⟩, fun hs => ?_, fun hs => ?_, fun hs => ?_⟩
  · have hs : xsk a = 0 := hs
    rw [hs] at hk
    obtain ⟨g1, hk⟩ := xm_and hk
    obtain ⟨g2, g3⟩ := xm_and hk
    exact ⟨xm_at1_ok g1, xm_at1_ok g2, _, _, _, xcl_at (Nat.le_of_ble_eq_true g3)⟩
  · have hs : xsk a = 1 := hs
    rw [hs] at hk
    exact xm_at1_ok hk
  · have hs : xsk a = 2 := hs
    rw [hs] at hk
    obtain ⟨g1, hk⟩ := xm_and hk
    obtain ⟨g2, g3⟩ := xm_and hk
    exact ⟨xm_dc g1, xm_at1_ok g2, xm_dc g3⟩
theorem xMLW : ∀ o ix a, ((o, ix, a) ∈ xK.2.2.1 ∨ (o, ix, a) ∈ xK.2.2.2.1) → xm_MW xyy xnm xV xcl xlg a := by
  intro o ix a h
  rcases h with h | h
  · obtain ⟨i, hi⟩ := xm_fstmem h
    exact xMW (Nat.le_of_ble_eq_true (xm_and (List.all_eq_true.mp xML_ok _ hi)).1)
  · obtain ⟨i, hi⟩ := xm_fstmem h
    exact xMW (Nat.le_of_ble_eq_true (xm_and (List.all_eq_true.mp xMN_ok _ hi)).1)
theorem xLK : xm_LK xyy xnm xV xK xJ xcl xtyf xlg xNs "ModuleScanner$ClassFile" := by
  refine ⟨fun w h => (List.mem_filter.mp h).2, fun w h => (List.mem_filter.mp h).2, xm_at1_ok xAI_ok, xm_at1_ok xAL_ok, ?_, ⟨xT 6, xN 6, xcl_at (by decide)⟩, ?_, ?_, ?_, ?_, ?_, ⟨?_, xm_at1_ok xOI_ok, xm_at1_ok xOC_ok⟩, ?_, ?_, ⟨?_, xm_at1_ok xXS_ok, xm_at1_ok xXI_ok, xm_at1_ok xXC_ok⟩⟩
  · intro ci C T N h
    obtain ⟨hl, rfl, rfl, rfl⟩ := xcl_of h
    have hc := List.all_eq_true.mp xCF_ok ci (List.mem_range.mpr hl)
    obtain ⟨c1, c2⟩ := xm_and hc
    have c3 : ∀ k, k < xN ci → _ := fun k hk => List.all_eq_true.mp c2 k (List.mem_range.mpr hk)
    refine ⟨rfl, fun w hw => ?_, fun k hk => xm_dc (xm_and (c3 k hk)).1, fun a ha b hb hab => ?_, fun j hj => ?_, xm_dc c1, rfl⟩
    · obtain ⟨k, k1, k2⟩ := List.mem_map.mp hw
      have hk : k < xN ci := List.mem_range.mp k1
      have := xm_dc (List.all_eq_true.mp (List.all_eq_true.mp xLY_in ci (List.mem_range.mpr hl)) k (List.mem_range.mpr hk))
      obtain ⟨i, hi⟩ := xm_fstmem this
      rw [← k2]
      exact xm_at1_ok (List.all_eq_true.mp xLY_ok _ hi)
    · have z := (xm_and (xm_and (xm_and (c3 a ha)).2).2).2
      have z := List.all_eq_true.mp z b (List.mem_range.mpr hb)
      rcases xm_or z with z | z
      · exact absurd (xm_dc z) hab
      · exact xm_dc z
    · have z := (xm_and (c3 j hj)).2
      obtain ⟨z1, z2⟩ := xm_and z
      obtain ⟨z2, -⟩ := xm_and z2
      cases hkd : (xkd ci)[j]? with
      | none => rw [hkd] at z1; cases z1
      | some t =>
        rw [hkd] at z1
        refine ⟨t, hkd, xm_ktb_ok z1, rfl, fun hfin => ?_⟩
        rcases xm_or z2 with y | y
        · rw [hfin] at y; cases y
        · exact xm_dc y
  · intro o ix ci j h
    obtain ⟨i, hi⟩ := xm_fstmem h
    obtain ⟨h1, h2⟩ := xm_and (List.all_eq_true.mp xFL_ok _ hi)
    exact ⟨_, _, _, xcl_at (Nat.le_of_ble_eq_true h1), xm_at1_ok h2⟩
  · intro o ix ci j h
    exact absurd h List.not_mem_nil
  · intro o ix a h
    obtain ⟨i, hi⟩ := xm_fstmem h
    exact xm_at1_ok (xm_and (List.all_eq_true.mp xML_ok _ hi)).2
  · intro o ix a h
    obtain ⟨i, hi⟩ := xm_fstmem h
    exact ⟨_, xm_at1_ok (xm_and (List.all_eq_true.mp xMN_ok _ hi)).2⟩
  · intro o ix ci h
    obtain ⟨i, hi⟩ := xm_fstmem h
    obtain ⟨h1, h2⟩ := xm_and (List.all_eq_true.mp xCL_ok _ hi)
    obtain ⟨h2, h3⟩ := xm_and h2
    obtain ⟨h3, h4⟩ := xm_and h3
    exact ⟨_, _, _, xcl_at (Nat.le_of_ble_eq_true h1), xm_at1_ok h2, xm_at1_ok h3, xm_at1_ok h4⟩
  · intro o ix h
    obtain ⟨i, hi⟩ := xm_fstmem h
    exact xm_at1_ok (List.all_eq_true.mp xOL_ok _ hi)
  · intro o ix v h
    obtain ⟨i, hi⟩ := xm_fstmem h
    exact xm_at1_ok (List.all_eq_true.mp xKI_ok _ hi)
  · intro o ix v h
    obtain ⟨i, hi⟩ := xm_fstmem h
    exact xm_at1_ok (List.all_eq_true.mp xKL_ok _ hi)
  · intro o ix h
    obtain ⟨i, hi⟩ := xm_fstmem h
    exact xm_at1_ok (List.all_eq_true.mp xXL_ok _ hi)
theorem xm_cb {α : Type} {P : α → Prop} {c : Bool} {x y : α} (h1 : c = true → P x) (h2 : c = false → P y) : P (bif c then x else y) := by
  cases c with
  | true => exact h1 rfl
  | false => exact h2 rfl
def xP (a : Nat) (f : Nat → Option xm_E) : Prop := ∀ pc ee, f pc = some ee → xm_chk xV xK xJ a pc ee = true ∧ pc < 1000000 ∧ xm_MW xyy xnm xV xcl xlg a
theorem xP_none (a : Nat) : xP a (fun _ => none) := fun _ _ h => by cases h
theorem xP_at {a i : Nat} {t : Nat → Option xm_E} {N : Nat} (h : Nat.beq a i = true) (hi : i < 171) (hN : ∀ pc, N ≤ pc → t pc = none) (hk : xm_ckA xV xK xJ i t N = true) (hM : N < 1000000) : xP a t := by
  have := Nat.eq_of_beq_eq_true h
  subst this
  intro pc ee he
  obtain ⟨h1, h2⟩ := xm_ckT hN hk pc ee he
  exact ⟨h1, Nat.lt_trans h2 hM, xMW hi⟩
theorem xP_all (a : Nat) : xP a (xTb a) := by
  unfold xTb
  exact (xm_cb (P := xP a) (fun _ => (xm_cb (P := xP a) (fun _ => (xm_cb (P := xP a) (fun _ => (xm_cb (P := xP a) (fun _ => (xm_cb (P := xP a) (fun _ => (xm_cb (P := xP a) (fun _ => (xm_cb (P := xP a) (fun _ => (xm_cb (P := xP a) (fun _ => (xm_cb (P := xP a) (fun h => xP_at h (by decide) xcn170 xck170 (by decide)) (fun _ => xP_none a))) (fun _ => (xm_cb (P := xP a) (fun h => xP_at h (by decide) xcn169 xck169 (by decide)) (fun _ => xP_none a))))) (fun _ => (xm_cb (P := xP a) (fun h => xP_at h (by decide) xcn168 xck168 (by decide)) (fun _ => xP_none a))))) (fun _ => (xm_cb (P := xP a) (fun _ => (xm_cb (P := xP a) (fun _ => (xm_cb (P := xP a) (fun h => xP_at h (by decide) xcn167 xck167 (by decide)) (fun _ => xP_none a))) (fun _ => (xm_cb (P := xP a) (fun h => xP_at h (by decide) xcn166 xck166 (by decide)) (fun _ => xP_none a))))) (fun _ => (xm_cb (P := xP a) (fun h => xP_at h (by decide) xcn165 xck165 (by decide)) (fun _ => xP_none a))))))) (fun _ => (xm_cb (P := xP a) (fun _ => (xm_cb (P := xP a) (fun _ => (xm_cb (P := xP a) (fun _ => (xm_cb (P := xP a) (fun h => xP_at h (by decide) xcn164 xck164 (by decide)) (fun _ => xP_none a))) (fun _ => (xm_cb (P := xP a) (fun h => xP_at h (by decide) xcn163 xck163 (by decide)) (fun _ => xP_none a))))) (fun _ => (xm_cb (P := xP a) (fun h => xP_at h (by decide) xcn162 xck162 (by decide)) (fun _ => xP_none a))))) (fun _ => (xm_cb (P := xP a) (fun _ => (xm_cb (P := xP a) (fun h => xP_at h (by decide) xcn161 xck161 (by decide)) (fun _ => xP_none a))) (fun _ => (xm_cb (P := xP a) (fun h => xP_at h (by decide) xcn160 xck160 (by decide)) (fun _ => xP_none a))))))))) (fun _ => (xm_cb (P := xP a) (fun _ => (xm_cb (P := xP a) (fun _ => (xm_cb (P := xP a) (fun _ => (xm_cb (P := xP a) (fun _ => (xm_cb (P := xP a) (fun h => xP_at h (by decide) xcn159 xck159 (by decide)) (fun _ => xP_none a))) (fun _ => (xm_cb (P := xP a) (fun h => xP_at h (by decide) xcn158 xck158 (by decide)) (fun _ => xP_none a))))) (fun _ => (xm_cb (P := xP a) (fun h => xP_at h (by decide) xcn157 xck157 (by decide)) (fun _ => xP_none a))))) (fun _ => (xm_cb (P := xP a) (fun _ => (xm_cb (P := xP a) (fun _ => (xm_cb (P := xP a) (fun h => xP_at h (by decide) xcn156 xck156 (by decide)) (fun _ => xP_none a))) (fun _ => (xm_cb (P := xP a) (fun h => xP_at h (by decide) xcn155 xck155 (by decide)) (fun _ => xP_none a))))) (fun _ => (xm_cb (P := xP a) (fun h => xP_at h (by decide) xcn154 xck154 (by decide)) (fun _ => xP_none a))))))) (fun _ => (xm_cb (P := xP a) (fun _ => (xm_cb (P := xP a) (fun _ => (xm_cb (P := xP a) (fun _ => (xm_cb (P := xP a) (fun h => xP_at h (by decide) xcn153 xck153 (by decide)) (fun _ => xP_none a))) (fun _ => (xm_cb (P := xP a) (fun h => xP_at h (by decide) xcn152 xck152 (by decide)) (fun _ => xP_none a))))) (fun _ => (xm_cb (P := xP a) (fun h => xP_at h (by decide) xcn151 xck151 (by decide)) (fun _ => xP_none a))))) (fun _ => (xm_cb (P := xP a) (fun _ => (xm_cb (P := xP a) (fun h => xP_at h (by decide) xcn150 xck150 (by decide)) (fun _ => xP_none a))) (fun _ => (xm_cb (P := xP a) (fun h => xP_at h (by decide) xcn149 xck149 (by decide)) (fun _ => xP_none a))))))))))) (fun _ => (xm_cb (P := xP a) (fun _ => (xm_cb (P := xP a) (fun _ => (xm_cb (P := xP a) (fun _ => (xm_cb (P := xP a) (fun _ => (xm_cb (P := xP a) (fun _ => (xm_cb (P := xP a) (fun h => xP_at h (by decide) xcn148 xck148 (by decide)) (fun _ => xP_none a))) (fun _ => (xm_cb (P := xP a) (fun h => xP_at h (by decide) xcn147 xck147 (by decide)) (fun _ => xP_none a))))) (fun _ => (xm_cb (P := xP a) (fun h => xP_at h (by decide) xcn146 xck146 (by decide)) (fun _ => xP_none a))))) (fun _ => (xm_cb (P := xP a) (fun _ => (xm_cb (P := xP a) (fun _ => (xm_cb (P := xP a) (fun h => xP_at h (by decide) xcn145 xck145 (by decide)) (fun _ => xP_none a))) (fun _ => (xm_cb (P := xP a) (fun h => xP_at h (by decide) xcn144 xck144 (by decide)) (fun _ => xP_none a))))) (fun _ => (xm_cb (P := xP a) (fun h => xP_at h (by decide) xcn143 xck143 (by decide)) (fun _ => xP_none a))))))) (fun _ => (xm_cb (P := xP a) (fun _ => (xm_cb (P := xP a) (fun _ => (xm_cb (P := xP a) (fun _ => (xm_cb (P := xP a) (fun h => xP_at h (by decide) xcn142 xck142 (by decide)) (fun _ => xP_none a))) (fun _ => (xm_cb (P := xP a) (fun h => xP_at h (by decide) xcn141 xck141 (by decide)) (fun _ => xP_none a))))) (fun _ => (xm_cb (P := xP a) (fun h => xP_at h (by decide) xcn140 xck140 (by decide)) (fun _ => xP_none a))))) (fun _ => (xm_cb (P := xP a) (fun _ => (xm_cb (P := xP a) (fun h => xP_at h (by decide) xcn139 xck139 (by decide)) (fun _ => xP_none a))) (fun _ => (xm_cb (P := xP a) (fun h => xP_at h (by decide) xcn138 xck138 (by decide)) (fun _ => xP_none a))))))))) (fun _ => (xm_cb (P := xP a) (fun _ => (xm_cb (P := xP a) (fun _ => (xm_cb (P := xP a) (fun _ => (xm_cb (P := xP a) (fun _ => (xm_cb (P := xP a) (fun h => xP_at h (by decide) xcn137 xck137 (by decide)) (fun _ => xP_none a))) (fun _ => (xm_cb (P := xP a) (fun h => xP_at h (by decide) xcn136 xck136 (by decide)) (fun _ => xP_none a))))) (fun _ => (xm_cb (P := xP a) (fun h => xP_at h (by decide) xcn135 xck135 (by decide)) (fun _ => xP_none a))))) (fun _ => (xm_cb (P := xP a) (fun _ => (xm_cb (P := xP a) (fun h => xP_at h (by decide) xcn134 xck134 (by decide)) (fun _ => xP_none a))) (fun _ => (xm_cb (P := xP a) (fun h => xP_at h (by decide) xcn133 xck133 (by decide)) (fun _ => xP_none a))))))) (fun _ => (xm_cb (P := xP a) (fun _ => (xm_cb (P := xP a) (fun _ => (xm_cb (P := xP a) (fun _ => (xm_cb (P := xP a) (fun h => xP_at h (by decide) xcn132 xck132 (by decide)) (fun _ => xP_none a))) (fun _ => (xm_cb (P := xP a) (fun h => xP_at h (by decide) xcn131 xck131 (by decide)) (fun _ => xP_none a))))) (fun _ => (xm_cb (P := xP a) (fun h => xP_at h (by decide) xcn130 xck130 (by decide)) (fun _ => xP_none a))))) (fun _ => (xm_cb (P := xP a) (fun _ => (xm_cb (P := xP a) (fun h => xP_at h (by decide) xcn129 xck129 (by decide)) (fun _ => xP_none a))) (fun _ => (xm_cb (P := xP a) (fun h => xP_at h (by decide) xcn128 xck128 (by decide)) (fun _ => xP_none a))))))))))))) (fun _ => (xm_cb (P := xP a) (fun _ => (xm_cb (P := xP a) (fun _ => (xm_cb (P := xP a) (fun _ => (xm_cb (P := xP a) (fun _ => (xm_cb (P := xP a) (fun _ => (xm_cb (P := xP a) (fun _ => (xm_cb (P := xP a) (fun h => xP_at h (by decide) xcn127 xck127 (by decide)) (fun _ => xP_none a))) (fun _ => (xm_cb (P := xP a) (fun h => xP_at h (by decide) xcn126 xck126 (by decide)) (fun _ => xP_none a))))) (fun _ => (xm_cb (P := xP a) (fun h => xP_at h (by decide) xcn125 xck125 (by decide)) (fun _ => xP_none a))))) (fun _ => (xm_cb (P := xP a) (fun _ => (xm_cb (P := xP a) (fun _ => (xm_cb (P := xP a) (fun h => xP_at h (by decide) xcn124 xck124 (by decide)) (fun _ => xP_none a))) (fun _ => (xm_cb (P := xP a) (fun h => xP_at h (by decide) xcn123 xck123 (by decide)) (fun _ => xP_none a))))) (fun _ => (xm_cb (P := xP a) (fun h => xP_at h (by decide) xcn122 xck122 (by decide)) (fun _ => xP_none a))))))) (fun _ => (xm_cb (P := xP a) (fun _ => (xm_cb (P := xP a) (fun _ => (xm_cb (P := xP a) (fun _ => (xm_cb (P := xP a) (fun h => xP_at h (by decide) xcn121 xck121 (by decide)) (fun _ => xP_none a))) (fun _ => (xm_cb (P := xP a) (fun h => xP_at h (by decide) xcn120 xck120 (by decide)) (fun _ => xP_none a))))) (fun _ => (xm_cb (P := xP a) (fun h => xP_at h (by decide) xcn119 xck119 (by decide)) (fun _ => xP_none a))))) (fun _ => (xm_cb (P := xP a) (fun _ => (xm_cb (P := xP a) (fun h => xP_at h (by decide) xcn118 xck118 (by decide)) (fun _ => xP_none a))) (fun _ => (xm_cb (P := xP a) (fun h => xP_at h (by decide) xcn117 xck117 (by decide)) (fun _ => xP_none a))))))))) (fun _ => (xm_cb (P := xP a) (fun _ => (xm_cb (P := xP a) (fun _ => (xm_cb (P := xP a) (fun _ => (xm_cb (P := xP a) (fun _ => (xm_cb (P := xP a) (fun h => xP_at h (by decide) xcn116 xck116 (by decide)) (fun _ => xP_none a))) (fun _ => (xm_cb (P := xP a) (fun h => xP_at h (by decide) xcn115 xck115 (by decide)) (fun _ => xP_none a))))) (fun _ => (xm_cb (P := xP a) (fun h => xP_at h (by decide) xcn114 xck114 (by decide)) (fun _ => xP_none a))))) (fun _ => (xm_cb (P := xP a) (fun _ => (xm_cb (P := xP a) (fun _ => (xm_cb (P := xP a) (fun h => xP_at h (by decide) xcn113 xck113 (by decide)) (fun _ => xP_none a))) (fun _ => (xm_cb (P := xP a) (fun h => xP_at h (by decide) xcn112 xck112 (by decide)) (fun _ => xP_none a))))) (fun _ => (xm_cb (P := xP a) (fun h => xP_at h (by decide) xcn111 xck111 (by decide)) (fun _ => xP_none a))))))) (fun _ => (xm_cb (P := xP a) (fun _ => (xm_cb (P := xP a) (fun _ => (xm_cb (P := xP a) (fun _ => (xm_cb (P := xP a) (fun h => xP_at h (by decide) xcn110 xck110 (by decide)) (fun _ => xP_none a))) (fun _ => (xm_cb (P := xP a) (fun h => xP_at h (by decide) xcn109 xck109 (by decide)) (fun _ => xP_none a))))) (fun _ => (xm_cb (P := xP a) (fun h => xP_at h (by decide) xcn108 xck108 (by decide)) (fun _ => xP_none a))))) (fun _ => (xm_cb (P := xP a) (fun _ => (xm_cb (P := xP a) (fun h => xP_at h (by decide) xcn107 xck107 (by decide)) (fun _ => xP_none a))) (fun _ => (xm_cb (P := xP a) (fun h => xP_at h (by decide) xcn106 xck106 (by decide)) (fun _ => xP_none a))))))))))) (fun _ => (xm_cb (P := xP a) (fun _ => (xm_cb (P := xP a) (fun _ => (xm_cb (P := xP a) (fun _ => (xm_cb (P := xP a) (fun _ => (xm_cb (P := xP a) (fun _ => (xm_cb (P := xP a) (fun h => xP_at h (by decide) xcn105 xck105 (by decide)) (fun _ => xP_none a))) (fun _ => (xm_cb (P := xP a) (fun h => xP_at h (by decide) xcn104 xck104 (by decide)) (fun _ => xP_none a))))) (fun _ => (xm_cb (P := xP a) (fun h => xP_at h (by decide) xcn103 xck103 (by decide)) (fun _ => xP_none a))))) (fun _ => (xm_cb (P := xP a) (fun _ => (xm_cb (P := xP a) (fun _ => (xm_cb (P := xP a) (fun h => xP_at h (by decide) xcn102 xck102 (by decide)) (fun _ => xP_none a))) (fun _ => (xm_cb (P := xP a) (fun h => xP_at h (by decide) xcn101 xck101 (by decide)) (fun _ => xP_none a))))) (fun _ => (xm_cb (P := xP a) (fun h => xP_at h (by decide) xcn100 xck100 (by decide)) (fun _ => xP_none a))))))) (fun _ => (xm_cb (P := xP a) (fun _ => (xm_cb (P := xP a) (fun _ => (xm_cb (P := xP a) (fun _ => (xm_cb (P := xP a) (fun h => xP_at h (by decide) xcn99 xck99 (by decide)) (fun _ => xP_none a))) (fun _ => (xm_cb (P := xP a) (fun h => xP_at h (by decide) xcn98 xck98 (by decide)) (fun _ => xP_none a))))) (fun _ => (xm_cb (P := xP a) (fun h => xP_at h (by decide) xcn97 xck97 (by decide)) (fun _ => xP_none a))))) (fun _ => (xm_cb (P := xP a) (fun _ => (xm_cb (P := xP a) (fun h => xP_at h (by decide) xcn96 xck96 (by decide)) (fun _ => xP_none a))) (fun _ => (xm_cb (P := xP a) (fun h => xP_at h (by decide) xcn95 xck95 (by decide)) (fun _ => xP_none a))))))))) (fun _ => (xm_cb (P := xP a) (fun _ => (xm_cb (P := xP a) (fun _ => (xm_cb (P := xP a) (fun _ => (xm_cb (P := xP a) (fun _ => (xm_cb (P := xP a) (fun h => xP_at h (by decide) xcn94 xck94 (by decide)) (fun _ => xP_none a))) (fun _ => (xm_cb (P := xP a) (fun h => xP_at h (by decide) xcn93 xck93 (by decide)) (fun _ => xP_none a))))) (fun _ => (xm_cb (P := xP a) (fun h => xP_at h (by decide) xcn92 xck92 (by decide)) (fun _ => xP_none a))))) (fun _ => (xm_cb (P := xP a) (fun _ => (xm_cb (P := xP a) (fun h => xP_at h (by decide) xcn91 xck91 (by decide)) (fun _ => xP_none a))) (fun _ => (xm_cb (P := xP a) (fun h => xP_at h (by decide) xcn90 xck90 (by decide)) (fun _ => xP_none a))))))) (fun _ => (xm_cb (P := xP a) (fun _ => (xm_cb (P := xP a) (fun _ => (xm_cb (P := xP a) (fun _ => (xm_cb (P := xP a) (fun h => xP_at h (by decide) xcn89 xck89 (by decide)) (fun _ => xP_none a))) (fun _ => (xm_cb (P := xP a) (fun h => xP_at h (by decide) xcn88 xck88 (by decide)) (fun _ => xP_none a))))) (fun _ => (xm_cb (P := xP a) (fun h => xP_at h (by decide) xcn87 xck87 (by decide)) (fun _ => xP_none a))))) (fun _ => (xm_cb (P := xP a) (fun _ => (xm_cb (P := xP a) (fun h => xP_at h (by decide) xcn86 xck86 (by decide)) (fun _ => xP_none a))) (fun _ => (xm_cb (P := xP a) (fun h => xP_at h (by decide) xcn85 xck85 (by decide)) (fun _ => xP_none a))))))))))))))) (fun _ => (xm_cb (P := xP a) (fun _ => (xm_cb (P := xP a) (fun _ => (xm_cb (P := xP a) (fun _ => (xm_cb (P := xP a) (fun _ => (xm_cb (P := xP a) (fun _ => (xm_cb (P := xP a) (fun _ => (xm_cb (P := xP a) (fun _ => (xm_cb (P := xP a) (fun h => xP_at h (by decide) xcn84 xck84 (by decide)) (fun _ => xP_none a))) (fun _ => (xm_cb (P := xP a) (fun h => xP_at h (by decide) xcn83 xck83 (by decide)) (fun _ => xP_none a))))) (fun _ => (xm_cb (P := xP a) (fun h => xP_at h (by decide) xcn82 xck82 (by decide)) (fun _ => xP_none a))))) (fun _ => (xm_cb (P := xP a) (fun _ => (xm_cb (P := xP a) (fun _ => (xm_cb (P := xP a) (fun h => xP_at h (by decide) xcn81 xck81 (by decide)) (fun _ => xP_none a))) (fun _ => (xm_cb (P := xP a) (fun h => xP_at h (by decide) xcn80 xck80 (by decide)) (fun _ => xP_none a))))) (fun _ => (xm_cb (P := xP a) (fun h => xP_at h (by decide) xcn79 xck79 (by decide)) (fun _ => xP_none a))))))) (fun _ => (xm_cb (P := xP a) (fun _ => (xm_cb (P := xP a) (fun _ => (xm_cb (P := xP a) (fun _ => (xm_cb (P := xP a) (fun h => xP_at h (by decide) xcn78 xck78 (by decide)) (fun _ => xP_none a))) (fun _ => (xm_cb (P := xP a) (fun h => xP_at h (by decide) xcn77 xck77 (by decide)) (fun _ => xP_none a))))) (fun _ => (xm_cb (P := xP a) (fun h => xP_at h (by decide) xcn76 xck76 (by decide)) (fun _ => xP_none a))))) (fun _ => (xm_cb (P := xP a) (fun _ => (xm_cb (P := xP a) (fun h => xP_at h (by decide) xcn75 xck75 (by decide)) (fun _ => xP_none a))) (fun _ => (xm_cb (P := xP a) (fun h => xP_at h (by decide) xcn74 xck74 (by decide)) (fun _ => xP_none a))))))))) (fun _ => (xm_cb (P := xP a) (fun _ => (xm_cb (P := xP a) (fun _ => (xm_cb (P := xP a) (fun _ => (xm_cb (P := xP a) (fun _ => (xm_cb (P := xP a) (fun h => xP_at h (by decide) xcn73 xck73 (by decide)) (fun _ => xP_none a))) (fun _ => (xm_cb (P := xP a) (fun h => xP_at h (by decide) xcn72 xck72 (by decide)) (fun _ => xP_none a))))) (fun _ => (xm_cb (P := xP a) (fun h => xP_at h (by decide) xcn71 xck71 (by decide)) (fun _ => xP_none a))))) (fun _ => (xm_cb (P := xP a) (fun _ => (xm_cb (P := xP a) (fun _ => (xm_cb (P := xP a) (fun h => xP_at h (by decide) xcn70 xck70 (by decide)) (fun _ => xP_none a))) (fun _ => (xm_cb (P := xP a) (fun h => xP_at h (by decide) xcn69 xck69 (by decide)) (fun _ => xP_none a))))) (fun _ => (xm_cb (P := xP a) (fun h => xP_at h (by decide) xcn68 xck68 (by decide)) (fun _ => xP_none a))))))) (fun _ => (xm_cb (P := xP a) (fun _ => (xm_cb (P := xP a) (fun _ => (xm_cb (P := xP a) (fun _ => (xm_cb (P := xP a) (fun h => xP_at h (by decide) xcn67 xck67 (by decide)) (fun _ => xP_none a))) (fun _ => (xm_cb (P := xP a) (fun h => xP_at h (by decide) xcn66 xck66 (by decide)) (fun _ => xP_none a))))) (fun _ => (xm_cb (P := xP a) (fun h => xP_at h (by decide) xcn65 xck65 (by decide)) (fun _ => xP_none a))))) (fun _ => (xm_cb (P := xP a) (fun _ => (xm_cb (P := xP a) (fun h => xP_at h (by decide) xcn64 xck64 (by decide)) (fun _ => xP_none a))) (fun _ => (xm_cb (P := xP a) (fun h => xP_at h (by decide) xcn63 xck63 (by decide)) (fun _ => xP_none a))))))))))) (fun _ => (xm_cb (P := xP a) (fun _ => (xm_cb (P := xP a) (fun _ => (xm_cb (P := xP a) (fun _ => (xm_cb (P := xP a) (fun _ => (xm_cb (P := xP a) (fun _ => (xm_cb (P := xP a) (fun h => xP_at h (by decide) xcn62 xck62 (by decide)) (fun _ => xP_none a))) (fun _ => (xm_cb (P := xP a) (fun h => xP_at h (by decide) xcn61 xck61 (by decide)) (fun _ => xP_none a))))) (fun _ => (xm_cb (P := xP a) (fun h => xP_at h (by decide) xcn60 xck60 (by decide)) (fun _ => xP_none a))))) (fun _ => (xm_cb (P := xP a) (fun _ => (xm_cb (P := xP a) (fun _ => (xm_cb (P := xP a) (fun h => xP_at h (by decide) xcn59 xck59 (by decide)) (fun _ => xP_none a))) (fun _ => (xm_cb (P := xP a) (fun h => xP_at h (by decide) xcn58 xck58 (by decide)) (fun _ => xP_none a))))) (fun _ => (xm_cb (P := xP a) (fun h => xP_at h (by decide) xcn57 xck57 (by decide)) (fun _ => xP_none a))))))) (fun _ => (xm_cb (P := xP a) (fun _ => (xm_cb (P := xP a) (fun _ => (xm_cb (P := xP a) (fun _ => (xm_cb (P := xP a) (fun h => xP_at h (by decide) xcn56 xck56 (by decide)) (fun _ => xP_none a))) (fun _ => (xm_cb (P := xP a) (fun h => xP_at h (by decide) xcn55 xck55 (by decide)) (fun _ => xP_none a))))) (fun _ => (xm_cb (P := xP a) (fun h => xP_at h (by decide) xcn54 xck54 (by decide)) (fun _ => xP_none a))))) (fun _ => (xm_cb (P := xP a) (fun _ => (xm_cb (P := xP a) (fun h => xP_at h (by decide) xcn53 xck53 (by decide)) (fun _ => xP_none a))) (fun _ => (xm_cb (P := xP a) (fun h => xP_at h (by decide) xcn52 xck52 (by decide)) (fun _ => xP_none a))))))))) (fun _ => (xm_cb (P := xP a) (fun _ => (xm_cb (P := xP a) (fun _ => (xm_cb (P := xP a) (fun _ => (xm_cb (P := xP a) (fun _ => (xm_cb (P := xP a) (fun h => xP_at h (by decide) xcn51 xck51 (by decide)) (fun _ => xP_none a))) (fun _ => (xm_cb (P := xP a) (fun h => xP_at h (by decide) xcn50 xck50 (by decide)) (fun _ => xP_none a))))) (fun _ => (xm_cb (P := xP a) (fun h => xP_at h (by decide) xcn49 xck49 (by decide)) (fun _ => xP_none a))))) (fun _ => (xm_cb (P := xP a) (fun _ => (xm_cb (P := xP a) (fun h => xP_at h (by decide) xcn48 xck48 (by decide)) (fun _ => xP_none a))) (fun _ => (xm_cb (P := xP a) (fun h => xP_at h (by decide) xcn47 xck47 (by decide)) (fun _ => xP_none a))))))) (fun _ => (xm_cb (P := xP a) (fun _ => (xm_cb (P := xP a) (fun _ => (xm_cb (P := xP a) (fun _ => (xm_cb (P := xP a) (fun h => xP_at h (by decide) xcn46 xck46 (by decide)) (fun _ => xP_none a))) (fun _ => (xm_cb (P := xP a) (fun h => xP_at h (by decide) xcn45 xck45 (by decide)) (fun _ => xP_none a))))) (fun _ => (xm_cb (P := xP a) (fun h => xP_at h (by decide) xcn44 xck44 (by decide)) (fun _ => xP_none a))))) (fun _ => (xm_cb (P := xP a) (fun _ => (xm_cb (P := xP a) (fun h => xP_at h (by decide) xcn43 xck43 (by decide)) (fun _ => xP_none a))) (fun _ => (xm_cb (P := xP a) (fun h => xP_at h (by decide) xcn42 xck42 (by decide)) (fun _ => xP_none a))))))))))))) (fun _ => (xm_cb (P := xP a) (fun _ => (xm_cb (P := xP a) (fun _ => (xm_cb (P := xP a) (fun _ => (xm_cb (P := xP a) (fun _ => (xm_cb (P := xP a) (fun _ => (xm_cb (P := xP a) (fun _ => (xm_cb (P := xP a) (fun h => xP_at h (by decide) xcn41 xck41 (by decide)) (fun _ => xP_none a))) (fun _ => (xm_cb (P := xP a) (fun h => xP_at h (by decide) xcn40 xck40 (by decide)) (fun _ => xP_none a))))) (fun _ => (xm_cb (P := xP a) (fun h => xP_at h (by decide) xcn39 xck39 (by decide)) (fun _ => xP_none a))))) (fun _ => (xm_cb (P := xP a) (fun _ => (xm_cb (P := xP a) (fun _ => (xm_cb (P := xP a) (fun h => xP_at h (by decide) xcn38 xck38 (by decide)) (fun _ => xP_none a))) (fun _ => (xm_cb (P := xP a) (fun h => xP_at h (by decide) xcn37 xck37 (by decide)) (fun _ => xP_none a))))) (fun _ => (xm_cb (P := xP a) (fun h => xP_at h (by decide) xcn36 xck36 (by decide)) (fun _ => xP_none a))))))) (fun _ => (xm_cb (P := xP a) (fun _ => (xm_cb (P := xP a) (fun _ => (xm_cb (P := xP a) (fun _ => (xm_cb (P := xP a) (fun h => xP_at h (by decide) xcn35 xck35 (by decide)) (fun _ => xP_none a))) (fun _ => (xm_cb (P := xP a) (fun h => xP_at h (by decide) xcn34 xck34 (by decide)) (fun _ => xP_none a))))) (fun _ => (xm_cb (P := xP a) (fun h => xP_at h (by decide) xcn33 xck33 (by decide)) (fun _ => xP_none a))))) (fun _ => (xm_cb (P := xP a) (fun _ => (xm_cb (P := xP a) (fun h => xP_at h (by decide) xcn32 xck32 (by decide)) (fun _ => xP_none a))) (fun _ => (xm_cb (P := xP a) (fun h => xP_at h (by decide) xcn31 xck31 (by decide)) (fun _ => xP_none a))))))))) (fun _ => (xm_cb (P := xP a) (fun _ => (xm_cb (P := xP a) (fun _ => (xm_cb (P := xP a) (fun _ => (xm_cb (P := xP a) (fun _ => (xm_cb (P := xP a) (fun h => xP_at h (by decide) xcn30 xck30 (by decide)) (fun _ => xP_none a))) (fun _ => (xm_cb (P := xP a) (fun h => xP_at h (by decide) xcn29 xck29 (by decide)) (fun _ => xP_none a))))) (fun _ => (xm_cb (P := xP a) (fun h => xP_at h (by decide) xcn28 xck28 (by decide)) (fun _ => xP_none a))))) (fun _ => (xm_cb (P := xP a) (fun _ => (xm_cb (P := xP a) (fun h => xP_at h (by decide) xcn27 xck27 (by decide)) (fun _ => xP_none a))) (fun _ => (xm_cb (P := xP a) (fun h => xP_at h (by decide) xcn26 xck26 (by decide)) (fun _ => xP_none a))))))) (fun _ => (xm_cb (P := xP a) (fun _ => (xm_cb (P := xP a) (fun _ => (xm_cb (P := xP a) (fun _ => (xm_cb (P := xP a) (fun h => xP_at h (by decide) xcn25 xck25 (by decide)) (fun _ => xP_none a))) (fun _ => (xm_cb (P := xP a) (fun h => xP_at h (by decide) xcn24 xck24 (by decide)) (fun _ => xP_none a))))) (fun _ => (xm_cb (P := xP a) (fun h => xP_at h (by decide) xcn23 xck23 (by decide)) (fun _ => xP_none a))))) (fun _ => (xm_cb (P := xP a) (fun _ => (xm_cb (P := xP a) (fun h => xP_at h (by decide) xcn22 xck22 (by decide)) (fun _ => xP_none a))) (fun _ => (xm_cb (P := xP a) (fun h => xP_at h (by decide) xcn21 xck21 (by decide)) (fun _ => xP_none a))))))))))) (fun _ => (xm_cb (P := xP a) (fun _ => (xm_cb (P := xP a) (fun _ => (xm_cb (P := xP a) (fun _ => (xm_cb (P := xP a) (fun _ => (xm_cb (P := xP a) (fun _ => (xm_cb (P := xP a) (fun h => xP_at h (by decide) xcn20 xck20 (by decide)) (fun _ => xP_none a))) (fun _ => (xm_cb (P := xP a) (fun h => xP_at h (by decide) xcn19 xck19 (by decide)) (fun _ => xP_none a))))) (fun _ => (xm_cb (P := xP a) (fun h => xP_at h (by decide) xcn18 xck18 (by decide)) (fun _ => xP_none a))))) (fun _ => (xm_cb (P := xP a) (fun _ => (xm_cb (P := xP a) (fun _ => (xm_cb (P := xP a) (fun h => xP_at h (by decide) xcn17 xck17 (by decide)) (fun _ => xP_none a))) (fun _ => (xm_cb (P := xP a) (fun h => xP_at h (by decide) xcn16 xck16 (by decide)) (fun _ => xP_none a))))) (fun _ => (xm_cb (P := xP a) (fun h => xP_at h (by decide) xcn15 xck15 (by decide)) (fun _ => xP_none a))))))) (fun _ => (xm_cb (P := xP a) (fun _ => (xm_cb (P := xP a) (fun _ => (xm_cb (P := xP a) (fun _ => (xm_cb (P := xP a) (fun h => xP_at h (by decide) xcn14 xck14 (by decide)) (fun _ => xP_none a))) (fun _ => (xm_cb (P := xP a) (fun h => xP_at h (by decide) xcn13 xck13 (by decide)) (fun _ => xP_none a))))) (fun _ => (xm_cb (P := xP a) (fun h => xP_at h (by decide) xcn12 xck12 (by decide)) (fun _ => xP_none a))))) (fun _ => (xm_cb (P := xP a) (fun _ => (xm_cb (P := xP a) (fun h => xP_at h (by decide) xcn11 xck11 (by decide)) (fun _ => xP_none a))) (fun _ => (xm_cb (P := xP a) (fun h => xP_at h (by decide) xcn10 xck10 (by decide)) (fun _ => xP_none a))))))))) (fun _ => (xm_cb (P := xP a) (fun _ => (xm_cb (P := xP a) (fun _ => (xm_cb (P := xP a) (fun _ => (xm_cb (P := xP a) (fun _ => (xm_cb (P := xP a) (fun h => xP_at h (by decide) xcn9 xck9 (by decide)) (fun _ => xP_none a))) (fun _ => (xm_cb (P := xP a) (fun h => xP_at h (by decide) xcn8 xck8 (by decide)) (fun _ => xP_none a))))) (fun _ => (xm_cb (P := xP a) (fun h => xP_at h (by decide) xcn7 xck7 (by decide)) (fun _ => xP_none a))))) (fun _ => (xm_cb (P := xP a) (fun _ => (xm_cb (P := xP a) (fun h => xP_at h (by decide) xcn6 xck6 (by decide)) (fun _ => xP_none a))) (fun _ => (xm_cb (P := xP a) (fun h => xP_at h (by decide) xcn5 xck5 (by decide)) (fun _ => xP_none a))))))) (fun _ => (xm_cb (P := xP a) (fun _ => (xm_cb (P := xP a) (fun _ => (xm_cb (P := xP a) (fun _ => (xm_cb (P := xP a) (fun h => xP_at h (by decide) xcn4 xck4 (by decide)) (fun _ => xP_none a))) (fun _ => (xm_cb (P := xP a) (fun h => xP_at h (by decide) xcn3 xck3 (by decide)) (fun _ => xP_none a))))) (fun _ => (xm_cb (P := xP a) (fun h => xP_at h (by decide) xcn2 xck2 (by decide)) (fun _ => xP_none a))))) (fun _ => (xm_cb (P := xP a) (fun _ => (xm_cb (P := xP a) (fun h => xP_at h (by decide) xcn1 xck1 (by decide)) (fun _ => xP_none a))) (fun _ => (xm_cb (P := xP a) (fun h => xP_at h (by decide) xcn0 xck0 (by decide)) (fun _ => xP_none a))))))))))))))))
theorem xkd4 : ∀ (ci j n : Nat), (xkd ci)[j]? = some (n + 4) → False := by
  intro ci j n h
  have hb : ∀ ci, (xkd ci).all (fun t => Nat.blt t 4) = true := fun ci => by
    unfold xkd
    exact (xm_cb (P := fun l => List.all l (fun t => Nat.blt t 4) = true) (fun _ => (xm_cb (P := fun l => List.all l (fun t => Nat.blt t 4) = true) (fun _ => (xm_cb (P := fun l => List.all l (fun t => Nat.blt t 4) = true) (fun _ => (xm_cb (P := fun l => List.all l (fun t => Nat.blt t 4) = true) (fun _ => (xm_cb (P := fun l => List.all l (fun t => Nat.blt t 4) = true) (fun _ => rfl) (fun _ => rfl))) (fun _ => (xm_cb (P := fun l => List.all l (fun t => Nat.blt t 4) = true) (fun _ => rfl) (fun _ => rfl))))) (fun _ => (xm_cb (P := fun l => List.all l (fun t => Nat.blt t 4) = true) (fun _ => rfl) (fun _ => rfl))))) (fun _ => (xm_cb (P := fun l => List.all l (fun t => Nat.blt t 4) = true) (fun _ => (xm_cb (P := fun l => List.all l (fun t => Nat.blt t 4) = true) (fun _ => rfl) (fun _ => rfl))) (fun _ => (xm_cb (P := fun l => List.all l (fun t => Nat.blt t 4) = true) (fun _ => rfl) (fun _ => rfl))))))) (fun _ => (xm_cb (P := fun l => List.all l (fun t => Nat.blt t 4) = true) (fun _ => (xm_cb (P := fun l => List.all l (fun t => Nat.blt t 4) = true) (fun _ => (xm_cb (P := fun l => List.all l (fun t => Nat.blt t 4) = true) (fun _ => rfl) (fun _ => rfl))) (fun _ => (xm_cb (P := fun l => List.all l (fun t => Nat.blt t 4) = true) (fun _ => rfl) (fun _ => rfl))))) (fun _ => (xm_cb (P := fun l => List.all l (fun t => Nat.blt t 4) = true) (fun _ => (xm_cb (P := fun l => List.all l (fun t => Nat.blt t 4) = true) (fun _ => rfl) (fun _ => rfl))) (fun _ => (xm_cb (P := fun l => List.all l (fun t => Nat.blt t 4) = true) (fun _ => rfl) (fun _ => rfl))))))))
  have := List.all_eq_true.mp (hb ci) _ (List.mem_of_getElem? h)
  have h2 : n + 4 < 4 := Nat.le_of_ble_eq_true this
  omega
/-- what the machine of part 02 says of a method, the kit's machine does -/
theorem xsound {l : Launch} {b : Nat} {G : xm_G} {D : va_G} (hG : G.2.2.2 = xkd) {a : Nat} {av : List Value} {M : xm_M} {P : xm_R → Prop} (h : xm_Ev xz a av M P) : xm_Met l xz xyy xV xlg xNs "ModuleScanner$ClassFile" b G D xcl a av M P :=
  xm_sound xLK hG xMLW xkd4 rfl (fun a pc ee he => xP_all a pc ee he) h
