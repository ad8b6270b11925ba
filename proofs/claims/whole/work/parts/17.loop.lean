theorem z_row {α : Type} (k : Nat) (v : α) : xm_row (fun _ _ => v) k v = fun _ _ => v := xm_row_id (fun _ => rfl)
/-- the memory behind the makings -/
def xI0 : Nat → Nat → Int32 := pI (fun _ _ => 0) 48
def xL0 : Nat → Nat → Int64 := fun _ _ => 0
def xR0 : Nat → Nat → Nat := mr8 (xm_row (mr0 (xm_row (fun _ _ => 0) 0 0)) 45 0)
def xQ0 : Nat → Nat := fun j => xR0 18 j
theorem xSp68 : xSp 68 = xSH := by decide +kernel
theorem xm_w_ref {b : Nat} {G : xm_G} {sh : List (Nat × Nat)} {MI : Nat → Nat → Int32} {ML : Nat → Nat → Int64} {R R' : Nat → Nat → Nat} (h2 : ∀ k n, sh[k]? = some (2, n) → R k = R' k) (h3 : ∀ k t ci, sh[k]? = some (t + 3, ci) → ∀ j, (G.2.2.2 ci)[j]? = some 2 → R k j = R' k j) : xm_w b G (sh, MI, ML, R) = xm_w b G (sh, MI, ML, R') := by
  apply List.ext_getElem?
  intro k
  rw [xm_w_get, xm_w_get]
  show (sh[k]?).map _ = (sh[k]?).map _
  cases hk : sh[k]? with
  | none => rfl
  | some q =>
    obtain ⟨t, n⟩ := q
    simp only [Option.map_some]
    congr 2
    match t, hk with
    | 0, hk => rfl
    | 1, hk => rfl
    | 2, hk =>
      unfold xm_e
      dsimp only
      rw [h2 k n hk]
      rfl
    | t + 3, hk =>
      apply congrArg (fun z => (Sum.inr (n, z) : va_E))
      apply List.ext_getElem?
      intro j
      rw [List.getElem?_mapIdx, List.getElem?_mapIdx]
      cases hj : (G.2.2.2 n)[j]? with
      | none => rfl
      | some u =>
        simp only [Option.map_some]
        congr 1
        match u, hj with
        | 0, _ => rfl
        | 1, _ => rfl
        | 2, hj =>
          show va_rf (xm_q b (R k j)) = va_rf (xm_q b (R' k j))
          rw [h3 k t n hk j hj]
        | u + 3, _ => rfl
theorem xR0_ok : ((List.range 68).all fun k => (List.range 40).all fun j => match xSH[k]? with
  | some (t, ci) => decide (t < 3) || (!(decide ((xkd ci)[j]? = some 2)) || decide (xR0 k j = xmr xQ0 k j))
  | none => true) = true := by decide +kernel
theorem xkd_len : ∀ ci, (xkd ci).length ≤ 40 := fun ci => by
  unfold xkd
  exact (xm_cb (P := fun l => List.length l ≤ 40) (fun _ => (xm_cb (P := fun l => List.length l ≤ 40) (fun _ => (xm_cb (P := fun l => List.length l ≤ 40) (fun _ => (xm_cb (P := fun l => List.length l ≤ 40) (fun _ => (xm_cb (P := fun l => List.length l ≤ 40) (fun _ => by decide) (fun _ => by decide))) (fun _ => (xm_cb (P := fun l => List.length l ≤ 40) (fun _ => by decide) (fun _ => by decide))))) (fun _ => (xm_cb (P := fun l => List.length l ≤ 40) (fun _ => by decide) (fun _ => by decide))))) (fun _ => (xm_cb (P := fun l => List.length l ≤ 40) (fun _ => (xm_cb (P := fun l => List.length l ≤ 40) (fun _ => by decide) (fun _ => by decide))) (fun _ => (xm_cb (P := fun l => List.length l ≤ 40) (fun _ => by decide) (fun _ => by decide))))))) (fun _ => (xm_cb (P := fun l => List.length l ≤ 40) (fun _ => (xm_cb (P := fun l => List.length l ≤ 40) (fun _ => (xm_cb (P := fun l => List.length l ≤ 40) (fun _ => by decide) (fun _ => by decide))) (fun _ => (xm_cb (P := fun l => List.length l ≤ 40) (fun _ => by decide) (fun _ => by decide))))) (fun _ => (xm_cb (P := fun l => List.length l ≤ 40) (fun _ => (xm_cb (P := fun l => List.length l ≤ 40) (fun _ => by decide) (fun _ => by decide))) (fun _ => (xm_cb (P := fun l => List.length l ≤ 40) (fun _ => by decide) (fun _ => by decide))))))))
theorem xW0 (b : Nat) (cI cL cR : ClassId) : xm_w b (cI, cL, cR, xkd) (xSp 68, xI0, xL0, xR0) = xm_w b (cI, cL, cR, xkd) (xSH, xI0, xL0, xmr xQ0) := by
  rw [xSp68]
  refine xm_w_ref (fun k n h => ?_) (fun k t ci h j hj => ?_)
  · have hk : k = 18 := by
      have hl : k < 68 := (List.getElem?_eq_some_iff.mp h).1
      have := List.all_eq_true.mp (show ((List.range 68).all fun k => match xSH[k]? with
        | some (2, _) => decide (k = 18)
        | _ => true) = true by decide +kernel) k (List.mem_range.mpr hl)
      rw [h] at this
      exact xm_dc this
    subst hk
    rfl
  · have hl : k < 68 := (List.getElem?_eq_some_iff.mp h).1
    have hj2 : j < 40 := Nat.lt_of_lt_of_le (List.getElem?_eq_some_iff.mp hj).1 (xkd_len ci)
    have := List.all_eq_true.mp (List.all_eq_true.mp xR0_ok k (List.mem_range.mpr hl)) j (List.mem_range.mpr hj2)
    rw [h] at this
    rcases xm_or this with z | z
    · exact absurd (xm_dc z) (by omega)
    · rcases xm_or z with z | z
      · have hj' : (xkd ci)[j]? = some 2 := hj
        rw [hj'] at z
        cases z
      · exact xm_dc z
/-- the law's loop -/
theorem law_loop {p : Program} {l : Launch} {e : Env} {s : State} {m : MethodId} {below : List Frame} {meth : Method} {c : Code} {b0 L : Nat} {xs : Nat → Int32} {G : xm_G} {D : va_G} (C0 : xLC p s m meth c b0 L xs G D) (hL : L ≤ 2048) {Inv : (Nat → Nat → Int32) → (Nat → Nat → Int64) → (Nat → Nat) → Prop}
    (o0 : ∀ (n : Int32) (v : Int64), xOpI Inv 9 114 [.int n, .long v]) (o1 : xOpV Inv 11 115 []) (o2 : ∀ n : Int32, xOpI Inv 13 116 [.int n]) (o3 : ∀ n : Int32, xOpI Inv 81 145 [.int n]) (o4 : xOpI Inv 83 146 []) (o5 : ∀ n i : Int32, xOpI Inv 84 147 [.int n, .int i]) (o6 : ∀ n : Int32, xOpI Inv 87 149 [.int n]) (o7 : ∀ n i : Int32, xOpI Inv 88 151 [.int n, .int i])
    (o8 : ∀ n : Int32, xOpL Inv 90 152 [.int n, .int 0]) (o8' : ∀ n : Int32, xOpL Inv 90 152 [.int n, .int 1]) (o9 : ∀ n : Int32, xOpL Inv 91 153 [.int n]) (o10 : ∀ n : Int32, xOpI Inv 92 156 [.int n]) (o11 : ∀ n : Int32, xOpI Inv 95 158 [.int n]) (o12 : ∀ n : Int32, xOpI Inv 96 160 [.int n]) (o13 : ∀ n : Int32, xOpI Inv 98 163 [.int n]) (o14 : ∀ n i : Int32, xOpI Inv 100 164 [.int n, .int i]) (o15 : ∀ n : Int32, xOpL Inv 103 167 [.int n]) (o16 : ∀ n : Int32, xOpI Inv 105 168 [.int n]) :
    ∀ (d k : Nat), k + d = L → ∀ (MI : Nat → Nat → Int32) (ML : Nat → Nat → Int64) (Qf : Nat → Nat) (H : Heap) (locs : List Loc) (ls : Array Slot), Inv MI ML Qf → va_P D xcl (xm_w s.heap.size G (xSH, MI, ML, xmr Qf)) H → H.size = s.heap.size + 68 → va_S (fun q => s.heap.size ≤ q) s.heap H locs → lv_has ls 4 [(0, .ref b0), (1, .ref (s.heap.size + 0)), (2, .ref (s.heap.size + 45)), (3, .int (nI k))] → W p l e room_1 s m #[Value.ref b0] below meth c H locs 68 4200 (lw_Z below #[Value.ref b0] s) (F0 m 18 ls []) := by
  intro d
  induction d using Nat.strongRecOn with
  | ind d ih =>
    intro k hkd MI ML Qf H locs ls hI hP hz hS hl
    obtain ⟨hx, hb, hr, hml, hown, hts, hX, hbl, hlk, hgv⟩ := C0.1
    have hbA : ¬ (s.heap.size ≤ b0) := by omega
    refine lv_iload_n hx hb (xld (by decide) rfl) rfl (lv_at hl 3 rfl) ?_
    refine lv_aload_n hx hb (xld (by decide) rfl) rfl (lv_at hl 0 rfl) ?_
    refine va_slen hx hb hX hbl hbA hS (xld (by decide) rfl) ?_
    refine lv_iconst (v := 4) hx hb (xld (by decide) rfl) rfl ?_
    refine lv_isub hx hb (xld (by decide) rfl) ?_
    have e4 : (Int32.ofNat L - 4).toInt = (L : Int) - 4 := pk_sub_toInt (a := L) (b := 4) (by omega) (by omega)
    have ek : (nI k).toInt = (k : Int) := nI_toInt (by omega)
    refine lv_icmp_gt hx hb (xld (by decide) rfl) (tgt := 590) rfl (fun hgt => ?_) (fun hle => ?_)
    · refine lv_iconst (v := 1) hx hb (xld (by decide) rfl) rfl ?_
      refine va_forget hS.2.2 ?_
      refine W.widen (k := 600000) (n := 7302250) (by decide) (by decide) ?_
      exact lw_ret hx hb hr hlk (xld (by decide) rfl)
    · have hk4 : k + 4 ≤ L := by
        rw [Int32.lt_iff_toInt_lt, e4, ek] at hle
        omega
      refine lv_aload_n hx hb (xld (by decide) rfl) rfl (lv_at hl 0 rfl) ?_
      refine lv_iload_n hx hb (xld (by decide) rfl) rfl (lv_at hl 3 rfl) ?_
      refine va_sld hx hb hX hbl hbA hS (vp_in_nI (by omega) (by omega)) (xld (by decide) rfl) ?_
      refine lv_bipush (v := 31) hx hb (xld (by decide) rfl) rfl ?_
      refine lv_iand hx hb (xld (by decide) rfl) ?_
      refine lv_topi (fun op _ => ?_)
      -- behind the call
      have kk : ∀ (MI : Nat → Nat → Int32) (ML : Nat → Nat → Int64) (Qf : Nat → Nat) (H : Heap) (locs : List Loc), Inv MI ML Qf → va_P D xcl (xm_w s.heap.size G (xSH, MI, ML, xmr Qf)) H → H.size = s.heap.size + 68 → va_S (fun q => s.heap.size ≤ q) s.heap H locs → W p l e room_1 s m #[Value.ref b0] below meth c H locs 68 4200 (lw_Z below #[Value.ref b0] s) (F0 m 584 ls []) := by
        intro MI ML Qf H locs hI hP hz hS
        refine lv_iinc (k := 3) (v := nI (k + 4)) hx hb (xld (by decide) rfl) hl rfl (by rw [← nI_add]; rfl) (by decide) rfl (fun ls hl => ?_)
        have hl := lv_sub (l' := [(0, .ref b0), (1, .ref (s.heap.size + 0)), (2, .ref (s.heap.size + 45)), (3, .int (nI (k + 4)))]) hl [1, 2, 3, 0] rfl
        refine lv_goto hx hb (xld (by decide) rfl) (tgt := 18) rfl ?_
        exact ih (d - 4) (by omega) (k + 4) (by omega) MI ML Qf H locs ls hI hP hz hS hl
      by_cases hr0 : op.toInt < 0 ∨ 16 < op.toInt
      · exact lv_tableOut hx hb (xld (by decide) rfl) hr0 (tgt := 584) rfl (kk MI ML Qf H locs hI hP hz hS)
      · have hn : ∃ n : Nat, n < 17 ∧ op.toInt = (n : Int) := ⟨op.toInt.toNat, by omega, by omega⟩
        obtain ⟨n, hn1, hn2⟩ := hn
        have h1 : ¬ op.toInt < 0 := by omega
        have h2 : ¬ 16 < op.toInt := by omega
        match n, hn1, hn2 with
        | 0, _, hn2 => exact lv_tableIn (off := 84) (tgt := 116) hx hb (xld (by decide) rfl) h1 h2 (by rw [hn2]; rfl) rfl (lc0 C0 hL hk4 hI hP hz hS hl kk (o0 _ _))
        | 1, _, hn2 => exact lv_tableIn (off := 147) (tgt := 179) hx hb (xld (by decide) rfl) h1 h2 (by rw [hn2]; rfl) rfl (lc1 C0 hL hk4 hI hP hz hS hl kk o1)
        | 2, _, hn2 => exact lv_tableIn (off := 158) (tgt := 190) hx hb (xld (by decide) rfl) h1 h2 (by rw [hn2]; rfl) rfl (lc2 C0 hL hk4 hI hP hz hS hl kk (o2 _))
        | 3, _, hn2 => exact lv_tableIn (off := 181) (tgt := 213) hx hb (xld (by decide) rfl) h1 h2 (by rw [hn2]; rfl) rfl (lc3 C0 hL hk4 hI hP hz hS hl kk (o3 _))
        | 4, _, hn2 => exact lv_tableIn (off := 204) (tgt := 236) hx hb (xld (by decide) rfl) h1 h2 (by rw [hn2]; rfl) rfl (lc4 C0 hL hk4 hI hP hz hS hl kk o4)
        | 5, _, hn2 => exact lv_tableIn (off := 217) (tgt := 249) hx hb (xld (by decide) rfl) h1 h2 (by rw [hn2]; rfl) rfl (lc5 C0 hL hk4 hI hP hz hS hl kk (o5 _ _))
        | 6, _, hn2 => exact lv_tableIn (off := 250) (tgt := 282) hx hb (xld (by decide) rfl) h1 h2 (by rw [hn2]; rfl) rfl (lc6 C0 hL hk4 hI hP hz hS hl kk (o6 _))
        | 7, _, hn2 => exact lv_tableIn (off := 273) (tgt := 305) hx hb (xld (by decide) rfl) h1 h2 (by rw [hn2]; rfl) rfl (lc7 C0 hL hk4 hI hP hz hS hl kk (o7 _ _))
        | 8, _, hn2 => exact lv_tableIn (off := 306) (tgt := 338) hx hb (xld (by decide) rfl) h1 h2 (by rw [hn2]; rfl) rfl (lc8 C0 hL hk4 hI hP hz hS hl kk (o8 _) (o8' _))
        | 9, _, hn2 => exact lv_tableIn (off := 356) (tgt := 388) hx hb (xld (by decide) rfl) h1 h2 (by rw [hn2]; rfl) rfl (lc9 C0 hL hk4 hI hP hz hS hl kk (o9 _))
        | 10, _, hn2 => exact lv_tableIn (off := 380) (tgt := 412) hx hb (xld (by decide) rfl) h1 h2 (by rw [hn2]; rfl) rfl (lc10 C0 hL hk4 hI hP hz hS hl kk (o10 _))
        | 11, _, hn2 => exact lv_tableIn (off := 403) (tgt := 435) hx hb (xld (by decide) rfl) h1 h2 (by rw [hn2]; rfl) rfl (lc11 C0 hL hk4 hI hP hz hS hl kk (o11 _))
        | 12, _, hn2 => exact lv_tableIn (off := 426) (tgt := 458) hx hb (xld (by decide) rfl) h1 h2 (by rw [hn2]; rfl) rfl (lc12 C0 hL hk4 hI hP hz hS hl kk (o12 _))
        | 13, _, hn2 => exact lv_tableIn (off := 449) (tgt := 481) hx hb (xld (by decide) rfl) h1 h2 (by rw [hn2]; rfl) rfl (lc13 C0 hL hk4 hI hP hz hS hl kk (o13 _))
        | 14, _, hn2 => exact lv_tableIn (off := 472) (tgt := 504) hx hb (xld (by decide) rfl) h1 h2 (by rw [hn2]; rfl) rfl (lc14 C0 hL hk4 hI hP hz hS hl kk (o14 _ _))
        | 15, _, hn2 => exact lv_tableIn (off := 505) (tgt := 537) hx hb (xld (by decide) rfl) h1 h2 (by rw [hn2]; rfl) rfl (lc15 C0 hL hk4 hI hP hz hS hl kk (o15 _))
        | 16, _, hn2 => exact lv_tableIn (off := 529) (tgt := 561) hx hb (xld (by decide) rfl) h1 h2 (by rw [hn2]; rfl) rfl (lc16 C0 hL hk4 hI hP hz hS hl kk (o16 _))
        | n + 17, hn1, _ => exact absurd hn1 (by omega)
