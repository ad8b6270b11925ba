def xINi : List (Nat × Nat) := [(0, 86), (1, 94), (2, 100), (3, 115), (4, 193), (5, 220), (6, 227), (7, 295), (8, 774)]
theorem xIN_ok : xINi.all (fun q => xm_at1 goodWord q.2 (.instantiable (xnm q.1) (xN q.1))) = true := by decide +kernel
theorem xIN_in : (List.range 9).all (fun a => decide (a ∈ xINi.map Prod.fst)) = true := by decide +kernel
theorem xAO_in : Cond.arrayOver (.object xCF) ∈ lw_tbl := List.mem_of_getElem? (i := 226) (by decide +kernel)
theorem xl_tys {s : State} {args : Array Value} (hts : ∀ w ∈ lw_tbl, w.before args s = true) : ∃ (G : xm_G) (D : va_G), G.2.2.2 = xkd ∧ va_K D xcl (xm_tys G xCF) s ∧ xm_N xNs xCF s ∧ ∃ cI cL cR, G = (cI, cL, cR, xkd) := by
  have hD : ∀ ci, ∃ (cC : ClassId) (iS : Nat → Nat), ci < 9 → u_Kn s (xnm ci) (xT ci) (xN ci) cC iS := by
    intro ci
    by_cases h : ci < 9
    · obtain ⟨-, -, -, -, hcls, -⟩ := xLK
      obtain ⟨g1, g2, -⟩ := hcls _ _ _ _ (xcl_at h)
      obtain ⟨i, hi⟩ := xm_fstmem (xm_dc (List.all_eq_true.mp xIN_in ci (List.mem_range.mpr h)))
      obtain ⟨cC, iS, hk⟩ := u_known (ws := lw_tbl) hts (fun w hw => xl_lg (g2 w hw)) (hts _ (xl_lg (xm_at1_ok (List.all_eq_true.mp xIN_ok _ hi))))
      exact ⟨cC, iS, fun _ => hk⟩
    · exact ⟨0, fun _ => 0, fun h' => absurd h' h⟩
  obtain ⟨cI, kI, pI, a1, a2, a3⟩ := Cond.arrayClass_spec (hts _ (xl_lg (xm_at1_ok xAI_ok)))
  obtain ⟨cL, kL, pL, b1, b2, b3⟩ := Cond.arrayClass_spec (hts _ (xl_lg (xm_at1_ok xAL_ok)))
  obtain ⟨pR, cR, kR, c1, c2, c3, c4, c5⟩ := Cond.arrayOver_spec (hts _ xAO_in)
  refine ⟨(cI, cL, cR, xkd), (fun ci => Classical.choose (hD ci), fun ci => Classical.choose (Classical.choose_spec (hD ci))), rfl, ⟨fun ci q hq => ?_, fun k q hk => ?_⟩, ⟨fun w hw => ?_, hts _ xAO_in⟩, cI, cL, cR, rfl⟩
  · obtain ⟨C, T, N⟩ := q
    obtain ⟨hl, rfl, rfl, rfl⟩ := xcl_of hq
    exact Classical.choose_spec (Classical.choose_spec (hD ci)) hl
  · match k, hk with
    | 0, hk => cases hk; exact ⟨fun n z => ⟨fun k h => (by cases h), kI, a2, pI, a3⟩, a1⟩
    | 1, hk => cases hk; exact ⟨fun n z => ⟨fun k h => (by cases h), kL, b2, pL, b3⟩, b1⟩
    | 2, hk => cases hk; exact ⟨fun n z => ⟨fun k h => (by cases h), kR, c3, pR, c4⟩, kR, pR, c3, c4, c1, c5⟩
    | k + 3, hk => cases hk
  · have h1 := hts w (List.mem_filter.mp hw).1
    have h2 : xm_isN w = true := (List.mem_filter.mp hw).2
    refine va_Nw.of ?_ h1
    cases w <;> first | rfl | cases h2
set_option maxRecDepth 8000 in
theorem law_start {p : Program} {e : Env} {s : State} {m : MethodId} {below : List Frame} {meth : Method} {c : Code} (l : Launch) {b L : Nat} {xs : Nat → Int32} (hL : L ≤ 2048) (C0 : lw_At p s m meth c b L xs) {Inv : (Nat → Nat → Int32) → (Nat → Nat → Int64) → (Nat → Nat) → Prop} (i0 : Inv xI0 xL0 xQ0)
    (o0 : ∀ (n : Int32) (v : Int64), xOpI Inv 9 114 [.int n, .long v]) (o1 : xOpV Inv 11 115 []) (o2 : ∀ n : Int32, xOpI Inv 13 116 [.int n]) (o3 : ∀ n : Int32, xOpI Inv 81 145 [.int n]) (o4 : xOpI Inv 83 146 []) (o5 : ∀ n i : Int32, xOpI Inv 84 147 [.int n, .int i]) (o6 : ∀ n : Int32, xOpI Inv 87 149 [.int n]) (o7 : ∀ n i : Int32, xOpI Inv 88 151 [.int n, .int i])
    (o8 : ∀ n : Int32, xOpL Inv 90 152 [.int n, .int 0]) (o8' : ∀ n : Int32, xOpL Inv 90 152 [.int n, .int 1]) (o9 : ∀ n : Int32, xOpL Inv 91 153 [.int n]) (o10 : ∀ n : Int32, xOpI Inv 92 156 [.int n]) (o11 : ∀ n : Int32, xOpI Inv 95 158 [.int n]) (o12 : ∀ n : Int32, xOpI Inv 96 160 [.int n]) (o13 : ∀ n : Int32, xOpI Inv 98 163 [.int n]) (o14 : ∀ n i : Int32, xOpI Inv 100 164 [.int n, .int i]) (o15 : ∀ n : Int32, xOpL Inv 103 167 [.int n]) (o16 : ∀ n : Int32, xOpI Inv 105 168 [.int n]) : W p l e room_1 s m #[Value.ref b] below meth c s.heap [] 0 0 (lw_Z below #[Value.ref b] s) (entryFrame m ([Value.ref b] : List Value).toArray 4) := by
  have C00 := C0
  obtain ⟨hx, hb, hr, hml, hown, hts, hX, hbl, hlk, hgv⟩ := C00
  obtain ⟨G, D, hG, hK, hN, cI, cL, cR, hGe⟩ := xl_tys hts
  have C1 : xLC p s m meth c b L xs G D := ⟨C0, hK, hN, hG⟩
  rw [lg_entry_eq]
  have hl := lv_entry ([.ref b]) (n := 4) (Nat.le_of_ble_eq_true rfl)
  generalize (lg_sl ([.ref b]) ++ List.replicate (4 - (lg_sl ([.ref b])).length) Slot.unset).toArray = ls at hl ⊢
  have hl : lv_has ls 4 [(0, .ref b)] := hl
  have hS : va_S (fun q => s.heap.size ≤ q) s.heap s.heap [] := va_S.rf
  have hP : va_P D xcl (xm_w s.heap.size G ([], (fun _ _ => 0), (fun _ _ => 0), (fun _ _ => 0))) s.heap := fun k q hk => by
    rw [xm_w_get] at hk
    cases hk
  refine xl_new C1 (ci := 0) (ix := 7) (M := ([], (fun _ _ => 0), (fun _ _ => 0), (fun _ _ => 0))) (by decide) xlc_0.1 xlc_0.2.1 xlc_0.2.2 (by decide) (xld (by decide) rfl) hP rfl hS (fun H hP hz hS => ?_)
  have hP : va_P D xcl (xm_w s.heap.size G (xSp 1, xm_row (fun _ _ => 0) 0 0, xm_row (fun _ _ => 0) 0 0, xm_row (fun _ _ => 0) 0 0)) H := hP
  rw [z_row 0 (0 : Int32), z_row 0 (0 : Int64)] at hP
  have hz : H.size = s.heap.size + (xSp 1).length := hz
  refine lv_dup hx hb (xld (by decide) rfl) rfl ?_
  refine xl_callI C1 (a := 0) (ix := 9) (k := 0) (M := (xSp 1, (fun _ _ => 0), (fun _ _ => 0), xm_row (fun _ _ => 0) 0 0)) (by decide) rfl rfl (by decide) xlw_0 (ci0 _ (fun _ _ _ => rfl) (fun _ _ _ => rfl)) (Nat.le_of_ble_eq_true rfl) (by decide) (xld (by decide) rfl) hP hz hS hl.1 ?_
  rintro _ H locs rfl hP hz hS
  refine lv_astore_n hx hb (xld (by decide) rfl) rfl hl (by decide) rfl (fun ls hl => ?_)
  have hl := lv_sub (l' := [(0, .ref b), (1, .ref (s.heap.size + 0))]) hl [1, 0] rfl
  refine xl_new C1 (ci := 8) (ix := 10) (M := (xSp 45, pI (fun _ _ => 0) 48, (fun _ _ => 0), mr0 (xm_row (fun _ _ => 0) 0 0))) (by decide) xlc_8.1 xlc_8.2.1 xlc_8.2.2 (by decide) (xld (by decide) rfl) hP hz hS (fun H hP hz hS => ?_)
  have hP : va_P D xcl (xm_w s.heap.size G (xSp 46, xm_row (pI (fun _ _ => 0) 48) 45 0, xm_row (fun _ _ => 0) 45 0, xm_row (mr0 (xm_row (fun _ _ => 0) 0 0)) 45 0)) H := hP
  rw [z_row 45 (0 : Int64), xm_row_id (f := pI (fun _ _ => 0) 48) (fun j => by rw [pI_ne (by decide)])] at hP
  have hz : H.size = s.heap.size + (xSp 46).length := hz
  refine lv_dup hx hb (xld (by decide) rfl) rfl ?_
  refine xl_callI C1 (a := 8) (ix := 12) (k := 45) (M := (xSp 46, pI (fun _ _ => 0) 48, (fun _ _ => 0), xm_row (mr0 (xm_row (fun _ _ => 0) 0 0)) 45 0)) (by decide) rfl rfl (by decide) xlw_8 (ci8 _ (fun k j h => by rw [pI_ne (by omega)]) (fun _ _ _ => rfl)) (Nat.le_of_ble_eq_true rfl) (by decide) (xld (by decide) rfl) hP hz hS hl.1 ?_
  rintro _ H locs rfl hP hz hS
  refine lv_astore_n hx hb (xld (by decide) rfl) rfl hl (by decide) rfl (fun ls hl => ?_)
  refine lv_iconst (v := 0) hx hb (xld (by decide) rfl) rfl ?_
  refine lv_istore_n hx hb (xld (by decide) rfl) rfl hl (by decide) rfl (fun ls hl => ?_)
  have hl := lv_sub (l' := [(0, .ref b), (1, .ref (s.heap.size + 0)), (2, .ref (s.heap.size + 45)), (3, .int (nI 0))]) hl [2, 3, 1, 0] rfl
  have hP : va_P D xcl (xm_w s.heap.size G (xSp 68, xI0, xL0, xR0)) H := hP
  have hP : va_P D xcl (xm_w s.heap.size G (xSH, xI0, xL0, xmr xQ0)) H := by
    rw [hGe] at hP ⊢
    rw [xW0] at hP
    exact hP
  exact law_loop C1 hL o0 o1 o2 o3 o4 o5 o6 o7 o8 o8' o9 o10 o11 o12 o13 o14 o15 o16 L 0 (Nat.zero_add L) xI0 xL0 xQ0 H locs ls i0 hP hz hS hl
