theorem xm_nth_eq {α : Type} : ∀ (l : List α) (n : Nat), xm_nth l n = l[n]?
  | [], n => by simp [xm_nth]
  | a :: l, 0 => by simp [xm_nth]
  | a :: l, n + 1 => by simp [xm_nth, xm_nth_eq l n]
/-- a number of a cell becomes its address -/
def xm_v (b : Nat) (v : Value) : Value := match v with
  | .ref k => .ref (b + k)
  | v => v
def xm_q (b x : Nat) : Option Nat := match x with
  | 0 => none
  | k + 1 => some (b + k)
theorem xm_v_cat (b : Nat) (v : Value) : (xm_v b v).category = v.category := by cases v <;> rfl
theorem xm_ct_eq (v : Value) : xm_ct v = v.category := by cases v <;> rfl
theorem xm_cat_eq (b : Nat) : ∀ S : List Value, ((S.map (xm_v b)).map fun v => v.category).sum = xm_cat S
  | [] => rfl
  | v :: S => by
    simp only [List.map_cons, List.sum_cons, xm_cat, xm_v_cat, xm_ct_eq]
    rw [xm_cat_eq b S]
def xm_l (b : Nat) : Nat → xm_L → List (Nat × Value)
  | _, [] => []
  | i, none :: L => xm_l b (i + 1) L
  | i, some v :: L => (i, xm_v b v) :: xm_l b (i + 1) L
theorem xm_l_mem {b : Nat} : ∀ {L : xm_L} {i : Nat} {q : Nat × Value}, q ∈ xm_l b i L → ∃ j v, xm_nth L j = some (some v) ∧ q = (i + j, xm_v b v)
  | [], i, q, h => by simp [xm_l] at h
  | none :: L, i, q, h => by
    obtain ⟨j, v, h1, h2⟩ := xm_l_mem (L := L) (i := i + 1) h
    exact ⟨j + 1, v, h1, by rw [h2, show i + 1 + j = i + (j + 1) by omega]⟩
  | some w :: L, i, q, h => by
    rcases List.mem_cons.mp h with h | h
    · exact ⟨0, w, rfl, h⟩
    · obtain ⟨j, v, h1, h2⟩ := xm_l_mem (L := L) (i := i + 1) h
      exact ⟨j + 1, v, h1, by rw [h2, show i + 1 + j = i + (j + 1) by omega]⟩
theorem xm_mem_l {b : Nat} {v : Value} : ∀ {L : xm_L} {i j : Nat}, xm_nth L j = some (some v) → (i + j, xm_v b v) ∈ xm_l b i L
  | [], i, j, h => by simp [xm_nth] at h
  | none :: L, i, 0, h => by simp [xm_nth] at h
  | none :: L, i, j + 1, h => by
    have := xm_mem_l (b := b) (L := L) (i := i + 1) (j := j) h
    rw [show i + 1 + j = i + (j + 1) by omega] at this
    exact this
  | some w :: L, i, 0, h => by
    have e : w = v := by simpa [xm_nth] using h
    rw [e]
    exact List.mem_cons_self
  | some w :: L, i, j + 1, h => by
    have := xm_mem_l (b := b) (L := L) (i := i + 1) (j := j) h
    rw [show i + 1 + j = i + (j + 1) by omega] at this
    exact List.mem_cons_of_mem _ this
theorem xm_rd {b : Nat} {ls : Array Slot} {nL : Nat} {L : xm_L} {a : Nat} {v : Value} (h : lv_has ls nL (xm_l b 0 L)) (hg : xm_nth L a = some (some v)) : ls[a]? = some (.val (xm_v b v)) := by
  have := xm_mem_l (b := b) (i := 0) hg
  rw [Nat.zero_add] at this
  exact h.2.2 _ this
theorem xm_sb {ls : Array Slot} {nL : Nat} {l l' : List (Nat × Value)} (h : lv_has ls nL l) (hs : ∀ q, q ∈ l' → q ∈ l) : lv_has ls nL l' := ⟨h.1, h.2.1, fun q hq => h.2.2 q (hs q hq)⟩
theorem xm_no_nth {v : Value} : ∀ {i : Nat} {L : xm_L} {j : Nat}, xm_nth (xm_no i L) j = some (some v) → xm_nth L j = some (some v)
  | _, [], j, h => by simp [xm_no, xm_nth] at h
  | 0, _ :: l, 0, h => by simp [xm_no, xm_nth] at h
  | 0, _ :: l, j + 1, h => h
  | n + 1, a :: l, 0, h => h
  | n + 1, a :: l, j + 1, h => xm_no_nth (i := n) (L := l) (j := j) h
theorem xm_drop_nth {v : Value} {j : Nat} : ∀ {D : List Nat} {L : xm_L}, xm_nth (xm_drop D L) j = some (some v) → xm_nth L j = some (some v)
  | [], _, h => h
  | _ :: D, _, h => xm_no_nth (xm_drop_nth (D := D) h)
theorem xm_sbN {b : Nat} {ls : Array Slot} {nL : Nat} {L L' : xm_L} (h : lv_has ls nL (xm_l b 0 L)) (hs : ∀ j v, xm_nth L' j = some (some v) → xm_nth L j = some (some v)) : lv_has ls nL (xm_l b 0 L') := by
  refine xm_sb h fun q hq => ?_
  obtain ⟨j, v, h1, h2⟩ := xm_l_mem hq
  rw [h2]
  exact xm_mem_l (hs j v h1)
theorem xm_kl_some {a : Option Value} {w : Value} (h : xm_kl a = some w) : a = some w ∧ ¬ w.category = 2 := by
  cases a with
  | none => simp [xm_kl] at h
  | some v => cases v <;> simp [xm_kl] at h <;> subst h <;> exact ⟨rfl, (show ¬ (1 : Nat) = 2 by decide)⟩
theorem xm_s1_nth (v : Value) : ∀ (i : Nat) (L : xm_L) (j : Nat) (w : Value), xm_nth (xm_s1 v i L) j = some (some w) → (j = i ∧ w = v) ∨ (j ≠ i ∧ xm_nth L j = some (some w) ∧ (j + 1 = i → ¬ w.category = 2))
  | _, [], j, w, h => by simp [xm_s1, xm_nth] at h
  | 0, a :: l, 0, w, h => Or.inl ⟨rfl, by simpa [xm_s1, xm_nth, eq_comm] using h⟩
  | 0, a :: l, j + 1, w, h => Or.inr ⟨by omega, h, by omega⟩
  | 1, a :: l, 0, w, h => by
    have h' : xm_kl a = some w := by simpa [xm_s1, xm_nth] using h
    obtain ⟨e1, e2⟩ := xm_kl_some h'
    exact Or.inr ⟨by omega, by rw [e1]; rfl, fun _ => e2⟩
  | 1, a :: l, j + 1, w, h => by
    have h' : xm_nth (xm_s1 v 0 l) j = some (some w) := h
    rcases xm_s1_nth v 0 l j w h' with ⟨e1, e2⟩ | ⟨e1, e2, e3⟩
    · exact Or.inl ⟨by omega, e2⟩
    · exact Or.inr ⟨by omega, e2, by omega⟩
  | n + 2, a :: l, 0, w, h => Or.inr ⟨by omega, h, by omega⟩
  | n + 2, a :: l, j + 1, w, h => by
    have h' : xm_nth (xm_s1 v (n + 1) l) j = some (some w) := h
    rcases xm_s1_nth v (n + 1) l j w h' with ⟨e1, e2⟩ | ⟨e1, e2, e3⟩
    · exact Or.inl ⟨by omega, e2⟩
    · exact Or.inr ⟨by omega, e2, fun z => e3 (by omega)⟩
theorem xm_s2_nth (v : Value) : ∀ (i : Nat) (L : xm_L) (j : Nat) (w : Value), xm_nth (xm_s2 v i L) j = some (some w) → (j = i ∧ w = v) ∨ (j ≠ i ∧ j ≠ i + 1 ∧ xm_nth L j = some (some w) ∧ (j + 1 = i → ¬ w.category = 2))
  | _, [], j, w, h => by simp [xm_s2, xm_nth] at h
  | 0, a :: l, 0, w, h => Or.inl ⟨rfl, by simpa [xm_s2, xm_nth, eq_comm] using h⟩
  | 0, a :: l, 1, w, h => by
    cases l <;> simp [xm_s2, xm_nth, xm_no] at h
  | 0, a :: l, j + 2, w, h => by
    have h' : xm_nth (xm_no 0 l) (j + 1) = some (some w) := h
    have h2 : xm_nth l (j + 1) = some (some w) := xm_no_nth h'
    exact Or.inr ⟨by omega, by omega, h2, by omega⟩
  | 1, a :: l, 0, w, h => by
    have h' : xm_kl a = some w := by simpa [xm_s2, xm_nth] using h
    obtain ⟨e1, e2⟩ := xm_kl_some h'
    exact Or.inr ⟨by omega, by omega, by rw [e1]; rfl, fun _ => e2⟩
  | 1, a :: l, j + 1, w, h => by
    have h' : xm_nth (xm_s2 v 0 l) j = some (some w) := h
    rcases xm_s2_nth v 0 l j w h' with ⟨e1, e2⟩ | ⟨e1, e1', e2, e3⟩
    · exact Or.inl ⟨by omega, e2⟩
    · exact Or.inr ⟨by omega, by omega, e2, by omega⟩
  | n + 2, a :: l, 0, w, h => Or.inr ⟨by omega, by omega, h, by omega⟩
  | n + 2, a :: l, j + 1, w, h => by
    have h' : xm_nth (xm_s2 v (n + 1) l) j = some (some w) := h
    rcases xm_s2_nth v (n + 1) l j w h' with ⟨e1, e2⟩ | ⟨e1, e1', e2, e3⟩
    · exact Or.inl ⟨by omega, e2⟩
    · exact Or.inr ⟨by omega, by omega, e2, fun z => e3 (by omega)⟩
theorem xm_st1 {b : Nat} {ls : Array Slot} {nL i : Nat} {v : Value} {L : xm_L} (h : lv_has ls nL ((i, xm_v b v) :: (xm_l b 0 L).filter (fun q => !(q.1 == i) && !(q.1 + 1 == i && q.2.category == 2)))) : lv_has ls nL (xm_l b 0 (xm_s1 v i L)) := by
  refine xm_sb h fun q hq => ?_
  obtain ⟨j, w, h1, h2⟩ := xm_l_mem hq
  rw [Nat.zero_add] at h2
  rcases xm_s1_nth v i L j w h1 with ⟨e1, e2⟩ | ⟨e1, e2, e3⟩
  · rw [h2, e1, e2]
    exact List.mem_cons_self
  · refine List.mem_cons_of_mem _ (List.mem_filter.mpr ⟨?_, ?_⟩)
    · have := xm_mem_l (b := b) (i := 0) e2
      rw [Nat.zero_add] at this
      rw [h2]; exact this
    · rw [h2]
      have c1 : (j == i) = false := by simpa using e1
      have c2 : (j + 1 == i && (xm_v b w).category == 2) = false := by
        by_cases hj : j + 1 = i
        · have := e3 hj
          rw [xm_v_cat]
          simp [this]
        · simp [hj]
      show (!(j == i) && !(j + 1 == i && (xm_v b w).category == 2)) = true
      rw [c1, c2]
      rfl
theorem xm_st2 {b : Nat} {ls : Array Slot} {nL i : Nat} {v : Value} {L : xm_L} (h : lv_has ls nL ((i, xm_v b v) :: (xm_l b 0 L).filter (fun q => !(q.1 == i) && (!(q.1 == i + 1) && !(q.1 + 1 == i && q.2.category == 2))))) : lv_has ls nL (xm_l b 0 (xm_s2 v i L)) := by
  refine xm_sb h fun q hq => ?_
  obtain ⟨j, w, h1, h2⟩ := xm_l_mem hq
  rw [Nat.zero_add] at h2
  rcases xm_s2_nth v i L j w h1 with ⟨e1, e2⟩ | ⟨e1, e1', e2, e3⟩
  · rw [h2, e1, e2]
    exact List.mem_cons_self
  · refine List.mem_cons_of_mem _ (List.mem_filter.mpr ⟨?_, ?_⟩)
    · have := xm_mem_l (b := b) (i := 0) e2
      rw [Nat.zero_add] at this
      rw [h2]; exact this
    · rw [h2]
      have c1 : (j == i) = false := by simpa using e1
      have c0 : (j == i + 1) = false := by simpa using e1'
      have c2 : (j + 1 == i && (xm_v b w).category == 2) = false := by
        by_cases hj : j + 1 = i
        · have := e3 hj
          rw [xm_v_cat]
          simp [this]
        · simp [hj]
      show (!(j == i) && (!(j == i + 1) && !(j + 1 == i && (xm_v b w).category == 2))) = true
      rw [c1, c0, c2]
      rfl
/-- the entry's places -/
theorem xm_pad_nth {v : Value} : ∀ {n : Nat} {L : xm_L} {j : Nat}, xm_nth (xm_pad n L) j = some (some v) → xm_nth L j = some (some v)
  | 0, _, _, h => h
  | n + 1, [], 0, h => by simp [xm_pad, xm_nth] at h
  | n + 1, [], j + 1, h => by
    have := xm_pad_nth (n := n) (L := []) (j := j) h
    simp [xm_nth] at this
  | n + 1, a :: L, 0, h => h
  | n + 1, a :: L, j + 1, h => xm_pad_nth (n := n) (L := L) (j := j) h
theorem xm_ea_mem {b : Nat} {w : Value} : ∀ {av : List Value} {i j : Nat}, xm_nth (xm_ea av) j = some (some w) → (i + j, xm_v b w) ∈ lv_args i (av.map (xm_v b))
  | [], i, j, h => by simp [xm_ea, xm_nth] at h
  | v :: vs, i, j, h => by
    have one : ∀ {z : Value}, xm_ea (z :: vs) = some z :: xm_ea vs → ¬ z.category = 2 → xm_nth (xm_ea (z :: vs)) j = some (some w) → (i + j, xm_v b w) ∈ lv_args i ((z :: vs).map (xm_v b)) := by
      intro z e hc h
      rw [e] at h
      show (i + j, xm_v b w) ∈ (i, xm_v b z) :: lv_args (if (xm_v b z).category = 2 then i + 2 else i + 1) (vs.map (xm_v b))
      rw [xm_v_cat, if_neg hc]
      cases j with
      | zero =>
        have e2 : z = w := by simpa [xm_nth] using h
        rw [e2]; exact List.mem_cons_self
      | succ j =>
        have := xm_ea_mem (b := b) (av := vs) (i := i + 1) (j := j) h
        rw [show i + 1 + j = i + (j + 1) by omega] at this
        exact List.mem_cons_of_mem _ this
    have two : ∀ {z : Value}, xm_ea (z :: vs) = some z :: none :: xm_ea vs → z.category = 2 → xm_nth (xm_ea (z :: vs)) j = some (some w) → (i + j, xm_v b w) ∈ lv_args i ((z :: vs).map (xm_v b)) := by
      intro z e hc h
      rw [e] at h
      show (i + j, xm_v b w) ∈ (i, xm_v b z) :: lv_args (if (xm_v b z).category = 2 then i + 2 else i + 1) (vs.map (xm_v b))
      rw [xm_v_cat, if_pos hc]
      match j, h with
      | 0, h =>
        have e2 : z = w := by simpa [xm_nth] using h
        rw [e2]; exact List.mem_cons_self
      | 1, h => simp [xm_nth] at h
      | j + 2, h =>
        have := xm_ea_mem (b := b) (av := vs) (i := i + 2) (j := j) h
        rw [show i + 2 + j = i + (j + 2) by omega] at this
        exact List.mem_cons_of_mem _ this
    cases v with
    | long x => exact two rfl rfl h
    | double x => exact two rfl rfl h
    | int x => exact one rfl (show ¬ (1 : Nat) = 2 by decide) h
    | float x => exact one rfl (show ¬ (1 : Nat) = 2 by decide) h
    | null => exact one rfl (show ¬ (1 : Nat) = 2 by decide) h
    | ref x => exact one rfl (show ¬ (1 : Nat) = 2 by decide) h
    | retAddr x => exact one rfl (show ¬ (1 : Nat) = 2 by decide) h
theorem xm_sl_len (b : Nat) : ∀ av : List Value, (lg_sl (av.map (xm_v b))).length = xm_cat av
  | [] => rfl
  | v :: vs => by
    have ih := xm_sl_len b vs
    simp only [lg_sl] at ih
    simp only [lg_sl, List.map_cons, List.flatMap_cons, List.length_append, ih, xm_cat, xm_v_cat, xm_ct_eq]
    cases v <;> rfl
theorem xm_enter {b : Nat} {nL : Nat} {av : List Value} (h : xm_cat av ≤ nL) : lv_has ((lg_sl (av.map (xm_v b)) ++ List.replicate (nL - (lg_sl (av.map (xm_v b))).length) Slot.unset).toArray) nL (xm_l b 0 (xm_pad nL (xm_ea av))) := by
  have := lv_entry (av.map (xm_v b)) (n := nL) (by rw [xm_sl_len]; exact h)
  refine xm_sb this fun q hq => ?_
  obtain ⟨j, v, h1, h2⟩ := xm_l_mem hq
  rw [h2]
  exact xm_ea_mem (xm_pad_nth h1)
/-- the world of a memory: class numbers of ints, longs, references; the kinds of an object's fields (1 long, 2 reference, else int) -/
abbrev xm_G : Type := ClassId × ClassId × ClassId × (Nat → List Nat)
def xm_fv (b : Nat) (M : xm_M) (k j t : Nat) : Value := match t with
  | 1 => .long (M.2.2.1 k j)
  | 2 => va_rf (xm_q b (M.2.2.2 k j))
  | _ => .int (M.2.1 k j)
def xm_e (b : Nat) (G : xm_G) (M : xm_M) (k : Nat) (sh : Nat × Nat) : va_E := match sh.1 with
  | 0 => .inl (G.1, sh.2, .inl (M.2.1 k))
  | 1 => .inl (G.2.1, sh.2, .inr (.inl (M.2.2.1 k)))
  | 2 => .inl (G.2.2.1, sh.2, .inr (.inr (.inr (.inr (fun j => xm_q b (M.2.2.2 k j))))))
  | _ => .inr (sh.2, (G.2.2.2 sh.2).mapIdx (fun j t => xm_fv b M k j t))
def xm_w (b : Nat) (G : xm_G) (M : xm_M) : va_W := M.1.mapIdx (fun k sh => (b + k, xm_e b G M k sh))
theorem xm_w_get (b : Nat) (G : xm_G) (M : xm_M) (k : Nat) : (xm_w b G M)[k]? = (M.1[k]?).map (fun sh => (b + k, xm_e b G M k sh)) := by
  unfold xm_w
  rw [List.getElem?_mapIdx]
theorem xm_w_at {b : Nat} {G : xm_G} {M : xm_M} {k : Nat} {sh : Nat × Nat} (h : xm_nth M.1 k = some sh) : (xm_w b G M)[k]? = some (b + k, xm_e b G M k sh) := by
  rw [xm_w_get, ← xm_nth_eq, h]
  rfl
theorem xm_w_D {b : Nat} {G : xm_G} {M : xm_M} : va_D (fun q => b ≤ q) (xm_w b G M) := by
  have key : ∀ (k : Nat) (q : Nat × va_E), (xm_w b G M)[k]? = some q → q.1 = b + k := by
    intro k q hk
    rw [xm_w_get] at hk
    cases hm : M.1[k]? with
    | none => rw [hm] at hk; cases hk
    | some sh => rw [hm] at hk; cases hk; rfl
  refine ⟨fun i j x y hi hj hxy => ?_, fun k q hk => ?_⟩
  · have h1 := key i x hi
    have h2 := key j y hj
    omega
  · show b ≤ q.1
    rw [key k q hk]
    exact Nat.le_add_right _ _
theorem xm_w_set {b : Nat} {G : xm_G} {M M' : xm_M} {k : Nat} {sh : Nat × Nat} {e' : va_E} (h1 : M'.1 = M.1) (hk : xm_nth M.1 k = some sh) (he : xm_e b G M' k sh = e') (ho : ∀ i sh', i ≠ k → xm_e b G M' i sh' = xm_e b G M i sh') : (xm_w b G M).set k (b + k, e') = xm_w b G M' := by
  apply List.ext_getElem?
  intro i
  by_cases hi : i = k
  · subst hi
    have hl : i < (xm_w b G M).length := (List.getElem?_eq_some_iff.mp (xm_w_at (b := b) (G := G) hk)).1
    rw [List.getElem?_set_self hl, xm_w_at (M := M') (by rw [h1]; exact hk), he]
  · rw [List.getElem?_set_ne (Ne.symm hi), xm_w_get, xm_w_get, h1]
    cases M.1[i]? with
    | none => rfl
    | some sh' => simp only [Option.map_some, ho i sh' hi]
theorem xm_bne {a k : Nat} (h : a ≠ k) : Nat.beq a k = false := by
  cases hq : Nat.beq a k with
  | false => rfl
  | true => exact absurd (Nat.eq_of_beq_eq_true hq) h
theorem xm_brf (a : Nat) : Nat.beq a a = true := Nat.beq_refl a
theorem xm_up_ne {α : Type} {f : Nat → Nat → α} {k i a j : Nat} {v : α} (h : a ≠ k) : xm_up f k i v a j = f a j := by
  show (bif (Nat.beq a k && Nat.beq j i) then v else f a j) = f a j
  rw [xm_bne h]
  rfl
theorem xm_up_self {α : Type} {f : Nat → Nat → α} {k i j : Nat} {v : α} : xm_up f k i v k j = if j = i then v else f k j := by
  show (bif (Nat.beq k k && Nat.beq j i) then v else f k j) = if j = i then v else f k j
  by_cases h : j = i
  · subst h
    rw [xm_brf, xm_brf, if_pos rfl]
    rfl
  · rw [xm_brf, xm_bne h, if_neg h]
    rfl
theorem xm_eI {b : Nat} {G : xm_G} {M : xm_M} {k j : Nat} {x : Int32} {i : Nat} {sh : Nat × Nat} (h : i ≠ k) : xm_e b G (M.1, xm_up M.2.1 k j x, M.2.2) i sh = xm_e b G M i sh := by
  have e1 : xm_up M.2.1 k j x i = M.2.1 i := by funext z; exact xm_up_ne h
  have e2 : (fun z t => xm_fv b (M.1, xm_up M.2.1 k j x, M.2.2) i z t) = (fun z t => xm_fv b M i z t) := by
    funext z t
    unfold xm_fv
    split
    · rfl
    · rfl
    · simp only [e1]
  unfold xm_e
  simp only [e1, e2]
theorem xm_eL {b : Nat} {G : xm_G} {M : xm_M} {k j : Nat} {x : Int64} {i : Nat} {sh : Nat × Nat} (h : i ≠ k) : xm_e b G (M.1, M.2.1, xm_up M.2.2.1 k j x, M.2.2.2) i sh = xm_e b G M i sh := by
  have e1 : xm_up M.2.2.1 k j x i = M.2.2.1 i := by funext z; exact xm_up_ne h
  have e2 : (fun z t => xm_fv b (M.1, M.2.1, xm_up M.2.2.1 k j x, M.2.2.2) i z t) = (fun z t => xm_fv b M i z t) := by
    funext z t
    unfold xm_fv
    split
    · simp only [e1]
    · rfl
    · rfl
  unfold xm_e
  simp only [e1, e2]
theorem xm_eR {b : Nat} {G : xm_G} {M : xm_M} {k j : Nat} {x : Nat} {i : Nat} {sh : Nat × Nat} (h : i ≠ k) : xm_e b G (M.1, M.2.1, M.2.2.1, xm_up M.2.2.2 k j x) i sh = xm_e b G M i sh := by
  have e1 : xm_up M.2.2.2 k j x i = M.2.2.2 i := by funext z; exact xm_up_ne h
  have e2 : (fun z t => xm_fv b (M.1, M.2.1, M.2.2.1, xm_up M.2.2.2 k j x) i z t) = (fun z t => xm_fv b M i z t) := by
    funext z t
    unfold xm_fv
    split
    · rfl
    · simp only [e1]
    · rfl
  unfold xm_e
  simp only [e1, e2]
/-- a field of an object is written -/
theorem xm_fset {b : Nat} {M M' : xm_M} {k j t : Nat} {kd : List Nat} {v : Value} (hj : kd[j]? = some t) (hv : xm_fv b M' k j t = v) (ho : ∀ i t', kd[i]? = some t' → i ≠ j → xm_fv b M' k i t' = xm_fv b M k i t') : (kd.mapIdx (fun j t => xm_fv b M k j t)).set j v = kd.mapIdx (fun j t => xm_fv b M' k j t) := by
  apply List.ext_getElem?
  intro i
  by_cases hi : i = j
  · subst hi
    have hl : i < (kd.mapIdx (fun j t => xm_fv b M k j t)).length := by
      rw [List.length_mapIdx]
      exact (List.getElem?_eq_some_iff.mp hj).1
    rw [List.getElem?_set_self hl, List.getElem?_mapIdx, hj]
    simp only [Option.map_some, hv]
  · rw [List.getElem?_set_ne (Ne.symm hi), List.getElem?_mapIdx, List.getElem?_mapIdx]
    cases hk : kd[i]? with
    | none => rfl
    | some t' => simp only [Option.map_some, ho i t' hk hi]
