theorem IF.le {k k' : Nat} {DI : Nat → Nat → Int32} {DL : Nat → Nat → Int64} {f i : Nat} (h : IF k DI DL f i) (hk : k ≤ k') : IF k' DI DL f i := by
  obtain ⟨h1, ⟨nm, n1, n2⟩, h3, h4, h5, h6, h7, h8, h9, h10, h11⟩ := h
  exact ⟨h1, ⟨nm, by omega, n2⟩, h3, h4, h5, h6, h7, h8, h9, fun b hb => by have := h10 b hb; omega, h11⟩
theorem ST.cg {c : Nat} {DI DI' : Nat → Nat → Int32} {DL DL' : Nat → Nat → Int64} (h : ST c DI DL) (hI : ∀ a, a = 19 ∨ a = 22 ∨ a = 43 ∨ a = 44 ∨ a = 57 ∨ a = 58 → DI' a = DI a) (hL : ∀ a, a = 20 ∨ a = 21 ∨ a = 40 ∨ a = 41 ∨ a = 64 ∨ a = 65 → DL' a = DL a) : ST c DI' DL' := by
  obtain ⟨h1, h2, h3, h4, h5⟩ := h
  have e58 := hI 58 (by omega)
  have e57 := hI 57 (by omega)
  have vn : vN DI' = vN DI := by funext i; unfold vN; rw [e58]
  have vj : vJ DI' = vJ DI := by funext i; unfold vJ; rw [e57]
  refine ⟨?_, ?_, ?_, ?_, ?_⟩
  · unfold ID at h1 ⊢
    rw [e58, e57, hI 19 (by omega)]
    exact h1
  · unfold SR at h2 ⊢
    rw [vn, vj, hL 64 (by omega), hL 20 (by omega)]
    exact h2
  · unfold SC at h3 ⊢
    rw [vn, hL 20 (by omega), hL 21 (by omega)]
    exact h3
  · unfold SL at h4 ⊢
    rw [vn, vj, hL 64 (by omega), hI 22 (by omega)]
    exact h4
  · unfold SJ JM at h5 ⊢
    rw [vn, vj, hL 64 (by omega), hL 65 (by omega), hL 40 (by omega), hL 41 (by omega), hI 43 (by omega), hI 44 (by omega)]
    exact h5
theorem dm_row {MI : Nat → Nat → Int32} {a : Nat} (h : (13 ≤ a ∧ a ≤ 44) ∨ (55 ≤ a ∧ a ≤ 65)) : dm MI a = MI a := by
  funext j
  exact dm_at (of_dur (by omega))
theorem dl_row {ML : Nat → Nat → Int64} {a : Nat} (h : (13 ≤ a ∧ a ≤ 44) ∨ (55 ≤ a ∧ a ≤ 65)) : dl ML a = ML a := by
  funext j
  exact dl_at (of_dur (by omega))
theorem fW_sets {b : Nat → Nat} {n a : Nat} (h : fnS b n = .ok a) (w : Wd) : (w ∈ ((fWa b n ++ (fWs b n ++ fWi b n)) ++ [wOwn b n]) ++ fWs b n ↔ w ∈ fW1 b n ++ fW2 b n) ∧ (w ∈ fWa b n ++ (fWs b n ++ fWi b n) ↔ w ∈ fW1 b n ++ fW2 b n) ∧ (w ∈ (fWa b n ++ (fWs b n ++ fWi b n)) ++ prW b (poT b n) (poZ b n - 1) 1 ↔ w ∈ fW1 b n ++ fW2 b n) := by
  obtain ⟨o1, o2, o3, -⟩ := pa_ok h
  have i1 : w ∈ [wOwn b n] → w ∈ fW1 b n := fun q => by
    rw [List.mem_singleton] at q
    subst q
    exact wc_mem o1
  have i2 : w ∈ fWs b n → w ∈ fW1 b n := fun q => by
    unfold fWs at q
    split at q
    · exact absurd q List.not_mem_nil
    · rename_i hp
      rw [List.mem_singleton] at q
      subst q
      exact wc_mem (o2.resolve_left hp)
  have i3 : w ∈ fWi b n → w ∈ fW1 b n := fun q => ifW_mem (fun j hj => (o3 j (by omega)).2) q
  have i4 : w ∈ prW b (poT b n) (poZ b n - 1) 1 → w ∈ fW1 b n := fun q => List.mem_append_right _ q
  unfold fWa
  simp only [List.mem_append]
  refine ⟨⟨fun q => ?_, fun q => ?_⟩, ⟨fun q => ?_, fun q => ?_⟩, ⟨fun q => ?_, fun q => ?_⟩⟩
  · rcases q with ((((q | q) | q) | (q | q)) | q) | q
    · exact Or.inl (i1 q)
    · exact Or.inl q
    · exact Or.inr q
    · exact Or.inl (i2 q)
    · exact Or.inl (i3 q)
    · exact Or.inl (i1 q)
    · exact Or.inl (i2 q)
  · rcases q with q | q
    · exact Or.inl (Or.inl (Or.inl (Or.inl (Or.inr q))))
    · exact Or.inl (Or.inl (Or.inl (Or.inr q)))
  · rcases q with ((q | q) | q) | (q | q)
    · exact Or.inl (i1 q)
    · exact Or.inl q
    · exact Or.inr q
    · exact Or.inl (i2 q)
    · exact Or.inl (i3 q)
  · rcases q with q | q
    · exact Or.inl (Or.inl (Or.inr q))
    · exact Or.inl (Or.inr q)
  · rcases q with (((q | q) | q) | (q | q)) | q
    · exact Or.inl (i1 q)
    · exact Or.inl q
    · exact Or.inr q
    · exact Or.inl (i2 q)
    · exact Or.inl (i3 q)
    · exact Or.inl (i4 q)
  · rcases q with q | q
    · exact Or.inl (Or.inl (Or.inl (Or.inr q)))
    · exact Or.inl (Or.inl (Or.inr q))
theorem and1_I (f : Nat) (h : f < 65536) : nI f &&& 1 = 0 ∨ nI f &&& 1 = 1 := by
  rw [pk_andN (by omega) 1 rfl]
  rcases Nat.mod_two_eq_zero_or_one f with q | q
  · exact Or.inl (by rw [show (2 : Nat) ^ 1 = 2 from rfl, q]; rfl)
  · exact Or.inr (by rw [show (2 : Nat) ^ 1 = 2 from rfl, q]; rfl)
/-- both sides come to the same sets -/
theorem add_bits {b : Nat → Nat} {n a : Nat} (hok : fnS b n = .ok a) {SF : Tb} (h48 : SF.1.length ≤ 48) (ho : SF.2 = false) (hin : wOwn b n ∈ SF.1) {u7 u8 u1 u um us u8' u1' l7 l8 l64 v : Int64} {fl : Nat} (hfl : fl < 65536) (a7 : US SF (fW1 b n ++ fW2 b n) u7) (a8 : US SF (fWp b n ++ (fWs b n ++ fWi b n)) u8) (a1 : US SF [wOwn b n] u1) (e7 : l7 = u7 &&& (u1 ^^^ -1)) (e8 : l8 = u8 &&& (if nI fl &&& 1 = 0 then 0 else u7 &&& (u1 ^^^ -1))) (b7 : US SF (((fWa b n ++ (fWs b n ++ fWi b n)) ++ [wOwn b n]) ++ fWs b n) u) (bm : US SF (fWa b n ++ (fWs b n ++ fWi b n)) um) (b8 : US SF (fWp b n ++ (fWs b n ++ fWi b n)) u8') (bs : US SF (prW b (poT b n) (poZ b n - 1) 1) us) (b1 : US SF [wOwn b n] u1') (e64 : l64 = u &&& (one (SF.1.idxOf (wOwn b n)) ^^^ -1)) (ev : v = (if nI fl &&& 1 = 1 then (u8' &&& (u1' ^^^ -1)) &&& (um ||| us) else 0)) : l64 = l7 ∧ v = l8 ∧ hasB l7 (SF.1.idxOf (wOwn b n)) = false ∧ (∀ t, hasB l7 t = true → t < SF.1.length) ∧ ∀ t, hasB l8 t = true → hasB l7 t = true := by
  have k1 : u1 = one (SF.1.idxOf (wOwn b n)) := a1.uniq (US.one h48 hin) ho (fun _ => Iff.rfl)
  have k2 : u1' = u1 := b1.uniq a1 ho (fun _ => Iff.rfl)
  have k3 : u = u7 := b7.uniq a7 ho (fun w => (fW_sets hok w).1)
  have k4 : um ||| us = u7 := (bm.or bs).uniq a7 ho (fun w => (fW_sets hok w).2.2)
  have k5 : u8' = u8 := b8.uniq a8 ho (fun _ => Iff.rfl)
  have hi := List.idxOf_lt_length_iff.mpr hin
  have f1 : l64 = l7 := by rw [e64, e7, k3, k1]
  have h7 : ∀ t, hasB l7 t = true → hasB u7 t = true := fun t ht => by
    rw [e7, hasB_and, Bool.and_eq_true] at ht
    exact ht.1
  refine ⟨f1, ?_, ?_, fun t ht => ?_, fun t ht => ?_⟩
  · rw [ev, e8, k4, k5, k2]
    rcases and1_I fl hfl with q | q
    · rw [if_pos q, if_neg (by rw [q]; decide)]
      refine hasB_ext (fun t _ => ?_)
      rw [hasB_and, hasB_0, Bool.and_false]
    · rw [if_pos q, if_neg (by rw [q]; decide)]
      refine hasB_ext (fun t _ => ?_)
      rw [hasB_and, hasB_and, hasB_and, hasB_and, Bool.and_assoc, Bool.and_comm (hasB (u1 ^^^ -1) t)]
  · rw [e7, hasB_and, hasB_not (by omega), k1, hasB_one (by omega), decide_eq_true rfl]
    exact Bool.and_false _
  · obtain ⟨w, w1, w2⟩ := ((a7 ho).2 t).mp (h7 t ht)
    rw [← w2]
    exact List.idxOf_lt_length_iff.mpr ((a7 ho).1 w w1)
  · rw [e8, hasB_and, Bool.and_eq_true] at ht
    have ht := ht.2
    split at ht
    · rw [hasB_0] at ht
      cases ht
    · rw [e7]
      exact ht
