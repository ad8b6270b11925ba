def hasB (w : Int64) (b : Nat) : Bool := w.toBitVec.getLsbD b
/-- class file i: row f of the scanner, row i of the reference -/
def IF (k : Nat) (DI : Nat → Nat → Int32) (DL : Nat → Nat → Int64) (f i : Nat) : Prop :=
  (∃ jr : Nat, jr < 5 ∧ DI f 0 = nI jr ∧ DI 57 i = nI jr) ∧ (∃ nm : Nat, nm < k ∧ DI f 1 = nI nm ∧ DI 58 i = nI nm ∧ hasB (DL 64 i) nm = false) ∧ DI f 2 = DI 59 i ∧ DI f 3 = DI 60 i ∧ DI f 4 = DI 61 i ∧ DI f 5 = DI 62 i ∧ DI f 6 = DI 63 i ∧ DL f 7 = DL 64 i ∧ DL f 8 = DL 65 i ∧ (∀ b, hasB (DL 64 i) b = true → b < k) ∧ (∀ b, hasB (DL 65 i) b = true → hasB (DL 64 i) b = true)
def IC (k c : Nat) (DI : Nat → Nat → Int32) (DL : Nat → Nat → Int64) (Q : Nat → Nat) : Prop := c ≤ 16 ∧ DI 17 1 = nI c ∧ DI 45 24 = nI c ∧ IQ Q ∧ ∀ i, i < c → IF k DI DL (Q i - 1) i
def ID (c : Nat) (DI : Nat → Nat → Int32) : Prop := ∀ y, y < 48 → isPr 0 c (DI 58) (DI 57) (nI y) (DI 19 y)
theorem c89 {MI : Nat → Nat → Int32} {ML : Nat → Nat → Int64} {Q : Nat → Nat} (x : Int32) : xm_Ev xz 89 [.ref 0, .int x] (xM MI ML Q) (fun r => r = (some (.int (bI (decide (¬ x < 0 ∧ x < MI 17 1)))), xM MI ML Q)) := by
  refine xm_in (xb89_0 ⟨fun h => ⟨Or.inl rfl, ?_⟩, fun h => ⟨fun h2 => ⟨Or.inl rfl, ?_⟩, fun h2 => ⟨Or.inr rfl, ?_⟩⟩⟩)
  · rw [decide_eq_false (fun q => q.1 h)]; rfl
  · rw [decide_eq_false (fun q => k2_nle q.2 h2)]; rfl
  · rw [decide_eq_true ⟨h, k2_lt h2⟩]; rfl
/-- a class file's rows, out of what lasts -/
theorem IF.get {k : Nat} {MI : Nat → Nat → Int32} {ML : Nat → Nat → Int64} {f i : Nat} (h : IF k (dm MI) (dl ML) f i) (hf : 23 ≤ f ∧ f ≤ 38) : IF k MI ML f i := by
  have a : ∀ j, dm MI f j = MI f j := fun j => dm_at (of_dur (Or.inl ⟨by omega, by omega, by omega⟩))
  have b : ∀ j, dl ML f j = ML f j := fun j => dl_at (of_dur (Or.inl ⟨by omega, by omega, by omega⟩))
  have c : ∀ g j, 55 ≤ g → g ≤ 65 → dm MI g j = MI g j := fun g j h1 h2 => dm_at (of_dur (Or.inr (Or.inr ⟨h1, h2⟩)))
  have d : ∀ g j, 55 ≤ g → g ≤ 65 → dl ML g j = ML g j := fun g j h1 h2 => dl_at (of_dur (Or.inr (Or.inr ⟨h1, h2⟩)))
  unfold IF at h ⊢
  simp only [a, b, c 57 _ (by decide) (by decide), c 58 _ (by decide) (by decide), c 59 _ (by decide) (by decide), c 60 _ (by decide) (by decide), c 61 _ (by decide) (by decide), c 62 _ (by decide) (by decide), c 63 _ (by decide) (by decide), d 64 _ (by decide) (by decide), d 65 _ (by decide) (by decide)] at h
  exact h
theorem IC.get {k c : Nat} {MI : Nat → Nat → Int32} {ML : Nat → Nat → Int64} {Q : Nat → Nat} (h : IC k c (dm MI) (dl ML) Q) : IC k c MI ML Q := by
  obtain ⟨h1, h2, h3, h4, h5⟩ := h
  exact ⟨h1, h2, h3, h4, fun i hi => (h5 i hi).get (h4.at (i := i) (by omega)).2.2⟩
theorem ID.get {c : Nat} {MI : Nat → Nat → Int32} (h : ID c (dm MI)) : ID c MI := h
section OPS3
variable {R : (Nat → Nat → Int32) → (Nat → Nat → Int64) → (Nat → Nat) → Prop}
theorem op6 (hR : ∀ DI DL Q, R DI DL Q → ∃ k c, IB k DI ∧ IC k c DI DL Q ∧ ID c DI) (x : Int32) : xOpI (xInv R) 87 149 [.int x] := by
  intro MI ML Q hI
  obtain ⟨k, c, ⟨hk, -, b2, -⟩, hC, hD⟩ := hR _ _ _ hI.2
  have b2 : MI 45 19 = nI k := b2
  obtain ⟨c1, c2, c3, c4, c5⟩ := hC.get
  have hD := hD.get
  refine xm_in (xb87_0 ⟨_, c69 x, ?_⟩)
  rintro _ (⟨y, hy, rfl, rfl⟩ | ⟨hno, rfl⟩)
  · refine xb87_8 ⟨MI 19 y, MI, ML, Q, rfl, xm_in (xb149_0 ⟨_, c148 _, ?_⟩)⟩
    rintro _ rfl
    by_cases hn : ¬ nI y < 0 ∧ nI y < MI 45 19
    · rw [decide_eq_true hn]
      refine xb149_5 ⟨fun h => absurd h (by decide), fun _ => ⟨_, c150 c1 c3 (nI y), ?_⟩⟩
      rintro _ ⟨v, rfl, hv⟩
      refine xb149_13 ⟨MI, ML, Q, ?_, hI⟩
      rw [isPr_uniq hv (hD y hy)]
    · rw [decide_eq_false hn]
      refine xb149_5 ⟨fun _ => ⟨MI, ML, Q, ?_, hI⟩, fun h => absurd rfl h⟩
      have : k ≤ y := by
        rw [b2] at hn
        refine Nat.le_of_not_lt fun hl => hn ⟨nI_pos (by omega), nI_lt hl (by omega)⟩
      rcases hD y hy with ⟨h1, -⟩ | ⟨i, -, i2, i3, i4, -⟩
      · rw [h1]
      · obtain ⟨-, ⟨nm, n1, -, n2, -⟩, -⟩ := c5 i i2
        rw [i4] at n2
        have := (nI_eq (by omega) (by omega)).mp n2
        omega
  · refine xb87_8 ⟨-1, MI, ML, Q, rfl, xm_in (xb149_0 ⟨_, c148 _, ?_⟩)⟩
    rintro _ rfl
    by_cases hn : ¬ x < 0 ∧ x < MI 45 19
    · rw [b2] at hn
      obtain ⟨y, hy, rfl⟩ := nI_in2 (by omega) hn
      exact absurd rfl (hno y (by omega))
    · rw [decide_eq_false hn]
      exact xb149_5 ⟨fun _ => ⟨MI, ML, Q, rfl, hI⟩, fun h => absurd rfl h⟩
theorem op7 (hR : ∀ DI DL Q, R DI DL Q → ∃ k c, IC k c DI DL Q) (x y : Int32) : xOpI (xInv R) 88 151 [.int x, .int y] := by
  intro MI ML Q hI
  obtain ⟨k, c, hC⟩ := hR _ _ _ hI.2
  obtain ⟨c1, c2, c3, c4, c5⟩ := hC.get
  have key : ∃ v : Int32, xm_Ev xz 88 [.ref 0, .int x, .int y] (xM MI ML Q) (fun r => r = (some (.int v), xM MI ML Q)) ∧ xm_Ev xz 151 [.ref 45, .int x, .int y] (xM MI ML Q) (fun r => r = (some (.int v), xM MI ML Q)) := by
    by_cases hn : ¬ x < 0 ∧ x < nI c
    · obtain ⟨i, hi, rfl⟩ := nI_in2 (by omega) hn
      obtain ⟨q1, q2, q3, q4⟩ := c4.at (i := i) (by omega)
      obtain ⟨⟨jr, -, j1, j2⟩, ⟨nm, -, n1, n2, -⟩, f2, f3, f4, f5, f6, -⟩ := c5 i hi
      have hv : vp_in (nI i) 16 := vp_in_nI (by omega) (by decide)
      have f0 : MI (Q i - 1) 0 = MI 57 i := j1.trans j2.symm
      have f1 : MI (Q i - 1) 1 = MI 58 i := n1.trans n2.symm
      let v : Int32 := if y = 0 then MI 57 i else if y = 1 then MI 58 i else if y = 2 then MI 59 i else if y = 3 then MI 60 i else if y = 4 then MI 61 i else if y = 5 then MI 62 i else if y = 6 then MI 63 i else -1
      have ve : v = if y = 0 then MI 57 i else if y = 1 then MI 58 i else if y = 2 then MI 59 i else if y = 3 then MI 60 i else if y = 4 then MI 61 i else if y = 5 then MI 62 i else if y = 6 then MI 63 i else -1 := rfl
      refine ⟨v, xm_in (xb88_0 ⟨_, c89 _, ?_⟩), xm_in (xb151_0 ⟨fun h => absurd h hn.1, fun _ => ⟨fun _ => ?_, fun h => ?_⟩⟩)⟩
      · rintro _ rfl
        rw [c2, decide_eq_true hn]
        refine xb88_5 ⟨fun h => absurd h (by decide), fun _ => ⟨hv, Q i - 1, q1, ?_⟩⟩
        rw [f0, f1, f2, f3, f4, f5, f6]
        refine ⟨fun h => ⟨q2, by rw [ve, if_pos h]⟩, fun g0 => ⟨fun h => ⟨q2, by rw [ve, if_neg g0, if_pos h]⟩, fun g1 => ⟨fun h => ⟨q2, by rw [ve, if_neg g0, if_neg g1, if_pos h]⟩, fun g2 => ⟨fun h => ⟨q2, by rw [ve, if_neg g0, if_neg g1, if_neg g2, if_pos h]⟩, fun g3 => ⟨fun h => ⟨q2, by rw [ve, if_neg g0, if_neg g1, if_neg g2, if_neg g3, if_pos h]⟩, fun g4 => ⟨fun h => ⟨q2, by rw [ve, if_neg g0, if_neg g1, if_neg g2, if_neg g3, if_neg g4, if_pos h]⟩, fun g5 => ⟨fun h => ⟨q2, by rw [ve, if_neg g0, if_neg g1, if_neg g2, if_neg g3, if_neg g4, if_neg g5, if_pos h]⟩, fun g6 => by rw [ve, if_neg g0, if_neg g1, if_neg g2, if_neg g3, if_neg g4, if_neg g5, if_neg g6]⟩⟩⟩⟩⟩⟩⟩
      · rw [nI_clamp (by omega)]
        refine ⟨fun h => ⟨hv, by rw [ve, if_pos h]⟩, fun g0 => ⟨fun h => ⟨hv, by rw [ve, if_neg g0, if_pos h]⟩, fun g1 => ⟨fun h => ⟨hv, by rw [ve, if_neg g0, if_neg g1, if_pos h]⟩, fun g2 => ⟨fun h => ⟨hv, by rw [ve, if_neg g0, if_neg g1, if_neg g2, if_pos h]⟩, fun g3 => ⟨fun h => ⟨hv, by rw [ve, if_neg g0, if_neg g1, if_neg g2, if_neg g3, if_pos h]⟩, fun g4 => ⟨fun h => ⟨hv, by rw [ve, if_neg g0, if_neg g1, if_neg g2, if_neg g3, if_neg g4, if_pos h]⟩, fun g5 => ⟨fun h => ⟨hv, by rw [ve, if_neg g0, if_neg g1, if_neg g2, if_neg g3, if_neg g4, if_neg g5, if_pos h]⟩, fun g6 => by rw [ve, if_neg g0, if_neg g1, if_neg g2, if_neg g3, if_neg g4, if_neg g5, if_neg g6]⟩⟩⟩⟩⟩⟩⟩
      · rw [c3] at h
        exact absurd hn.2 h
    · refine ⟨-1, xm_in (xb88_0 ⟨_, c89 _, ?_⟩), xm_in (xb151_0 ⟨fun _ => rfl, fun h => ⟨fun h2 => ?_, fun _ => rfl⟩⟩)⟩
      · rintro _ rfl
        rw [c2, decide_eq_false hn]
        exact xb88_5 ⟨fun _ => rfl, fun h => absurd rfl h⟩
      · rw [c3] at h2
        exact absurd ⟨h, h2⟩ hn
  obtain ⟨v, g1, g2⟩ := key
  refine g1.imp ?_
  rintro _ rfl
  refine ⟨v, MI, ML, Q, rfl, g2.imp ?_⟩
  rintro _ rfl
  exact ⟨MI, ML, Q, rfl, hI⟩
theorem op8 (hR : ∀ DI DL Q, R DI DL Q → ∃ k c, IC k c DI DL Q) (x y : Int32) : xOpL (xInv R) 90 152 [.int x, .int y] := by
  intro MI ML Q hI
  obtain ⟨k, c, hC⟩ := hR _ _ _ hI.2
  obtain ⟨c1, c2, c3, c4, c5⟩ := hC.get
  have key : ∃ v : Int64, xm_Ev xz 90 [.ref 0, .int x, .int y] (xM MI ML Q) (fun r => r = (some (.long v), xM MI ML Q)) ∧ xm_Ev xz 152 [.ref 45, .int x, .int y] (xM MI ML Q) (fun r => r = (some (.long v), xM MI ML Q)) := by
    by_cases hn : ¬ x < 0 ∧ x < nI c
    · obtain ⟨i, hi, rfl⟩ := nI_in2 (by omega) hn
      obtain ⟨q1, q2, q3, q4⟩ := c4.at (i := i) (by omega)
      obtain ⟨-, -, -, -, -, -, -, f7, f8, -⟩ := c5 i hi
      have hv : vp_in (nI i) 16 := vp_in_nI (by omega) (by decide)
      refine ⟨if y = 0 then ML 64 i else ML 65 i, xm_in (xb90_0 ⟨_, c89 _, ?_⟩), xm_in (xb152_0 ⟨fun h => absurd h hn.1, fun _ => ⟨fun _ => ?_, fun h => ?_⟩⟩)⟩
      · rintro _ rfl
        rw [c2, decide_eq_true hn]
        refine xb90_5 ⟨fun h => absurd h (by decide), fun _ => ⟨fun h => ⟨hv, Q i - 1, q1, q2, ?_⟩, fun h => ⟨hv, Q i - 1, q1, q2, ?_⟩⟩⟩
        · rw [f7, if_pos h]
        · rw [f8, if_neg h]
      · rw [nI_clamp (by omega)]
        exact ⟨fun h => ⟨hv, by rw [if_pos h]⟩, fun h => ⟨hv, by rw [if_neg h]⟩⟩
      · rw [c3] at h
        exact absurd hn.2 h
    · refine ⟨0, xm_in (xb90_0 ⟨_, c89 _, ?_⟩), xm_in (xb152_0 ⟨fun _ => rfl, fun h => ⟨fun h2 => ?_, fun _ => rfl⟩⟩)⟩
      · rintro _ rfl
        rw [c2, decide_eq_false hn]
        exact xb90_5 ⟨fun _ => rfl, fun h => absurd rfl h⟩
      · rw [c3] at h2
        exact absurd ⟨h, h2⟩ hn
  obtain ⟨v, g1, g2⟩ := key
  refine g1.imp ?_
  rintro _ rfl
  refine ⟨v, MI, ML, Q, rfl, g2.imp ?_⟩
  rintro _ rfl
  exact ⟨MI, ML, Q, rfl, hI⟩
end OPS3
