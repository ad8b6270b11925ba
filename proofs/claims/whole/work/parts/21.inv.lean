/-- what lasts of the memory: names, class files and what follows from them; not the draft, not what a call writes for itself -/
def dur (a j : Nat) : Bool := (Nat.ble 12 a && Nat.ble a 44 && !(Nat.beq a 12 && Nat.beq j 5)) || (Nat.beq a 45 && (Nat.beq j 19 || Nat.beq j 24)) || (Nat.ble 55 a && Nat.ble a 65)
def dm (MI : Nat → Nat → Int32) : Nat → Nat → Int32 := fun a j => bif dur a j then MI a j else 0
def dl (ML : Nat → Nat → Int64) : Nat → Nat → Int64 := fun a j => bif dur a j then ML a j else 0
theorem dm_congr {MI MI' : Nat → Nat → Int32} (h : ∀ a j, dur a j = true → MI' a j = MI a j) : dm MI' = dm MI := by
  funext a j
  unfold dm
  cases hd : dur a j with
  | true => exact h a j hd
  | false => rfl
theorem dl_congr {ML ML' : Nat → Nat → Int64} (h : ∀ a j, dur a j = true → ML' a j = ML a j) : dl ML' = dl ML := by
  funext a j
  unfold dl
  cases hd : dur a j with
  | true => exact h a j hd
  | false => rfl
theorem dm_at {MI : Nat → Nat → Int32} {a j : Nat} (h : dur a j = true) : dm MI a j = MI a j := by
  unfold dm
  rw [h]
  rfl
theorem dl_at {ML : Nat → Nat → Int64} {a j : Nat} (h : dur a j = true) : dl ML a j = ML a j := by
  unfold dl
  rw [h]
  rfl
theorem dur_of {a j : Nat} (h : dur a j = true) : (12 ≤ a ∧ a ≤ 44 ∧ ¬ (a = 12 ∧ j = 5)) ∨ (a = 45 ∧ (j = 19 ∨ j = 24)) ∨ (55 ≤ a ∧ a ≤ 65) := by
  unfold dur at h
  simp only [Bool.or_eq_true, Bool.and_eq_true, Bool.not_eq_true', Nat.ble_eq, Nat.beq_eq] at h
  rcases h with (⟨⟨h1, h2⟩, h3⟩ | ⟨h1, h2⟩) | ⟨h1, h2⟩
  · refine Or.inl ⟨h1, h2, fun q => ?_⟩
    obtain ⟨q1, q2⟩ := q
    subst q1; subst q2
    cases h3
  · exact Or.inr (Or.inl ⟨h1, h2⟩)
  · exact Or.inr (Or.inr ⟨h1, h2⟩)
theorem of_dur {a j : Nat} (h : (12 ≤ a ∧ a ≤ 44 ∧ ¬ (a = 12 ∧ j = 5)) ∨ (a = 45 ∧ (j = 19 ∨ j = 24)) ∨ (55 ≤ a ∧ a ≤ 65)) : dur a j = true := by
  unfold dur
  simp only [Bool.or_eq_true, Bool.and_eq_true, Bool.not_eq_true', Nat.ble_eq, Nat.beq_eq]
  rcases h with ⟨h1, h2, h3⟩ | ⟨h1, h2⟩ | ⟨h1, h2⟩
  · refine Or.inl (Or.inl ⟨⟨h1, h2⟩, ?_⟩)
    cases hq : (Nat.beq a 12 && Nat.beq j 5) with
    | false => rfl
    | true =>
      obtain ⟨q1, q2⟩ := xm_and hq
      exact absurd ⟨Nat.eq_of_beq_eq_true q1, Nat.eq_of_beq_eq_true q2⟩ h3
  · exact Or.inl (Or.inr ⟨h1, h2⟩)
  · exact Or.inr ⟨h1, h2⟩
/-- the draft: the same bytes on both sides -/
def IA (MI : Nat → Nat → Int32) : Prop := ∃ n : Nat, n ≤ 400 ∧ MI 2 1 = nI n ∧ MI 45 1 = nI n ∧ ∀ i, i < n → MI 46 i = MI 3 i ∧ ∃ c : Nat, c < 256 ∧ MI 3 i = nI c
/-- the invariant: the draft, and R of what lasts -/
def xInv (R : (Nat → Nat → Int32) → (Nat → Nat → Int64) → (Nat → Nat) → Prop) (MI : Nat → Nat → Int32) (ML : Nat → Nat → Int64) (Q : Nat → Nat) : Prop := IA MI ∧ R (dm MI) (dl ML) Q
section OPS
variable {R : (Nat → Nat → Int32) → (Nat → Nat → Int64) → (Nat → Nat) → Prop}
theorem op0 (x : Int32) (v : Int64) : xOpI (xInv R) 9 114 [.int x, .long v] := by
  intro MI ML Q ⟨⟨n, hn, h1, h2, h3⟩, hR⟩
  refine xm_in (xb9_0 ⟨_, c10 h1 hn x v, ?_⟩)
  rintro _ (⟨q, rfl, q1, q2, q3, rfl⟩ | ⟨hno, rfl⟩)
  · refine xb9_12 ⟨Or.inr rfl, 1, apF 3 2 1 n q q (byA v) MI, ML, Q, rfl, ?_⟩
    have e : apF 3 2 1 n q q (byA v) MI 45 1 = nI n := by rw [apF_ne (by decide) (by decide), h2]
    refine (c114 e hn (nI q) v).imp ?_
    rintro _ (⟨q', e', q1', q2', q3', rfl⟩ | ⟨hno, rfl⟩)
    · have : q = q' := (nI_eq (by omega) (by omega)).mp e'
      subst this
      refine ⟨_, ML, Q, rfl, ⟨n + q, q3, ?_, ?_, fun i hi => ?_⟩, ?_⟩
      · rw [apF_ne (by decide) (by decide), apF_sz (by decide)]
      · rw [apF_sz (by decide)]
      · have e3 : apF 46 45 1 n q q (byA v) (apF 3 2 1 n q q (byA v) MI) 3 i = apF 3 2 1 n q q (byA v) MI 3 i := apF_ne (by decide) (by omega)
        rw [e3]
        by_cases hl : n ≤ i
        · have e4 : apF 3 2 1 n q q (byA v) MI 3 i = byA v (q - 1 - (i - n)) := by unfold apF; rw [if_pos ⟨rfl, hl, hi⟩]
          have e5 : apF 46 45 1 n q q (byA v) (apF 3 2 1 n q q (byA v) MI) 46 i = byA v (q - 1 - (i - n)) := by unfold apF; rw [if_pos ⟨rfl, hl, hi⟩]
          rw [e4, e5]
          exact ⟨rfl, byA_lt _ _⟩
        · have e4 : apF 3 2 1 n q q (byA v) MI 3 i = MI 3 i := by unfold apF; rw [if_neg (by omega), if_neg (by omega)]
          have e5 : apF 46 45 1 n q q (byA v) (apF 3 2 1 n q q (byA v) MI) 46 i = apF 3 2 1 n q q (byA v) MI 46 i := by
            show (if 46 = 46 ∧ n ≤ i ∧ i < n + q then _ else if (46 : Nat) = 45 ∧ i = 1 then _ else _) = _
            rw [if_neg (by omega), if_neg (by omega)]
          have e6 : apF 3 2 1 n q q (byA v) MI 46 i = MI 46 i := apF_ne (by decide) (by omega)
          rw [e4, e5, e6]
          exact h3 i (by omega)
      · have e : dm (apF 46 45 1 n q q (byA v) (apF 3 2 1 n q q (byA v) MI)) = dm MI := dm_congr fun a j hd => by
          have := dur_of hd
          rw [apF_ne (by omega) (by omega), apF_ne (by omega) (by omega)]
        rw [e]
        exact hR
    · exact absurd q3 (fun h => hno q rfl q1 q2 h)
  · refine xb9_12 ⟨Or.inl rfl, 0, MI, ML, Q, rfl, ?_⟩
    refine (c114 h2 hn x v).imp ?_
    rintro _ (⟨q', e', q1', q2', q3', rfl⟩ | ⟨-, rfl⟩)
    · exact absurd q3' (fun h => hno q' e' q1' q2' h)
    · exact ⟨MI, ML, Q, rfl, ⟨n, hn, h1, h2, h3⟩, hR⟩
theorem op1 : xOpV (xInv R) 11 115 [] := by
  intro MI ML Q ⟨⟨n, hn, h1, h2, h3⟩, hR⟩
  refine xm_in (xb11_0 ⟨fun r => r = (none, xM (xm_up MI 2 1 0) ML Q), xm_in (xb12_0 rfl), ?_⟩)
  rintro _ rfl
  refine xb11_10 ⟨_, ML, Q, rfl, xm_in (xb115_0 ⟨_, ML, Q, rfl, ⟨0, by decide, ?_, ?_, fun i hi => absurd hi (Nat.not_lt_zero i)⟩, ?_⟩)⟩
  · rw [xm_up_ne (by decide), xu, if_pos ⟨rfl, rfl⟩]; rfl
  · rw [xu, if_pos ⟨rfl, rfl⟩]; rfl
  · have e : dm (xm_up (xm_up MI 2 1 0) 45 1 0) = dm MI := dm_congr fun a j hd => by
      have := dur_of hd
      rw [xu, if_neg (by omega), xu, if_neg (by omega)]
    rw [e]
    exact hR
end OPS
/-- a name, as both sides keep it -/
def IBn (DI : Nat → Nat → Int32) (a : Nat) : Prop := ∃ len : Nat, 1 ≤ len ∧ len ≤ 16 ∧ DI 14 a = nI len ∧ DI 56 a = nI len ∧ (∀ i, i < len → DI 55 (16 * a + i) = DI 13 (16 * a + i)) ∧ DI 13 (16 * a) ≠ 47 ∧ ∃ pl : Nat, DI 15 a = nI pl ∧ pl < len ∧ (∀ i, i < len → DI 13 (16 * a + i) = 47 → i ≤ pl) ∧ (pl ≠ 0 → DI 13 (16 * a + pl) = 47)
def IB (k : Nat) (DI : Nat → Nat → Int32) : Prop := k ≤ 48 ∧ DI 12 4 = nI k ∧ DI 45 19 = nI k ∧ ∀ a, a < k → IBn DI a
theorem c86 {MI : Nat → Nat → Int32} {ML : Nat → Nat → Int64} {Q : Nat → Nat} (x : Int32) : xm_Ev xz 86 [.ref 12, .int x] (xM MI ML Q) (fun r => r = (some (.int (bI (decide (¬ x < 0 ∧ x < MI 12 4)))), xM MI ML Q)) := by
  refine xm_in (xb86_0 ⟨fun h => ⟨Or.inl rfl, ?_⟩, fun h => ⟨fun h2 => ⟨Or.inl rfl, ?_⟩, fun h2 => ⟨Or.inr rfl, ?_⟩⟩⟩)
  · rw [decide_eq_false (fun q => q.1 h)]; rfl
  · rw [decide_eq_false (fun q => k2_nle q.2 h2)]; rfl
  · rw [decide_eq_true ⟨h, k2_lt h2⟩]; rfl
theorem c148 {MI : Nat → Nat → Int32} {ML : Nat → Nat → Int64} {Q : Nat → Nat} (x : Int32) : xm_Ev xz 148 [.ref 45, .int x] (xM MI ML Q) (fun r => r = (some (.int (bI (decide (¬ x < 0 ∧ x < MI 45 19)))), xM MI ML Q)) := by
  refine xm_in (xb148_0 ⟨fun h => ⟨Or.inl rfl, ?_⟩, fun h => ⟨fun h2 => ⟨Or.inl rfl, ?_⟩, fun h2 => ⟨Or.inr rfl, ?_⟩⟩⟩)
  · rw [decide_eq_false (fun q => q.1 h)]; rfl
  · rw [decide_eq_false (fun q => k2_nle q.2 h2)]; rfl
  · rw [decide_eq_true ⟨h, k2_lt h2⟩]; rfl
theorem nI_in2 {x : Int32} {k : Nat} (hk : k < 2 ^ 31) (h : ¬ x < 0 ∧ x < nI k) : ∃ a : Nat, a < k ∧ x = nI a := by
  rcases pk_ix x hk with h1 | h1 | h1
  · exact absurd h1 h.1
  · exact absurd h1 (k2_nle h.2)
  · exact h1
section OPS2
variable {R : (Nat → Nat → Int32) → (Nat → Nat → Int64) → (Nat → Nat) → Prop}
theorem op4 (hB : ∀ DI DL Q, R DI DL Q → ∃ k, IB k DI) : xOpI (xInv R) 83 146 [] := by
  intro MI ML Q hI
  obtain ⟨k, hk, h1, h2, -⟩ := hB _ _ _ hI.2
  refine xm_in (xb83_0 ⟨_, MI, ML, Q, rfl, xm_in (xb146_0 ?_)⟩)
  refine ⟨MI, ML, Q, ?_, hI⟩
  have h1 : MI 12 4 = nI k := h1
  have h2 : MI 45 19 = nI k := h2
  rw [h1, h2]
theorem op5 (hB : ∀ DI DL Q, R DI DL Q → ∃ k, IB k DI) (x y : Int32) : xOpI (xInv R) 84 147 [.int x, .int y] := by
  intro MI ML Q hI
  obtain ⟨k, hk, h1, h2, h3⟩ := hB _ _ _ hI.2
  have h1 : MI 12 4 = nI k := h1
  have h2 : MI 45 19 = nI k := h2
  have key : ∃ v : Int32, xm_Ev xz 85 [.ref 12, .int x, .int y] (xM MI ML Q) (fun r => r = (some (.int v), xM MI ML Q)) ∧ xm_Ev xz 147 [.ref 45, .int x, .int y] (xM MI ML Q) (fun r => r = (some (.int v), xM MI ML Q)) := by
    by_cases hn : ¬ x < 0 ∧ x < nI k
    · obtain ⟨a, ha, rfl⟩ := nI_in2 (by omega) hn
      obtain ⟨len, l1, l2, l3, l4, l5, -⟩ := h3 a ha
      have l3 : MI 14 a = nI len := l3
      have l4 : MI 56 a = nI len := l4
      by_cases hy : ¬ y < 0 ∧ y < nI len
      · obtain ⟨i, hi, rfl⟩ := nI_in2 (by omega) hy
        have l5 : MI 55 (16 * a + i) = MI 13 (16 * a + i) := l5 i hi
        have e1 : nI a * 16 + nI i = nI (16 * a + i) := by rw [show (16 : Int32) = nI 16 from rfl, pk_mul, nI_add, Nat.mul_comm]
        have e2 : 16 * nI a + nI i = nI (16 * a + i) := by rw [show (16 : Int32) = nI 16 from rfl, pk_mul, nI_add]
        refine ⟨MI 13 (16 * a + i), xm_in (xb85_0 ⟨_, c86 _, ?_⟩), xm_in (xb147_0 ⟨_, c148 _, ?_⟩)⟩
        · rintro _ rfl
          rw [h1, decide_eq_true hn]
          refine xb85_5 ⟨fun h => absurd h (by decide), fun _ => ⟨fun h => absurd h hy.1, fun _ => ⟨vp_in_nI (by omega) (by decide), ?_⟩⟩⟩
          rw [nI_clamp (by omega), l3, e1, nI_clamp (by omega)]
          exact ⟨fun _ => ⟨vp_in_nI (by omega) (by decide), rfl⟩, fun h => absurd hy.2 h⟩
        · rintro _ rfl
          rw [h2, decide_eq_true hn]
          refine xb147_5 ⟨fun h => absurd h (by decide), fun _ => ⟨fun h => absurd h hy.1, fun _ => ⟨vp_in_nI (by omega) (by decide), ?_⟩⟩⟩
          rw [nI_clamp (by omega), l4, e2, nI_clamp (by omega), l5]
          exact ⟨fun h => absurd h (k2_nle hy.2), fun _ => ⟨vp_in_nI (by omega) (by decide), rfl⟩⟩
      · refine ⟨-1, xm_in (xb85_0 ⟨_, c86 _, ?_⟩), xm_in (xb147_0 ⟨_, c148 _, ?_⟩)⟩
        · rintro _ rfl
          rw [h1, decide_eq_true hn]
          refine xb85_5 ⟨fun h => absurd h (by decide), fun _ => ⟨fun _ => rfl, fun h => ⟨vp_in_nI (by omega) (by decide), ?_⟩⟩⟩
          rw [nI_clamp (by omega), l3]
          exact ⟨fun h2 => absurd ⟨h, h2⟩ hy, fun _ => rfl⟩
        · rintro _ rfl
          rw [h2, decide_eq_true hn]
          refine xb147_5 ⟨fun h => absurd h (by decide), fun _ => ⟨fun _ => rfl, fun h => ⟨vp_in_nI (by omega) (by decide), ?_⟩⟩⟩
          rw [nI_clamp (by omega), l4]
          exact ⟨fun _ => rfl, fun h2 => absurd ⟨h, k2_lt h2⟩ hy⟩
    · refine ⟨-1, xm_in (xb85_0 ⟨_, c86 _, ?_⟩), xm_in (xb147_0 ⟨_, c148 _, ?_⟩)⟩
      · rintro _ rfl
        rw [h1, decide_eq_false hn]
        exact xb85_5 ⟨fun _ => rfl, fun h => absurd rfl h⟩
      · rintro _ rfl
        rw [h2, decide_eq_false hn]
        exact xb147_5 ⟨fun _ => rfl, fun h => absurd rfl h⟩
  obtain ⟨v, g1, g2⟩ := key
  refine xm_in (xb84_0 ⟨_, g1, ?_⟩)
  rintro _ rfl
  refine xb84_9 ⟨v, MI, ML, Q, rfl, g2.imp ?_⟩
  rintro _ rfl
  exact ⟨MI, ML, Q, rfl, hI⟩
end OPS2
