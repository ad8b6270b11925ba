theorem xu {α : Type} (f : Nat → Nat → α) (k i : Nat) (v : α) (a j : Nat) : xm_up f k i v a j = if a = k ∧ j = i then v else f a j := by
  by_cases h : a = k
  · subst h
    rw [xm_up_self]
    by_cases h2 : j = i
    · rw [if_pos h2, if_pos ⟨rfl, h2⟩]
    · rw [if_neg h2, if_neg (fun q => h2 q.2)]
  · rw [xm_up_ne h, if_neg (fun q => h q.1)]
def bI (b : Bool) : Int32 := bif b then 1 else 0
theorem bI01 (b : Bool) : bI b = 0 ∨ bI b = 1 := by cases b <;> simp [bI]
theorem bI_0 {b : Bool} : bI b = 0 ↔ b = false := by cases b <;> simp [bI]
abbrev xM (MI : Nat → Nat → Int32) (ML : Nat → Nat → Int64) (Q : Nat → Nat) : xm_M := (xSH, MI, ML, xmr Q)
/-- t of q bytes are written behind n -/
def apF (cb cs js n q t : Nat) (B : Nat → Int32) (MI : Nat → Nat → Int32) : Nat → Nat → Int32 := fun a j => if a = cb ∧ n ≤ j ∧ j < n + t then B (q - 1 - (j - n)) else if a = cs ∧ j = js then nI (n + t) else MI a j
theorem apF_0 {cb cs js n q : Nat} {B : Nat → Int32} {MI : Nat → Nat → Int32} (h : MI cs js = nI n) : apF cb cs js n q 0 B MI = MI := by
  funext a j
  unfold apF
  rw [if_neg (by omega)]
  by_cases h2 : a = cs ∧ j = js
  · rw [if_pos h2, h2.1, h2.2, h]; rfl
  · rw [if_neg h2]
theorem apF_sz {cb cs js n q t : Nat} {B : Nat → Int32} {MI : Nat → Nat → Int32} (hne : cs ≠ cb) : apF cb cs js n q t B MI cs js = nI (n + t) := by
  unfold apF
  rw [if_neg (fun h => hne h.1), if_pos ⟨rfl, rfl⟩]
theorem apF_ne {cb cs js n q t a j : Nat} {B : Nat → Int32} {MI : Nat → Nat → Int32} (h1 : a ≠ cb) (h2 : ¬ (a = cs ∧ j = js)) : apF cb cs js n q t B MI a j = MI a j := by
  unfold apF
  rw [if_neg (fun h => h1 h.1), if_neg h2]
theorem apF_s {cb cs js n q t : Nat} {B : Nat → Int32} {MI : Nat → Nat → Int32} (hne : cs ≠ cb) : xm_up (xm_up (apF cb cs js n q t B MI) cb (n + t) (B (q - 1 - t))) cs js (nI (n + t) + 1) = apF cb cs js n q (t + 1) B MI := by
  funext a j
  rw [xu, xu]
  unfold apF
  by_cases h1 : a = cs ∧ j = js
  · rw [if_pos h1, if_neg (fun h => hne (h1.1.symm.trans h.1)), if_pos h1, nI_1]
    rfl
  · rw [if_neg h1, if_neg h1, if_neg h1]
    by_cases h2 : a = cb ∧ j = n + t
    · rw [if_pos h2, if_pos ⟨h2.1, by omega, by omega⟩]
      congr 1
      omega
    · rw [if_neg h2]
      by_cases h3 : a = cb ∧ n ≤ j ∧ j < n + t
      · rw [if_pos h3, if_pos ⟨h3.1, h3.2.1, by omega⟩]
      · rw [if_neg h3, if_neg (fun h => h3 ⟨h.1, h.2.1, by
          have := h.2.2
          have : ¬ j = n + t := fun e => h2 ⟨h.1, e⟩
          omega⟩)]
/-- the byte of v that stands d bytes from its end -/
def byA (v : Int64) (d : Nat) : Int32 := (Int64.toInt32 (UInt64.toInt64 (Int64.toUInt64 v >>> (Int64.toUInt64 (Int32.toInt64 ((8 : Int32) * nI d)) &&& Int64.toUInt64 63)))) &&& (255 : Int32)
theorem byA_lt (v : Int64) (d : Nat) : ∃ c : Nat, c < 256 ∧ byA v d = nI c := pk_andE _ 8 rfl
theorem byB (v : Int64) (d : Nat) : Int64.toInt32 ((UInt64.toInt64 (Int64.toUInt64 v >>> (Int64.toUInt64 (Int32.toInt64 ((8 : Int32) * nI d)) &&& Int64.toUInt64 63))) &&& (255 : Int64)) = byA v d := by
  unfold byA
  rw [Int64.toInt32_and]
  rfl
theorem l10 {P : xm_R → Prop} {v : Int64} {ML : Nat → Nat → Int64} {Q : Nat → Nat} {n q : Nat} {MI : Nat → Nat → Int32} (hn : n + q ≤ 400) (hp : P (some (.int 1), xM (apF 3 2 1 n q q (byA v) MI) ML Q)) : ∀ (d t : Nat), t + d = q → xq10 P (30, [some (.ref 2), none, some (.long v), none, some (.int (nI d - 1))], [], xM (apF 3 2 1 n q t (byA v) MI) ML Q, 0, 0) := by
  intro d
  induction d with
  | zero =>
    intro t ht
    have : t = q := by omega
    subst this
    exact xb10_30 ⟨fun _ => ⟨Or.inr rfl, hp⟩, fun h => absurd (show nI 0 - 1 < 0 by decide) h⟩
  | succ d ih =>
    intro t ht
    rw [nI_pred]
    refine xb10_30 ⟨fun h => absurd h (nI_pos (by omega)), fun _ => ⟨?_, ?_⟩⟩
    · rw [apF_sz (by decide)]
      exact vp_in_nI (by omega) (by decide)
    · rw [apF_sz (by decide), nI_clamp (by omega)]
      have e : q - 1 - t = d := by omega
      have h2 := apF_s (cb := 3) (cs := 2) (js := 1) (n := n) (q := q) (t := t) (B := byA v) (MI := MI) (by decide)
      rw [e] at h2
      have h3 := ih (t + 1) (by omega)
      rw [← h2] at h3
      rw [Int32.sub_eq_add_neg] at h3
      exact h3
theorem l114 {P : xm_R → Prop} {v : Int64} {ML : Nat → Nat → Int64} {Q : Nat → Nat} {n q : Nat} {MI : Nat → Nat → Int32} (hn : n + q ≤ 400) (hp : P (some (.int 1), xM (apF 46 45 1 n q q (byA v) MI) ML Q)) : ∀ (d t : Nat), t + d = q → xq114 P (30, [some (.ref 45), none, some (.long v), none, some (.int (nI d - 1))], [], xM (apF 46 45 1 n q t (byA v) MI) ML Q, 0, 0) := by
  intro d
  induction d with
  | zero =>
    intro t ht
    have : t = q := by omega
    subst this
    exact xb114_30 ⟨fun _ => ⟨Or.inr rfl, hp⟩, fun h => absurd (show nI 0 - 1 < 0 by decide) h⟩
  | succ d ih =>
    intro t ht
    rw [nI_pred]
    refine xb114_30 ⟨fun h => absurd h (nI_pos (by omega)), fun _ => ⟨?_, ?_⟩⟩
    · rw [apF_sz (by decide)]
      exact vp_in_nI (by omega) (by decide)
    · rw [apF_sz (by decide), nI_clamp (by omega), byB]
      have e : q - 1 - t = d := by omega
      have h2 := apF_s (cb := 46) (cs := 45) (js := 1) (n := n) (q := q) (t := t) (B := byA v) (MI := MI) (by decide)
      rw [e] at h2
      have h3 := ih (t + 1) (by omega)
      rw [← h2] at h3
      rw [Int32.sub_eq_add_neg] at h3
      exact h3
theorem in18 {x : Int32} (h1 : ¬ x < 1) (h2 : ¬ 8 < x) : ∃ q : Nat, 1 ≤ q ∧ q ≤ 8 ∧ x = nI q := by
  obtain ⟨j, h3, h4⟩ := nI_of2 (x := x) (M := 8) (n := 8) rfl (fun h => h1 (by
    rw [Int32.lt_iff_toInt_lt] at h ⊢
    have : (0 : Int32).toInt = 0 := rfl
    have : (1 : Int32).toInt = 1 := rfl
    omega)) (by
    rw [Int32.le_iff_toInt_le]
    rw [Int32.lt_iff_toInt_lt] at h2
    omega)
  refine ⟨j, ?_, h3, h4⟩
  by_cases hj : j = 0
  · subst hj; subst h4; exact absurd (by decide) h1
  · omega
/-- put on both sides -/
theorem c10 {MI : Nat → Nat → Int32} {ML : Nat → Nat → Int64} {Q : Nat → Nat} {n : Nat} (hs : MI 2 1 = nI n) (hn : n ≤ 400) (x : Int32) (v : Int64) : xm_Ev xz 10 [.ref 2, .int x, .long v] (xM MI ML Q) (fun r => (∃ q : Nat, x = nI q ∧ 1 ≤ q ∧ q ≤ 8 ∧ n + q ≤ 400 ∧ r = (some (.int 1), xM (apF 3 2 1 n q q (byA v) MI) ML Q)) ∨ ((∀ q : Nat, x = nI q → 1 ≤ q → q ≤ 8 → n + q ≤ 400 → False) ∧ r = (some (.int 0), xM MI ML Q))) := by
  refine xm_in (xb10_0 ⟨fun h1 => ⟨Or.inl rfl, Or.inr ⟨fun q e h2 h3 _ => ?_, rfl⟩⟩, fun h1 => ⟨fun h2 => ⟨Or.inl rfl, Or.inr ⟨fun q e h3 h4 _ => ?_, rfl⟩⟩, fun h2 => ?_⟩⟩)
  · subst e
    exact absurd h1 (nI_nlt (a := q) (b := 1) h2 (by omega))
  · subst e
    exact absurd h2 (nI_nlt (a := 8) (b := q) h4 (by decide))
  · obtain ⟨q, q1, q2, rfl⟩ := in18 h1 h2
    rw [hs, nI_add]
    refine ⟨fun h3 => ?_, fun h3 => ⟨Or.inl rfl, Or.inr ⟨fun q' e _ q4 h4 => ?_, rfl⟩⟩⟩
    · have h3 : n + q ≤ 400 := (nI_leI (b := 400) (by omega) (by decide)).mp h3
      have := l10 (P := fun r => (∃ q' : Nat, nI q = nI q' ∧ 1 ≤ q' ∧ q' ≤ 8 ∧ n + q' ≤ 400 ∧ r = (some (.int 1), xM (apF 3 2 1 n q' q' (byA v) MI) ML Q)) ∨ ((∀ q' : Nat, nI q = nI q' → 1 ≤ q' → q' ≤ 8 → n + q' ≤ 400 → False) ∧ r = (some (.int 0), xM MI ML Q))) (v := v) (ML := ML) (Q := Q) (MI := MI) h3 (Or.inl ⟨q, rfl, q1, q2, h3, rfl⟩) q 0 (by omega)
      rw [apF_0 hs] at this
      exact this
    · have : q = q' := (nI_eq (by omega) (by omega)).mp e
      subst this
      exact h3 ((nI_leI (b := 400) (by omega) (by decide)).mpr h4)
theorem c114 {MI : Nat → Nat → Int32} {ML : Nat → Nat → Int64} {Q : Nat → Nat} {n : Nat} (hs : MI 45 1 = nI n) (hn : n ≤ 400) (x : Int32) (v : Int64) : xm_Ev xz 114 [.ref 45, .int x, .long v] (xM MI ML Q) (fun r => (∃ q : Nat, x = nI q ∧ 1 ≤ q ∧ q ≤ 8 ∧ n + q ≤ 400 ∧ r = (some (.int 1), xM (apF 46 45 1 n q q (byA v) MI) ML Q)) ∨ ((∀ q : Nat, x = nI q → 1 ≤ q → q ≤ 8 → n + q ≤ 400 → False) ∧ r = (some (.int 0), xM MI ML Q))) := by
  refine xm_in (xb114_0 ⟨fun h1 => ⟨Or.inl rfl, Or.inr ⟨fun q e h2 h3 _ => ?_, rfl⟩⟩, fun h1 => ⟨fun h2 => ⟨Or.inl rfl, Or.inr ⟨fun q e h3 h4 _ => ?_, rfl⟩⟩, fun h2 => ?_⟩⟩)
  · subst e
    exact absurd h1 (nI_nlt (a := q) (b := 1) h2 (by omega))
  · subst e
    exact absurd h2 (nI_nlt (a := 8) (b := q) h4 (by decide))
  · obtain ⟨q, q1, q2, rfl⟩ := in18 h1 h2
    rw [hs, nI_add]
    refine ⟨fun h3 => ?_, fun h3 => ⟨Or.inl rfl, Or.inr ⟨fun q' e _ q4 h4 => ?_, rfl⟩⟩⟩
    · have h3 : n + q ≤ 400 := (nI_leI (b := 400) (by omega) (by decide)).mp h3
      have := l114 (P := fun r => (∃ q' : Nat, nI q = nI q' ∧ 1 ≤ q' ∧ q' ≤ 8 ∧ n + q' ≤ 400 ∧ r = (some (.int 1), xM (apF 46 45 1 n q' q' (byA v) MI) ML Q)) ∨ ((∀ q' : Nat, nI q = nI q' → 1 ≤ q' → q' ≤ 8 → n + q' ≤ 400 → False) ∧ r = (some (.int 0), xM MI ML Q))) (v := v) (ML := ML) (Q := Q) (MI := MI) h3 (Or.inl ⟨q, rfl, q1, q2, h3, rfl⟩) q 0 (by omega)
      rw [apF_0 hs] at this
      exact this
    · have : q = q' := (nI_eq (by omega) (by omega)).mp e
      subst this
      exact h3 ((nI_leI (b := 400) (by omega) (by decide)).mpr h4)
