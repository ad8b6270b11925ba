/-- r is the class file of name x among those from lo to c: of the least jar, the first -/
def isPr (lo c : Nat) (N J : Nat → Int32) (x r : Int32) : Prop := (r = -1 ∧ ∀ i, lo ≤ i → i < c → N i ≠ x) ∨ ∃ i, lo ≤ i ∧ i < c ∧ r = nI i ∧ N i = x ∧ (∀ j, lo ≤ j → j < c → N j = x → (J i).toInt ≤ (J j).toInt) ∧ ∀ j, lo ≤ j → j < i → N j = x → (J i).toInt < (J j).toInt
theorem isPr_uniq {c : Nat} {N J : Nat → Int32} {x r r' : Int32} (h : isPr 0 c N J x r) (h' : isPr 0 c N J x r') : r = r' := by
  rcases h with ⟨h1, h2⟩ | ⟨i, i1, i2, i3, i4, i5, i6⟩ <;> rcases h' with ⟨g1, g2⟩ | ⟨j, j1, j2, j3, j4, j5, j6⟩
  · rw [h1, g1]
  · exact absurd j4 (h2 j j1 j2)
  · exact absurd i4 (g2 i i1 i2)
  · rw [i3, j3]
    have a := i5 j j1 j2 j4
    have b := j5 i i1 i2 i4
    by_cases hij : i < j
    · have := j6 i i1 hij i4
      omega
    · by_cases hji : j < i
      · have := i6 j j1 hji j4
        omega
      · rw [show i = j by omega]
theorem isPr_no {d c : Nat} {N J : Nat → Int32} {x r : Int32} (h : isPr (d + 1) c N J x r) (hn : N d ≠ x) : isPr d c N J x r := by
  have key : ∀ j, d ≤ j → N j = x → d + 1 ≤ j := fun j h1 h2 => by
    by_cases e : j = d
    · subst e; exact absurd h2 hn
    · omega
  rcases h with ⟨h1, h2⟩ | ⟨i, i1, i2, i3, i4, i5, i6⟩
  · exact Or.inl ⟨h1, fun i a b e => h2 i (key i a e) b e⟩
  · exact Or.inr ⟨i, by omega, i2, i3, i4, fun j a b e => i5 j (key j a e) b e, fun j a b e => i6 j (key j a e) b e⟩
theorem isPr_new {d c : Nat} {N J : Nat → Int32} {x r : Int32} (h : isPr (d + 1) c N J x r) (hd : d < c) (hn : N d = x) (hr : r = -1 ∨ ∃ i : Nat, i < 2 ^ 31 ∧ r = nI i ∧ (J d).toInt ≤ (J i).toInt) (hc : c < 2 ^ 31) : isPr d c N J x (nI d) := by
  refine Or.inr ⟨d, Nat.le_refl d, hd, rfl, hn, fun j a b e => ?_, fun j a b _ => by omega⟩
  by_cases hj : j = d
  · subst hj; exact Int.le_refl _
  · rcases h with ⟨h1, h2⟩ | ⟨i, i1, i2, i3, i4, i5, i6⟩
    · exact absurd e (h2 j (by omega) b)
    · have h5 := i5 j (by omega) b e
      rcases hr with hr | ⟨i', hi', hr, h6⟩
      · rw [i3] at hr
        exact absurd hr (fun q => by
          have := congrArg Int32.toInt q
          rw [nI_toInt (by omega)] at this
          have e2 : (-1 : Int32).toInt = -1 := rfl
          omega)
      · have : i = i' := (nI_eq (by omega) hi').mp (i3.symm.trans hr)
        subst this
        omega
theorem isPr_keep {d c : Nat} {N J : Nat → Int32} {x r : Int32} {i' : Nat} (h : isPr (d + 1) c N J x r) (hr : r = nI i') (hi' : i' < 2 ^ 31) (hl : (J i').toInt < (J d).toInt) (hc : c < 2 ^ 31) : isPr d c N J x r := by
  rcases h with ⟨h1, h2⟩ | ⟨i, i1, i2, i3, i4, i5, i6⟩
  · rw [h1] at hr
    exact absurd hr (fun q => by
      have := congrArg Int32.toInt q
      rw [nI_toInt hi'] at this
      have e2 : (-1 : Int32).toInt = -1 := rfl
      omega)
  · have : i = i' := (nI_eq (by omega) hi').mp (i3.symm.trans hr)
    subst this
    refine Or.inr ⟨i, by omega, i2, i3, i4, fun j a b e => ?_, fun j a b e => ?_⟩
    · by_cases hj : j = d
      · subst hj; omega
      · exact i5 j (by omega) b e
    · by_cases hj : j = d
      · subst hj; exact hl
      · exact i6 j (by omega) b e
theorem isPr_up {c : Nat} {N J : Nat → Int32} {x r : Int32} (h : isPr 0 c N J x r) (hn : N c ≠ x) : isPr 0 (c + 1) N J x r := by
  have key : ∀ j, j < c + 1 → N j = x → j < c := fun j h1 h2 => by
    by_cases e : j = c
    · subst e; exact absurd h2 hn
    · omega
  rcases h with ⟨h1, h2⟩ | ⟨i, i1, i2, i3, i4, i5, i6⟩
  · exact Or.inl ⟨h1, fun i a b e => h2 i a (key i b e) e⟩
  · exact Or.inr ⟨i, i1, by omega, i3, i4, fun j a b e => i5 j a (key j b e) e, fun j a b e => i6 j a b e⟩
theorem isPr_upN {c : Nat} {N J : Nat → Int32} {x r : Int32} (h : isPr 0 c N J x r) (hn : N c = x) (hr : r = -1 ∨ ∃ i : Nat, i < 2 ^ 31 ∧ r = nI i ∧ (J c).toInt < (J i).toInt) (hc : c < 2 ^ 31) : isPr 0 (c + 1) N J x (nI c) := by
  have key : ∀ j, j < c → N j = x → (J c).toInt < (J j).toInt := fun j b e => by
    rcases h with ⟨h1, h2⟩ | ⟨i, i1, i2, i3, i4, i5, i6⟩
    · exact absurd e (h2 j (Nat.zero_le j) b)
    · have h5 := i5 j (Nat.zero_le j) b e
      rcases hr with hr | ⟨i', hi', hr, h6⟩
      · rw [i3] at hr
        exact absurd hr (fun q => by
          have := congrArg Int32.toInt q
          rw [nI_toInt (by omega)] at this
          have e2 : (-1 : Int32).toInt = -1 := rfl
          omega)
      · have : i = i' := (nI_eq (by omega) hi').mp (i3.symm.trans hr)
        subst this
        omega
  refine Or.inr ⟨c, Nat.zero_le c, by omega, rfl, hn, fun j a b e => ?_, fun j a b e => key j b e⟩
  by_cases hj : j = c
  · subst hj; exact Int.le_refl _
  · exact Int.le_of_lt (key j (by omega) e)
theorem isPr_upK {c : Nat} {N J : Nat → Int32} {x r : Int32} {i' : Nat} (h : isPr 0 c N J x r) (hr : r = nI i') (hi' : i' < 2 ^ 31) (hl : (J i').toInt ≤ (J c).toInt) (hc : c < 2 ^ 31) : isPr 0 (c + 1) N J x r := by
  rcases h with ⟨h1, h2⟩ | ⟨i, i1, i2, i3, i4, i5, i6⟩
  · rw [h1] at hr
    exact absurd hr (fun q => by
      have := congrArg Int32.toInt q
      rw [nI_toInt hi'] at this
      have e2 : (-1 : Int32).toInt = -1 := rfl
      omega)
  · have : i = i' := (nI_eq (by omega) hi').mp (i3.symm.trans hr)
    subst this
    refine Or.inr ⟨i, i1, by omega, i3, i4, fun j a b e => ?_, fun j a b e => i6 j a b e⟩
    by_cases hj : j = c
    · subst hj; exact hl
    · exact i5 j a (by omega) e
/-- the reference's search -/
theorem l150 {P : xm_R → Prop} {MI : Nat → Nat → Int32} {ML : Nat → Nat → Int64} {Q : Nat → Nat} {x : Int32} {c : Nat} (hc : c ≤ 16) (hp : ∀ v, isPr 0 c (MI 58) (MI 57) x v → P (some (.int v), xM MI ML Q)) : ∀ (d : Nat) (best : Int32), d ≤ c → isPr d c (MI 58) (MI 57) x best → xq150 P (9, [some (.ref 45), some (.int x), some (.int best), some (.int (nI d - 1))], [], xM MI ML Q, 0, 0) := by
  intro d
  induction d with
  | zero =>
    intro best _ h
    exact xb150_9 ⟨fun _ => hp best h, fun h => absurd (show nI 0 - 1 < 0 by decide) h⟩
  | succ d ih =>
    intro best hd h
    rw [nI_pred]
    have hin : vp_in (nI d) 16 := vp_in_nI (by omega) (by decide)
    have next : ∀ b', isPr d c (MI 58) (MI 57) x b' → xq150 P (9, [some (.ref 45), some (.int x), some (.int b'), some (.int (nI d + (-1)))], [], xM MI ML Q, 0, 0) := fun b' hb => by
      rw [← Int32.sub_eq_add_neg]
      exact ih b' (by omega) hb
    refine xb150_9 ⟨fun h => absurd h (nI_pos (by omega)), fun _ => ⟨hin, ?_⟩⟩
    rw [nI_clamp (by omega)]
    refine ⟨fun e => ⟨fun hb => ?_, fun hb => ?_⟩, fun e => next best (isPr_no h e)⟩
    · refine next _ (isPr_new h (by omega) e (Or.inl ?_) (by omega))
      rcases h with ⟨h1, -⟩ | ⟨i, -, i2, i3, -⟩
      · exact h1
      · rw [i3] at hb
        exact absurd hb (nI_pos (by omega))
    · rcases id h with ⟨h1, -⟩ | ⟨i, -, i2, i3, -⟩
      · rw [h1] at hb
        exact absurd (by decide) hb
      · subst i3
        rw [nI_clamp (by omega)]
        refine ⟨hin, vp_in_nI (by omega) (by decide), fun hl => ?_, fun hl => ?_⟩
        · exact next _ (isPr_keep h rfl (by omega) (Int32.lt_iff_toInt_lt.mp hl) (by omega))
        · exact next _ (isPr_new h (by omega) e (Or.inr ⟨i, by omega, rfl, Int32.le_iff_toInt_le.mp (k2_le hl)⟩) (by omega))
theorem c150 {MI : Nat → Nat → Int32} {ML : Nat → Nat → Int64} {Q : Nat → Nat} {c : Nat} (hc : c ≤ 16) (h : MI 45 24 = nI c) (x : Int32) : xm_Ev xz 150 [.ref 45, .int x] (xM MI ML Q) (fun r => ∃ v, r = (some (.int v), xM MI ML Q) ∧ isPr 0 c (MI 58) (MI 57) x v) := by
  refine xm_in (xb150_0 ?_)
  rw [h]
  exact l150 hc (fun v hv => ⟨v, rfl, hv⟩) c (-1) (Nat.le_refl c) (Or.inl ⟨rfl, fun i a b => by omega⟩)
/-- the rows of class files: each its own cell -/
def IQ (Q : Nat → Nat) : Prop := (∀ i, i < 16 → 24 ≤ Q i ∧ Q i ≤ 39) ∧ ∀ i j, i < 16 → j < 16 → Q i = Q j → i = j
theorem xSH_cf {f : Nat} (h1 : 23 ≤ f) (h2 : f ≤ 38) : xm_nth xSH f = some (3, 6) := by
  have := List.all_eq_true.mp (show ((List.range 39).all fun f => decide (f < 23) || decide (xm_nth xSH f = some (3, 6))) = true by decide +kernel) f (List.mem_range.mpr (by omega))
  rcases xm_or this with z | z
  · exact absurd (xm_dc z) (by omega)
  · exact xm_dc z
theorem IQ.at {Q : Nat → Nat} (h : IQ Q) {i : Nat} (hi : i < 16) : xmr Q 18 (Int32.toNatClampNeg (nI i)) = (Q i - 1) + 1 ∧ xm_nth xSH (Q i - 1) = some (3, 6) ∧ 23 ≤ Q i - 1 ∧ Q i - 1 ≤ 38 := by
  obtain ⟨h1, h2⟩ := h.1 i hi
  refine ⟨?_, xSH_cf (by omega) (by omega), by omega, by omega⟩
  rw [nI_clamp (by omega)]
  show Q i = Q i - 1 + 1
  omega
theorem c69 {MI : Nat → Nat → Int32} {ML : Nat → Nat → Int64} {Q : Nat → Nat} (x : Int32) : xm_Ev xz 69 [.ref 17, .int x] (xM MI ML Q) (fun r => (∃ y : Nat, y < 48 ∧ x = nI y ∧ r = (some (.int (MI 19 y)), xM MI ML Q)) ∨ ((∀ y : Nat, y < 48 → x ≠ nI y) ∧ r = (some (.int (-1)), xM MI ML Q))) := by
  refine xm_in (xb69_0 ⟨fun h => Or.inr ⟨fun y hy e => ?_, rfl⟩, fun h => ⟨fun h2 => Or.inr ⟨fun y hy e => ?_, rfl⟩, fun h2 => ?_⟩⟩)
  · subst e; exact nI_pos (by omega) h
  · subst e; exact nI_ge (a := y) (b := 48) hy (by decide) h2
  · obtain ⟨y, hy, rfl⟩ := nI_in2 (k := 48) (by decide) ⟨h, k2_lt h2⟩
    rw [nI_clamp (by omega)]
    exact ⟨vp_in_nI hy (by decide), Or.inl ⟨y, hy, rfl, rfl⟩⟩
theorem c69' {MI : Nat → Nat → Int32} {ML : Nat → Nat → Int64} {Q : Nat → Nat} {y : Nat} (hy : y < 48) : xm_Ev xz 69 [.ref 17, .int (nI y)] (xM MI ML Q) (fun r => r = (some (.int (MI 19 y)), xM MI ML Q)) := by
  refine (c69 (nI y)).imp ?_
  rintro r (⟨y', h1, h2, h3⟩ | ⟨h1, -⟩)
  · have : y = y' := (nI_eq (by omega) (by omega)).mp h2
    subst this
    exact h3
  · exact absurd rfl (h1 y hy)
/-- the scanner's providers are settled -/
theorem c68 {MI : Nat → Nat → Int32} {ML : Nat → Nat → Int64} {Q : Nat → Nat} {c : Nat} {N J : Nat → Int32} (hQ : IQ Q) (hc : c ≤ 16) (h : MI 17 1 = nI c) (hN : ∀ i, i < c → MI (Q i - 1) 1 = N i ∧ MI (Q i - 1) 0 = J i ∧ ∃ y : Nat, y < 48 ∧ N i = nI y) : xm_Ev xz 68 [.ref 17] (xM MI ML Q) (fun r => ∃ MI', r = (none, xM MI' ML Q) ∧ (∀ a j, a ≠ 19 → MI' a j = MI a j) ∧ ∀ y, y < 48 → isPr 0 c N J (nI y) (MI' 19 y)) := by
  -- the second loop
  have two : ∀ (d t : Nat), t + d = c → ∀ M2 : Nat → Nat → Int32, (∀ a j, a ≠ 19 → M2 a j = MI a j) → (∀ y, y < 48 → isPr 0 t N J (nI y) (M2 19 y)) → xq68 (fun r => ∃ MI', r = (none, xM MI' ML Q) ∧ (∀ a j, a ≠ 19 → MI' a j = MI a j) ∧ ∀ y, y < 48 → isPr 0 c N J (nI y) (MI' 19 y)) (23, [some (.ref 17), some (.int (nI t)), none, none], [], xM M2 ML Q, 0, 0) := by
    intro d
    induction d with
    | zero =>
      intro t ht M2 m1 m2
      have : t = c := by omega
      subst this
      refine xb68_23 ⟨fun _ => ⟨M2, rfl, m1, m2⟩, fun hl => ?_⟩
      rw [m1 17 1 (by decide), h] at hl
      exact absurd (nI_le (Nat.le_refl t) (by omega)) hl
    | succ d ih =>
      intro t ht M2 m1 m2
      have hnc : ¬ M2 17 1 ≤ nI t := by
        rw [m1 17 1 (by decide), h]
        exact nI_ge (by omega) (by omega)
      obtain ⟨q1, q2, q3, q4⟩ := hQ.at (i := t) (by omega)
      obtain ⟨n1, n2, y, hy, n3⟩ := hN t (by omega)
      have e1 : M2 (Q t - 1) 1 = nI y := by rw [m1 _ _ (by omega), n1, n3]
      refine xb68_23 ⟨fun hl => absurd hl hnc, fun _ => ⟨vp_in_nI (by omega) (by decide), Q t - 1, q1, q2, ?_⟩⟩
      rw [e1]
      refine ⟨_, c69' hy, ?_⟩
      rintro _ rfl
      have upd : (∀ y', y' < 48 → isPr 0 (t + 1) N J (nI y') ((xm_up M2 19 y (nI t)) 19 y')) → xq68 (fun r => ∃ MI', r = (none, xM MI' ML Q) ∧ (∀ a j, a ≠ 19 → MI' a j = MI a j) ∧ ∀ y, y < 48 → isPr 0 c N J (nI y) (MI' 19 y)) (23, [some (.ref 17), some (.int (nI t + 1)), none, none], [], xM (xm_up M2 19 y (nI t)) ML Q, 0, 0) := fun hh => by
        rw [nI_1]
        exact ih (t + 1) (by omega) _ (fun a j ha => by rw [xm_up_ne ha]; exact m1 a j ha) hh
      have oth : ∀ y', y' < 48 → y' ≠ y → isPr 0 (t + 1) N J (nI y') (M2 19 y') := fun y' h1 h2 => isPr_up (m2 y' h1) (by
        rw [n3]
        exact fun q => h2 ((nI_eq (by omega) (by omega)).mp q).symm)
      have newp : (M2 19 y = -1 ∨ ∃ i : Nat, i < 2 ^ 31 ∧ M2 19 y = nI i ∧ (J t).toInt < (J i).toInt) → ∀ y', y' < 48 → isPr 0 (t + 1) N J (nI y') ((xm_up M2 19 y (nI t)) 19 y') := fun hr y' h1 => by
        rw [xm_up_self]
        by_cases hyy : y' = y
        · subst hyy
          rw [if_pos rfl]
          exact isPr_upN (m2 y' h1) n3 hr (by omega)
        · rw [if_neg hyy]
          exact oth y' h1 hyy
      refine xb68_46 ⟨fun e => ?_, fun e => ?_⟩
      · rw [nI_clamp (by omega)]
        exact ⟨vp_in_nI hy (by decide), upd (newp (Or.inl e))⟩
      · rcases id (m2 y hy) with ⟨g1, -⟩ | ⟨i, -, i2, i3, -⟩
        · exact absurd g1 e
        · obtain ⟨r1, r2, r3, r4⟩ := hQ.at (i := i) (by omega)
          obtain ⟨k1, k2, -⟩ := hN i (by omega)
          rw [i3]
          refine ⟨vp_in_nI (by omega) (by decide), Q t - 1, q1, q2, vp_in_nI (by omega) (by decide), Q i - 1, r1, r2, ?_⟩
          rw [m1 _ 0 (by omega), m1 _ 0 (by omega), n2, k2]
          refine ⟨fun hl => ?_, fun hl => ?_⟩
          · rw [nI_1]
            refine ih (t + 1) (by omega) M2 m1 (fun y' h1 => ?_)
            by_cases hyy : y' = y
            · subst hyy
              exact isPr_upK (m2 y' h1) i3 (by omega) (Int32.le_iff_toInt_le.mp hl) (by omega)
            · exact oth y' h1 hyy
          · rw [nI_clamp (n := y) (by omega)]
            exact ⟨vp_in_nI hy (by decide), upd (newp (Or.inr ⟨i, by omega, i3, Int32.lt_iff_toInt_lt.mp (k2_lt hl)⟩))⟩
  -- the first
  have one : ∀ (d t : Nat), t + d = 48 → xq68 (fun r => ∃ MI', r = (none, xM MI' ML Q) ∧ (∀ a j, a ≠ 19 → MI' a j = MI a j) ∧ ∀ y, y < 48 → isPr 0 c N J (nI y) (MI' 19 y)) (2, [some (.ref 17), some (.int (nI t)), none, none], [], xM (pI MI t) ML Q, 0, 0) := by
    intro d
    induction d with
    | zero =>
      intro t ht
      have : t = 48 := by omega
      subst this
      refine xb68_2 ⟨fun _ => ?_, fun hl => absurd (show (48 : Int32) ≤ nI 48 by decide) hl⟩
      exact two c 0 (by omega) (pI MI 48) (fun a j ha => pI_ne ha) (fun y hy => Or.inl ⟨by unfold pI; rw [if_pos ⟨rfl, hy⟩], fun i a b => by omega⟩)
    | succ d ih =>
      intro t ht
      refine xb68_2 ⟨fun hl => absurd hl (nI_ge (a := t) (b := 48) (by omega) (by decide)), fun _ => ⟨vp_in_nI (by omega) (by decide), ?_⟩⟩
      rw [nI_clamp (by omega), pI_s, nI_1]
      exact ih (t + 1) (by omega)
  refine xm_in (xb68_0 ?_)
  have := one 48 0 rfl
  rw [pI_0] at this
  exact this
