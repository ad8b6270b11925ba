theorem c79 {MI : Nat → Nat → Int32} {ML : Nat → Nat → Int64} {Q : Nat → Nat} {k c : Nat} {N J : Nat → Nat} {U S : Nat → Int64} (hV : VS k c MI ML Q N J U) (hP : PV c MI N J) (hS : ∀ i, i < c → ML (Q i - 1) 8 = S i) : xm_Ev xz 79 [.ref 39, .ref 17] (xM MI ML Q) (fun z => ∃ MI' ML', z = (none, xM MI' ML' Q) ∧ (∀ a j, a ≠ 43 → a ≠ 44 → MI' a j = MI a j) ∧ (∀ a j, a ≠ 40 → a ≠ 41 → a ≠ 42 → ML' a j = ML a j) ∧ JM c N J U S MI' ML') := by
  have hV0 := hV
  obtain ⟨a1, a2, a3, a4, a5⟩ := hV
  -- the third loop
  have thr : ∀ (ML3 : Nat → Nat → Int64), (∀ a j, a ≠ 40 → a ≠ 41 → a ≠ 42 → ML3 a j = ML a j) → (∀ j, j < 5 → (∀ n, hasB (ML3 40 j) n = true ↔ ∃ p, FD c N J n p ∧ J p = j) ∧ (∀ n, hasB (ML3 41 j) n = true ↔ ∃ f, f < c ∧ J f = j ∧ hasB (U f) n = true) ∧ ∀ n, hasB (ML3 42 j) n = true ↔ ∃ f, f < c ∧ J f = j ∧ hasB (S f) n = true) → ∀ (d j : Nat), j + d = 5 → ∀ M3 : Nat → Nat → Int32, (∀ a j, a ≠ 43 → a ≠ 44 → M3 a j = MI a j) → (∀ j', j' < j → (∀ b, hasI (M3 43 j') b = true ↔ NJ c N J U j' b) ∧ ∀ b, hasI (M3 44 j') b = true ↔ NJ c N J S j' b) → xq79 (fun z => ∃ MI' ML', z = (none, xM MI' ML' Q) ∧ (∀ a j, a ≠ 43 → a ≠ 44 → MI' a j = MI a j) ∧ (∀ a j, a ≠ 40 → a ≠ 41 → a ≠ 42 → ML' a j = ML a j) ∧ JM c N J U S MI' ML') (121, [some (.ref 39), none, some (.int (nI j)), none], [], xM M3 ML3 Q, 0, 0) := by
    intro ML3 l0 l1 d
    induction d with
    | zero =>
      intro j hj M3 m0 m1
      have : j = 5 := by omega
      subst this
      exact xb79_121 ⟨fun _ => ⟨M3, ML3, rfl, m0, l0, fun j hj => ⟨(l1 j hj).1, (l1 j hj).2.1, m1 j hj⟩⟩, fun hl => absurd (by decide) hl⟩
    | succ d ih =>
      intro j hj M3 m0 m1
      have v1 : vp_in (nI j) 5 := vp_in_nI (by omega) (by decide)
      have tr : ∀ (V : Nat → Int64) (w : Int64) (v : Int32), (∀ n, hasB w n = true ↔ ∃ f, f < c ∧ J f = j ∧ hasB (V f) n = true) → (∀ b, hasI v b = true ↔ b < 5 ∧ b ≠ j ∧ ∃ n, hasB (ML3 40 b) n = true ∧ hasB w n = true) → ∀ b, hasI v b = true ↔ NJ c N J V j b := fun V w v h1 h2 b => by
        rw [h2 b]
        constructor
        · rintro ⟨q1, q2, n, q3, q4⟩
          obtain ⟨p, p1, p2⟩ := ((l1 b q1).1 n).mp q3
          obtain ⟨f, f1, f2, f3⟩ := (h1 n).mp q4
          exact ⟨q2, f, f1, f2, n, p, f3, p1, p2⟩
        · rintro ⟨q2, f, f1, f2, n, p, f3, p1, p2⟩
          have b5 : b < 5 := by
            have := (a5 p p1.1).2.2.2.1
            omega
          exact ⟨b5, q2, n, ((l1 b b5).1 n).mpr ⟨p, p1, p2⟩, (h1 n).mpr ⟨f, f1, f2, f3⟩⟩
      refine xb79_121 ⟨fun hl => absurd hl (nI_ge (a := j) (b := 5) (by omega) (by decide)), fun _ => ⟨v1, ?_⟩⟩
      rw [nI_clamp (by omega)]
      refine ⟨_, c80 (j := j) _, ?_⟩
      rintro _ ⟨v, rfl, hv⟩
      refine xb79_142 ⟨v1, v1, ?_⟩
      rw [nI_clamp (by omega)]
      refine ⟨_, c80 (j := j) _, ?_⟩
      rintro _ ⟨v', rfl, hv'⟩
      refine xb79_159 ⟨v1, ?_⟩
      rw [nI_clamp (by omega), nI_1]
      refine ih (j + 1) (by omega) _ (fun a i h1 h2 => by rw [xm_up_ne h2, xm_up_ne h1]; exact m0 a i h1 h2) (fun j' hj' => ?_)
      have e1 : xm_up (xm_up M3 43 j v) 44 j v' 43 j' = if j' = j then v else M3 43 j' := by rw [xm_up_ne (by decide), xm_up_self]
      have e2 : xm_up (xm_up M3 43 j v) 44 j v' 44 j' = if j' = j then v' else M3 44 j' := by rw [xm_up_self, xm_up_ne (by decide)]
      rw [e1, e2]
      by_cases e : j' = j
      · subst e
        rw [if_pos rfl, if_pos rfl]
        exact ⟨tr U _ v (l1 j' (by omega)).2.1 (hv (by omega)), tr S _ v' (l1 j' (by omega)).2.2 (hv' (by omega))⟩
      · rw [if_neg e, if_neg e]
        exact m1 j' (by omega)
  -- the second
  have two : ∀ (d i : Nat), i + d = c → ∀ ML3 : Nat → Nat → Int64, (∀ a j, a ≠ 40 → a ≠ 41 → a ≠ 42 → ML3 a j = ML a j) → (∀ j, j < 5 → (∀ n, hasB (ML3 40 j) n = true ↔ ∃ p, p < i ∧ FD c N J n p ∧ J p = j) ∧ (∀ n, hasB (ML3 41 j) n = true ↔ ∃ f, f < i ∧ J f = j ∧ hasB (U f) n = true) ∧ ∀ n, hasB (ML3 42 j) n = true ↔ ∃ f, f < i ∧ J f = j ∧ hasB (S f) n = true) → xq79 (fun z => ∃ MI' ML', z = (none, xM MI' ML' Q) ∧ (∀ a j, a ≠ 43 → a ≠ 44 → MI' a j = MI a j) ∧ (∀ a j, a ≠ 40 → a ≠ 41 → a ≠ 42 → ML' a j = ML a j) ∧ JM c N J U S MI' ML') (36, [some (.ref 39), some (.ref 17), some (.int (nI i)), none], [], xM MI ML3 Q, 0, 0) := by
    intro d
    induction d with
    | zero =>
      intro i hi ML3 l0 l1
      have : i = c := by omega
      subst this
      refine xb79_36 ⟨fun _ => ?_, fun hl => ?_⟩
      · refine thr ML3 l0 (fun j hj => ⟨fun n => ?_, (l1 j hj).2⟩) 5 0 rfl MI (fun _ _ _ _ => rfl) (fun j h => absurd h (Nat.not_lt_zero j))
        rw [(l1 j hj).1 n]
        constructor
        · rintro ⟨p, -, q⟩; exact ⟨p, q⟩
        · rintro ⟨p, q⟩; exact ⟨p, q.1.1, q⟩
      · rw [a3] at hl
        exact absurd (nI_le (Nat.le_refl i) (by omega)) hl
    | succ d ih =>
      intro i hi ML3 l0 l1
      have v1 : vp_in (nI i) 16 := vp_in_nI (by omega) (by decide)
      have hV3 : VS k c MI ML3 Q N J U := hV0.keep (fun _ _ _ => rfl) (fun a j h => l0 a j (by omega) (by omega) (by omega))
      obtain ⟨q1, q2, q3, q4⟩ := a4.at (i := i) (by omega)
      obtain ⟨n1, n2, n3, n4, n5⟩ := a5 i (by omega)
      have j5 : vp_in (MI (Q i - 1) 0) 5 := by rw [n3]; exact vp_in_nI n4 (by decide)
      have go : ∀ (w : Int64) (ML4 : Nat → Nat → Int64), (∀ n, hasB w n = true ↔ FD c N J n i) → (∀ a j, a ≠ 40 → a ≠ 41 → a ≠ 42 → ML4 a j = ML3 a j) → (∀ j, ML4 40 j = if j = J i then ML3 40 j ||| w else ML3 40 j) → (∀ j, ML4 41 j = if j = J i then ML3 41 j ||| U i else ML3 41 j) → (∀ j, ML4 42 j = if j = J i then ML3 42 j ||| S i else ML3 42 j) → xq79 (fun z => ∃ MI' ML', z = (none, xM MI' ML' Q) ∧ (∀ a j, a ≠ 43 → a ≠ 44 → MI' a j = MI a j) ∧ (∀ a j, a ≠ 40 → a ≠ 41 → a ≠ 42 → ML' a j = ML a j) ∧ JM c N J U S MI' ML') (36, [some (.ref 39), some (.ref 17), some (.int (nI i + 1)), none], [], xM MI ML4 Q, 0, 0) := fun w ML4 hw w0 w1 w2 w3 => by
        rw [nI_1]
        have key : ∀ (V : Nat → Int64) (x y : Int64) (j : Nat), (∀ n, hasB x n = true ↔ ∃ f, f < i ∧ J f = j ∧ hasB (V f) n = true) → (y = if j = J i then x ||| V i else x) → ∀ n, hasB y n = true ↔ ∃ f, f < i + 1 ∧ J f = j ∧ hasB (V f) n = true := fun V x y j hx hy n => by
          rw [hy]
          by_cases e : j = J i
          · rw [if_pos e, hasB_or, Bool.or_eq_true, hx n]
            constructor
            · rintro (⟨f, f1, f2⟩ | q)
              · exact ⟨f, by omega, f2⟩
              · exact ⟨i, by omega, e.symm, q⟩
            · rintro ⟨f, f1, f2, f3⟩
              by_cases ef : f = i
              · subst ef; exact Or.inr f3
              · exact Or.inl ⟨f, by omega, f2, f3⟩
          · rw [if_neg e, hx n]
            constructor
            · rintro ⟨f, f1, f2⟩
              exact ⟨f, by omega, f2⟩
            · rintro ⟨f, f1, f2, f3⟩
              by_cases ef : f = i
              · subst ef; exact absurd f2.symm e
              · exact ⟨f, by omega, f2, f3⟩
        refine ih (i + 1) (by omega) ML4 (fun a j h1 h2 h3 => by rw [w0 a j h1 h2 h3]; exact l0 a j h1 h2 h3) (fun j hj => ⟨fun n => ?_, key U _ _ j (l1 j hj).2.1 (w2 j), key S _ _ j (l1 j hj).2.2 (w3 j)⟩)
        rw [w1 j]
        by_cases e : j = J i
        · rw [if_pos e, hasB_or, Bool.or_eq_true, (l1 j hj).1 n, hw n]
          constructor
          · rintro (⟨f, f1, f2⟩ | q)
            · exact ⟨f, by omega, f2⟩
            · exact ⟨i, by omega, q, e.symm⟩
          · rintro ⟨f, f1, f2, f3⟩
            by_cases ef : f = i
            · subst ef; exact Or.inr f2
            · exact Or.inl ⟨f, by omega, f2, f3⟩
        · rw [if_neg e, (l1 j hj).1 n]
          constructor
          · rintro ⟨f, f1, f2⟩
            exact ⟨f, by omega, f2⟩
          · rintro ⟨f, f1, f2, f3⟩
            by_cases ef : f = i
            · subst ef; exact absurd f3.symm e
            · exact ⟨f, by omega, f2, f3⟩
      have u7 : ML3 (Q i - 1) 7 = U i := by rw [l0 _ 7 (by omega) (by omega) (by omega)]; exact n5
      have u8 : ML3 (Q i - 1) 8 = S i := by rw [l0 _ 8 (by omega) (by omega) (by omega)]; exact hS i (by omega)
      have fin : ∀ w : Int64, (∀ n, hasB w n = true ↔ FD c N J n i) → xq79 (fun z => ∃ MI' ML', z = (none, xM MI' ML' Q) ∧ (∀ a j, a ≠ 43 → a ≠ 44 → MI' a j = MI a j) ∧ (∀ a j, a ≠ 40 → a ≠ 41 → a ≠ 42 → ML' a j = ML a j) ∧ JM c N J U S MI' ML') (36, [some (.ref 39), some (.ref 17), some (.int (nI i + 1)), none], [], xM MI (xm_up (xm_up (xm_up ML3 40 (J i) (ML3 40 (J i) ||| w)) 41 (J i) (ML3 41 (J i) ||| U i)) 42 (J i) (ML3 42 (J i) ||| S i)) Q, 0, 0) := fun w hw => by
        refine go w _ hw (fun a j h1 h2 h3 => by rw [xm_up_ne h3, xm_up_ne h2, xm_up_ne h1]) (fun j => ?_) (fun j => ?_) (fun j => ?_)
        · rw [xm_up_ne (by decide), xm_up_ne (by decide), xm_up_self]
          by_cases e : j = J i
          · rw [if_pos e, if_pos e, e]
          · rw [if_neg e, if_neg e]
        · rw [xm_up_ne (by decide), xm_up_self, xm_up_ne (by decide)]
          by_cases e : j = J i
          · rw [if_pos e, if_pos e, e]
          · rw [if_neg e, if_neg e]
        · rw [xm_up_self, xm_up_ne (by decide), xm_up_ne (by decide)]
          by_cases e : j = J i
          · rw [if_pos e, if_pos e, e]
          · rw [if_neg e, if_neg e]
      refine xb79_36 ⟨fun hl => ?_, fun _ => ⟨v1, Q i - 1, q1, q2, j5, _, c71 hV3 hP (i := i) (by omega), ?_⟩⟩
      · rw [a3] at hl
        exact absurd hl (nI_ge (by omega) (by omega))
      · rintro _ ⟨f, rfl, hf⟩
        have fdn : ∀ n, FD c N J n i → n = N i := fun n q => q.2.1.symm
        refine xb79_66 ⟨fun h => ⟨j5, q2, j5, q2, j5, q2, j5, q2, j5, ?_⟩, fun h => ⟨q2, j5, q2, j5, q2, j5, q2, j5, q2, j5, ?_⟩⟩
        · rw [bI_0] at h
          rw [xm_up_ne (show Q i - 1 ≠ 40 by omega), xm_up_ne (show Q i - 1 ≠ 41 by omega), xm_up_ne (show Q i - 1 ≠ 40 by omega), u7, u8, n3, nI_clamp (by omega)]
          refine fin 0 (fun n => ?_)
          rw [hasB_0]
          refine ⟨fun q => (by cases q), fun q => ?_⟩
          have := fdn n q
          subst this
          rw [hf.mpr q] at h
          cases h
        · rw [bI_ne] at h
          rw [xm_up_ne (show Q i - 1 ≠ 40 by omega), xm_up_ne (show Q i - 1 ≠ 41 by omega), xm_up_ne (show Q i - 1 ≠ 40 by omega), u7, u8, n3, n1, nI_clamp (by omega)]
          refine fin (one (N i)) (fun n => ?_)
          rw [hasB_one (by omega), decide_eq_true_eq]
          refine ⟨fun q => ?_, fdn n⟩
          subst q
          exact hf.mp h
  -- the first
  have one : ∀ (d i : Nat), i + d = 5 → ∀ ML3 : Nat → Nat → Int64, (∀ a j, a ≠ 40 → a ≠ 41 → a ≠ 42 → ML3 a j = ML a j) → (∀ j, j < i → ML3 40 j = 0 ∧ ML3 41 j = 0 ∧ ML3 42 j = 0) → xq79 (fun z => ∃ MI' ML', z = (none, xM MI' ML' Q) ∧ (∀ a j, a ≠ 43 → a ≠ 44 → MI' a j = MI a j) ∧ (∀ a j, a ≠ 40 → a ≠ 41 → a ≠ 42 → ML' a j = ML a j) ∧ JM c N J U S MI' ML') (2, [some (.ref 39), some (.ref 17), some (.int (nI i)), none], [], xM MI ML3 Q, 0, 0) := by
    intro d
    induction d with
    | zero =>
      intro i hi ML3 l0 l1
      have : i = 5 := by omega
      subst this
      refine xb79_2 ⟨fun _ => ?_, fun hl => absurd (by decide) hl⟩
      have em : ∀ (x : Int64) (p : Nat → Prop), x = 0 → (∀ n, p n → False) → ∀ n, hasB x n = true ↔ p n := fun x p e h n => by
        rw [e, hasB_0]
        exact ⟨fun q => (by cases q), fun q => absurd q (h n)⟩
      refine two c 0 (by omega) ML3 l0 (fun j hj => ⟨em _ _ (l1 j hj).1 ?_, em _ _ (l1 j hj).2.1 ?_, em _ _ (l1 j hj).2.2 ?_⟩)
      · rintro n ⟨p, h, -⟩; exact Nat.not_lt_zero p h
      · rintro n ⟨p, h, -⟩; exact Nat.not_lt_zero p h
      · rintro n ⟨p, h, -⟩; exact Nat.not_lt_zero p h
    | succ d ih =>
      intro i hi ML3 l0 l1
      have v1 : vp_in (nI i) 5 := vp_in_nI (by omega) (by decide)
      refine xb79_2 ⟨fun hl => absurd hl (nI_ge (a := i) (b := 5) (by omega) (by decide)), fun _ => ⟨v1, v1, v1, ?_⟩⟩
      rw [nI_clamp (by omega), nI_1]
      refine ih (i + 1) (by omega) _ (fun a j h1 h2 h3 => by rw [xm_up_ne h3, xm_up_ne h2, xm_up_ne h1]; exact l0 a j h1 h2 h3) (fun j hj => ?_)
      have e1 : xm_up (xm_up (xm_up ML3 40 i 0) 41 i 0) 42 i 0 40 j = if j = i then 0 else ML3 40 j := by rw [xm_up_ne (by decide), xm_up_ne (by decide), xm_up_self]
      have e2 : xm_up (xm_up (xm_up ML3 40 i 0) 41 i 0) 42 i 0 41 j = if j = i then 0 else ML3 41 j := by rw [xm_up_ne (by decide), xm_up_self, xm_up_ne (by decide)]
      have e3 : xm_up (xm_up (xm_up ML3 40 i 0) 41 i 0) 42 i 0 42 j = if j = i then 0 else ML3 42 j := by rw [xm_up_self, xm_up_ne (by decide), xm_up_ne (by decide)]
      rw [e1, e2, e3]
      by_cases e : j = i
      · rw [if_pos e, if_pos e, if_pos e]
        exact ⟨rfl, rfl, rfl⟩
      · rw [if_neg e, if_neg e, if_neg e]
        exact l1 j (by omega)
  refine xm_in (xb79_0 ?_)
  exact one 5 0 rfl ML (fun _ _ _ _ _ => rfl) (fun j h => absurd h (Nat.not_lt_zero j))
