/-- class file i is the one found for the name a -/
def FD (c : Nat) (N J : Nat → Nat) (a i : Nat) : Prop := i < c ∧ N i = a ∧ (∀ j, j < c → N j = a → J i ≤ J j) ∧ ∀ j, j < i → N j = a → J i < J j
theorem FD.uniq {c : Nat} {N J : Nat → Nat} {a i j : Nat} (h : FD c N J a i) (h' : FD c N J a j) : i = j := by
  obtain ⟨h1, h2, h3, h4⟩ := h
  obtain ⟨g1, g2, g3, g4⟩ := h'
  have := h3 j g1 g2
  have := g3 i h1 h2
  by_cases hij : i < j
  · have := g4 i hij h2
    omega
  · by_cases hji : j < i
    · have := h4 j hji g2
      omega
    · omega
theorem isPr_FD {c : Nat} {N J : Nat → Nat} {N' J' : Nat → Int32} (hN : ∀ i, i < c → N' i = nI (N i) ∧ N i < 48 ∧ J' i = nI (J i) ∧ J i < 5) {a : Nat} (ha : a < 48) {r : Int32} (h : isPr 0 c N' J' (nI a) r) : (r = -1 ∧ ∀ i, i < c → N i ≠ a) ∨ ∃ i, FD c N J a i ∧ r = nI i := by
  rcases h with ⟨h1, h2⟩ | ⟨i, -, i2, i3, i4, i5, i6⟩
  · exact Or.inl ⟨h1, fun i hi e => h2 i (Nat.zero_le i) hi (by rw [(hN i hi).1, e])⟩
  · have nn : ∀ j, j < c → (N' j = nI a ↔ N j = a) := fun j hj => by
      rw [(hN j hj).1]
      exact nI_eq (by have := (hN j hj).2.1; omega) (by omega)
    have jj : ∀ j, j < c → (J' j).toInt = (J j : Int) := fun j hj => by
      rw [(hN j hj).2.2.1]
      exact nI_toInt (by have := (hN j hj).2.2.2; omega)
    refine Or.inr ⟨i, ⟨i2, (nn i i2).mp i4, fun j hj e => ?_, fun j hj e => ?_⟩, i3⟩
    · have := i5 j (Nat.zero_le j) hj ((nn j hj).mpr e)
      rw [jj i i2, jj j hj] at this
      omega
    · have := i6 j (Nat.zero_le j) hj ((nn j (by omega)).mpr e)
      rw [jj i i2, jj j (by omega)] at this
      omega
/-- the edges between names -/
def ED (c : Nat) (N J : Nat → Nat) (U : Nat → Int64) (a b : Nat) : Prop := ∃ i, FD c N J a i ∧ hasB (U i) b = true
/-- class files as the reference keeps them -/
def VM (k c : Nat) (MI : Nat → Nat → Int32) (ML : Nat → Nat → Int64) (N J : Nat → Nat) : Prop := k ≤ 48 ∧ c ≤ 16 ∧ MI 45 19 = nI k ∧ MI 45 24 = nI c ∧ ∀ i, i < c → MI 58 i = nI (N i) ∧ N i < k ∧ MI 57 i = nI (J i) ∧ J i < 5 ∧ ∀ b, hasB (ML 64 i) b = true → b < k
theorem VM.pr {k c : Nat} {MI : Nat → Nat → Int32} {ML : Nat → Nat → Int64} {N J : Nat → Nat} (h : VM k c MI ML N J) : ∀ i, i < c → MI 58 i = nI (N i) ∧ N i < 48 ∧ MI 57 i = nI (J i) ∧ J i < 5 := fun i hi => by
  obtain ⟨h1, h2, -, -, h5⟩ := h
  obtain ⟨a, b, c, d, -⟩ := h5 i hi
  exact ⟨a, by omega, c, d⟩
theorem ED_lt {k c : Nat} {MI : Nat → Nat → Int32} {ML : Nat → Nat → Int64} {N J : Nat → Nat} (h : VM k c MI ML N J) {a b : Nat} (e : ED c N J (ML 64) a b) : a < k ∧ b < k := by
  obtain ⟨i, ⟨i1, i2, -⟩, i3⟩ := e
  obtain ⟨-, -, -, -, h5⟩ := h
  obtain ⟨-, n, -, -, u⟩ := h5 i i1
  exact ⟨by omega, u b i3⟩
theorem or_id (w : Int64) : w ||| w = w := hasB_ext fun b _ => by rw [hasB_or]; cases hasB w b <;> rfl
theorem l154i {P : xm_R → Prop} {MI : Nat → Nat → Int32} {ML : Nat → Nat → Int64} {Q : Nat → Nat} {k p : Nat} (hk : MI 45 19 = nI k) (hk48 : k ≤ 48) (hp : p < k) (r : Nat → Int64) (next : ∀ ML3 : Nat → Nat → Int64, (∀ a j, a ≠ 66 → ML3 a j = ML a j) → (∀ n, n < k → ML3 66 n = if hasB (r n) p = true then r n ||| r p else r n) → xq154 P (48, [some (.ref 45), some (.int (nI (p + 1))), none], [], xM MI ML3 Q, 0, 0)) :
    ∀ (d i : Nat), i + d = k → ∀ ML3 : Nat → Nat → Int64, (∀ a j, a ≠ 66 → ML3 a j = ML a j) → (∀ n, n < k → ML3 66 n = if n < i then (if hasB (r n) p = true then r n ||| r p else r n) else r n) → xq154 P (58, [some (.ref 45), some (.int (nI p)), some (.int (nI i))], [], xM MI ML3 Q, 0, 0) := by
  intro d
  induction d with
  | zero =>
    intro i hi ML3 m1 m2
    have : i = k := by omega
    subst this
    refine xb154_58 ⟨fun _ => ?_, fun hl => ?_⟩
    · rw [nI_1]
      refine next ML3 m1 fun n hn => ?_
      rw [m2 n hn, if_pos hn]
    · rw [hk] at hl
      exact absurd (nI_le (Nat.le_refl i) (by omega)) hl
  | succ d ih =>
    intro i hi ML3 m1 m2
    have v1 : vp_in (nI i) 48 := vp_in_nI (by omega) (by decide)
    have v2 : vp_in (nI p) 48 := vp_in_nI (by omega) (by decide)
    have ei : ML3 66 i = r i := by rw [m2 i (by omega), if_neg (by omega)]
    have ep : ML3 66 p = r p := by
      rw [m2 p hp]
      split
      · split
        · exact or_id _
        · rfl
      · rfl
    have go : ∀ w, (w = if hasB (r i) p = true then r i ||| r p else r i) → xq154 P (58, [some (.ref 45), some (.int (nI p)), some (.int (nI i + 1))], [], xM MI (xm_up ML3 66 i w) Q, 0, 0) := fun w hw => by
      rw [nI_1]
      refine ih (i + 1) (by omega) _ (fun a j ha => by rw [xm_up_ne ha]; exact m1 a j ha) (fun n hn => ?_)
      rw [xm_up_self]
      by_cases hni : n = i
      · subst hni
        rw [if_pos rfl, if_pos (show n < n + 1 by omega), hw]
      · rw [if_neg hni, m2 n hn]
        by_cases hl : n < i
        · rw [if_pos hl, if_pos (show n < i + 1 by omega)]
        · rw [if_neg hl, if_neg (show ¬ n < i + 1 by omega)]
    refine xb154_58 ⟨fun hl => ?_, fun _ => ⟨v1, _, c155 _ (k := p) (by omega), ?_⟩⟩
    · rw [hk] at hl
      exact absurd hl (nI_ge (by omega) (by omega))
    · rintro _ rfl
      rw [nI_clamp (by omega), ei]
      refine xb154_81 ⟨fun h => ⟨v1, v1, ?_⟩, fun h => ⟨v1, v2, v1, ?_⟩⟩
      · rw [nI_clamp (by omega), ei]
        refine go _ ?_
        rw [bI_0] at h
        rw [h, if_neg (by decide)]
      · rw [nI_clamp (by omega), nI_clamp (by omega), ei, ep]
        refine go _ ?_
        rw [bI_0] at h
        rw [ts_nf h, if_pos rfl]
/-- the reference's closures -/
theorem c154 {MI : Nat → Nat → Int32} {ML : Nat → Nat → Int64} {Q : Nat → Nat} {k c : Nat} {N J : Nat → Nat} (hV : VM k c MI ML N J) : xm_Ev xz 154 [.ref 45] (xM MI ML Q) (fun r => ∃ ML', r = (none, xM MI ML' Q) ∧ (∀ a j, a ≠ 66 → ML' a j = ML a j) ∧ ∀ n t, n < k → (hasB (ML' 66 n) t = true ↔ Cl (ED c N J (ML 64)) n t)) := by
  obtain ⟨hk, hc, h1, h2, h5⟩ := id hV
  have hE : ∀ a b, ED c N J (ML 64) a b → ∃ i, i < k ∧ True ∧ (fun i => i) i = a := fun a b e => ⟨a, (ED_lt hV e).1, trivial, rfl⟩
  -- the double loop
  have two : ∀ (d p : Nat), p + d = k → ∀ ML2 : Nat → Nat → Int64, (∀ a j, a ≠ 66 → ML2 a j = ML a j) → WI k (fun _ => True) (fun i => i) (ED c N J (ML 64)) p (ML2 66) → xq154 (fun r => ∃ ML', r = (none, xM MI ML' Q) ∧ (∀ a j, a ≠ 66 → ML' a j = ML a j) ∧ ∀ n t, n < k → (hasB (ML' 66 n) t = true ↔ Cl (ED c N J (ML 64)) n t)) (48, [some (.ref 45), some (.int (nI p)), none], [], xM MI ML2 Q, 0, 0) := by
    intro d
    induction d with
    | zero =>
      intro p hp ML2 m1 m2
      have : p = k := by omega
      subst this
      refine xb154_48 ⟨fun _ => ⟨ML2, rfl, m1, fun n t hn => m2.all hE (fun i j _ _ _ _ e => e) hn trivial⟩, fun hl => ?_⟩
      rw [h1] at hl
      exact absurd (nI_le (Nat.le_refl p) (by omega)) hl
    | succ d ih =>
      intro p hp ML2 m1 m2
      refine xb154_48 ⟨fun hl => ?_, fun _ => ?_⟩
      · rw [h1] at hl
        exact absurd hl (nI_ge (by omega) (by omega))
      · refine l154i (ML := ML) h1 hk (by omega) (ML2 66) (fun ML3 g1 g2 => ?_) k 0 (by omega) ML2 m1 (fun n hn => by rw [if_neg (Nat.not_lt_zero n)])
        exact ih (p + 1) (by omega) ML3 g1 (m2.step (by omega) trivial g2)
  -- the first loop
  have one : ∀ (d i : Nat), i + d = k → ∀ ML2 : Nat → Nat → Int64, (∀ a j, a ≠ 66 → ML2 a j = ML a j) → (∀ n t, n < i → (hasB (ML2 66 n) t = true ↔ t = n ∨ ED c N J (ML 64) n t)) → xq154 (fun r => ∃ ML', r = (none, xM MI ML' Q) ∧ (∀ a j, a ≠ 66 → ML' a j = ML a j) ∧ ∀ n t, n < k → (hasB (ML' 66 n) t = true ↔ Cl (ED c N J (ML 64)) n t)) (2, [some (.ref 45), some (.int (nI i)), none], [], xM MI ML2 Q, 0, 0) := by
    intro d
    induction d with
    | zero =>
      intro i hi ML2 m1 m2
      have : i = k := by omega
      subst this
      refine xb154_2 ⟨fun _ => ?_, fun hl => ?_⟩
      · refine two i 0 (by omega) ML2 m1 ⟨fun n hn _ => (m2 n n hn).mpr (Or.inl rfl), fun n t hn _ e => (m2 n t hn).mpr (Or.inr e), fun n t hn _ q => ?_, fun n _ q => absurd trivial q, fun m hm => absurd hm (Nat.not_lt_zero m)⟩
        rcases (m2 n t hn).mp q with rfl | e
        · exact Cl.rf _
        · exact Cl.ed e
      · rw [h1] at hl
        exact absurd (nI_le (Nat.le_refl i) (by omega)) hl
    | succ d ih =>
      intro i hi ML2 m1 m2
      have v1 : vp_in (nI i) 48 := vp_in_nI (by omega) (by decide)
      have go : ∀ w, (∀ t, hasB w t = true ↔ t = i ∨ ED c N J (ML 64) i t) → xq154 (fun r => ∃ ML', r = (none, xM MI ML' Q) ∧ (∀ a j, a ≠ 66 → ML' a j = ML a j) ∧ ∀ n t, n < k → (hasB (ML' 66 n) t = true ↔ Cl (ED c N J (ML 64)) n t)) (2, [some (.ref 45), some (.int (nI i + 1)), none], [], xM MI (xm_up ML2 66 i w) Q, 0, 0) := fun w hw => by
        rw [nI_1]
        refine ih (i + 1) (by omega) _ (fun a j ha => by rw [xm_up_ne ha]; exact m1 a j ha) (fun n t hn => ?_)
        rw [xm_up_self]
        by_cases hni : n = i
        · subst hni
          rw [if_pos rfl]
          exact hw t
        · rw [if_neg hni]
          exact m2 n t (by omega)
      refine xb154_2 ⟨fun hl => ?_, fun _ => ⟨_, c150 hc h2 (nI i), ?_⟩⟩
      · rw [h1] at hl
        exact absurd hl (nI_ge (by omega) (by omega))
      · rintro _ ⟨v, rfl, hv⟩
        have e1 : ((1 : Int64) <<< (Int32.toInt64 (nI i) &&& (63 : Int64))) = one i := rfl
        rcases isPr_FD hV.pr (a := i) (by omega) hv with ⟨rfl, hno⟩ | ⟨f, hf, rfl⟩
        · refine xb154_15 ⟨fun h => absurd h (by decide), fun _ => ⟨v1, ?_⟩⟩
          rw [nI_clamp (by omega), e1]
          refine go _ fun t => ?_
          rw [hasB_or, hasB_0, Bool.or_false, hasB_one (by omega), decide_eq_true_eq]
          constructor
          · exact Or.inl
          · rintro (q | ⟨f, ⟨f1, f2, -⟩, -⟩)
            · exact q
            · exact absurd f2 (hno f f1)
        · have hfc := hf.1
          refine xb154_15 ⟨fun _ => ⟨vp_in_nI (by omega) (by decide), v1, ?_⟩, fun h => absurd (nI_pos' (by omega)) h⟩
          rw [nI_clamp (n := i) (by omega), nI_clamp (n := f) (by omega), e1, m1 64 f (by decide)]
          refine go _ fun t => ?_
          rw [hasB_or, Bool.or_eq_true, hasB_one (by omega), decide_eq_true_eq]
          constructor
          · rintro (q | q)
            · exact Or.inl q
            · exact Or.inr ⟨f, hf, q⟩
          · rintro (q | ⟨g, g1, g2⟩)
            · exact Or.inl q
            · rw [hf.uniq g1]
              exact Or.inr g2
  refine xm_in (xb154_0 ?_)
  exact one k 0 (by omega) ML (fun _ _ _ => rfl) (fun n t hn => absurd hn (Nat.not_lt_zero n))
