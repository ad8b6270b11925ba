/-- class files as the scanner keeps them -/
def VS (k c : Nat) (MI : Nat → Nat → Int32) (ML : Nat → Nat → Int64) (Q : Nat → Nat) (N J : Nat → Nat) (U : Nat → Int64) : Prop := k ≤ 48 ∧ c ≤ 16 ∧ MI 17 1 = nI c ∧ IQ Q ∧ ∀ i, i < c → MI (Q i - 1) 1 = nI (N i) ∧ N i < k ∧ MI (Q i - 1) 0 = nI (J i) ∧ J i < 5 ∧ ML (Q i - 1) 7 = U i
theorem VS.keep {k c : Nat} {MI MI' : Nat → Nat → Int32} {ML ML' : Nat → Nat → Int64} {Q : Nat → Nat} {N J : Nat → Nat} {U : Nat → Int64} (h : VS k c MI ML Q N J U) (h1 : ∀ a j, (a = 17 ∨ (23 ≤ a ∧ a ≤ 38)) → MI' a j = MI a j) (h2 : ∀ a j, (23 ≤ a ∧ a ≤ 38) → ML' a j = ML a j) : VS k c MI' ML' Q N J U := by
  obtain ⟨a1, a2, a3, a4, a5⟩ := h
  refine ⟨a1, a2, by rw [h1 17 1 (Or.inl rfl)]; exact a3, a4, fun i hi => ?_⟩
  obtain ⟨-, -, b1, b2⟩ := a4.at (i := i) (by omega)
  rw [h1 _ 1 (Or.inr ⟨b1, b2⟩), h1 _ 0 (Or.inr ⟨b1, b2⟩), h2 _ 7 ⟨b1, b2⟩]
  exact a5 i hi
/-- the scanner's providers -/
def PV (c : Nat) (MI : Nat → Nat → Int32) (N J : Nat → Nat) : Prop := ∀ y, y < 48 → (MI 19 y = -1 ∧ ∀ i, i < c → N i ≠ y) ∨ ∃ i, FD c N J y i ∧ MI 19 y = nI i
theorem c71 {MI : Nat → Nat → Int32} {ML : Nat → Nat → Int64} {Q : Nat → Nat} {k c : Nat} {N J : Nat → Nat} {U : Nat → Int64} (hV : VS k c MI ML Q N J U) (hP : PV c MI N J) {i : Nat} (hi : i < c) : xm_Ev xz 71 [.ref 17, .int (nI i)] (xM MI ML Q) (fun r => ∃ b : Bool, r = (some (.int (bI b)), xM MI ML Q) ∧ (b = true ↔ FD c N J (N i) i)) := by
  obtain ⟨a1, a2, a3, a4, a5⟩ := hV
  obtain ⟨q1, q2, -, -⟩ := a4.at (i := i) (by omega)
  obtain ⟨n1, n2, -⟩ := a5 i hi
  refine xm_in (xb71_0 ⟨vp_in_nI (by omega) (by decide), Q i - 1, q1, q2, ?_⟩)
  rw [n1]
  refine ⟨_, c69' (y := N i) (by omega), ?_⟩
  rintro _ rfl
  rcases hP (N i) (by omega) with ⟨h1, h2⟩ | ⟨j, h1, h2⟩
  · exact absurd rfl (h2 i hi)
  · refine xb71_13 ⟨fun e => ⟨Or.inr rfl, true, rfl, fun _ => ?_, fun _ => rfl⟩, fun e => ⟨Or.inl rfl, false, rfl, fun q => (by cases q), fun q => ?_⟩⟩
    · rw [h2] at e
      have := (nI_eq (by have := h1.1; omega) (by omega)).mp e
      subst this
      exact h1
    · rw [h2, h1.uniq q] at e
      exact absurd rfl e
theorem c73 {MI : Nat → Nat → Int32} {ML : Nat → Nat → Int64} {Q : Nat → Nat} {k c : Nat} {N J : Nat → Nat} {U : Nat → Int64} (hV : VS k c MI ML Q N J U) {i o : Nat} (hi : i < c) (ho : o < c) : xm_Ev xz 73 [.ref 17, .int (nI i), .int (nI o)] (xM MI ML Q) (fun r => r = (some (.int (bI (hasB (ML 20 i) (N o)))), xM MI ML Q)) := by
  obtain ⟨a1, a2, a3, a4, a5⟩ := hV
  obtain ⟨q1, q2, -, -⟩ := a4.at (i := o) (by omega)
  obtain ⟨n1, n2, -⟩ := a5 o ho
  refine xm_in (xb73_0 ⟨vp_in_nI (by omega) (by decide), vp_in_nI (by omega) (by decide), Q o - 1, q1, q2, ?_⟩)
  rw [n1, nI_clamp (by omega)]
  refine ⟨_, c74 _ (k := N o) (by omega), ?_⟩
  rintro _ rfl
  exact xb73_18 ⟨bI01 _, rfl⟩
theorem c72 {MI : Nat → Nat → Int32} {ML : Nat → Nat → Int64} {Q : Nat → Nat} {k c : Nat} {N J : Nat → Nat} {U : Nat → Int64} (hV : VS k c MI ML Q N J U) {p : Nat} (hp : p < c) : xm_Ev xz 72 [.ref 17, .int (nI p)] (xM MI ML Q) (fun r => ∃ ML', r = (none, xM MI ML' Q) ∧ (∀ a j, a ≠ 20 → ML' a j = ML a j) ∧ ∀ i, i < c → ML' 20 i = if hasB (ML 20 i) (N p) = true then ML 20 i ||| ML 20 p else ML 20 i) := by
  have hV0 := hV
  obtain ⟨a1, a2, a3, a4, a5⟩ := hV
  have two : ∀ (d i : Nat), i + d = c → ∀ ML3 : Nat → Nat → Int64, (∀ a j, a ≠ 20 → ML3 a j = ML a j) → (∀ n, n < c → ML3 20 n = if n < i then (if hasB (ML 20 n) (N p) = true then ML 20 n ||| ML 20 p else ML 20 n) else ML 20 n) → xq72 (fun r => ∃ ML', r = (none, xM MI ML' Q) ∧ (∀ a j, a ≠ 20 → ML' a j = ML a j) ∧ ∀ i, i < c → ML' 20 i = if hasB (ML 20 i) (N p) = true then ML 20 i ||| ML 20 p else ML 20 i) (2, [some (.ref 17), some (.int (nI p)), some (.int (nI i))], [], xM MI ML3 Q, 0, 0) := by
    intro d
    induction d with
    | zero =>
      intro i hi ML3 m1 m2
      have : i = c := by omega
      subst this
      refine xb72_2 ⟨fun _ => ⟨ML3, rfl, m1, fun n hn => ?_⟩, fun hl => ?_⟩
      · rw [m2 n hn, if_pos hn]
      · rw [a3] at hl
        exact absurd (nI_le (Nat.le_refl i) (by omega)) hl
    | succ d ih =>
      intro i hi ML3 m1 m2
      have v1 : vp_in (nI i) 16 := vp_in_nI (by omega) (by decide)
      have v2 : vp_in (nI p) 16 := vp_in_nI (by omega) (by decide)
      have ei : ML3 20 i = ML 20 i := by rw [m2 i (by omega), if_neg (show ¬ i < i by omega)]
      have ep : ML3 20 p = ML 20 p := by
        rw [m2 p hp]
        split
        · split
          · exact or_id _
          · rfl
        · rfl
      have hV3 : VS k c MI ML3 Q N J U := hV0.keep (fun _ _ _ => rfl) (fun a j h => m1 a j (by omega))
      have nx : ∀ ML4 : Nat → Nat → Int64, (∀ a j, a ≠ 20 → ML4 a j = ML a j) → (∀ n, n < c → n ≠ i → ML4 20 n = ML3 20 n) → (ML4 20 i = if hasB (ML 20 i) (N p) = true then ML 20 i ||| ML 20 p else ML 20 i) → xq72 (fun r => ∃ ML', r = (none, xM MI ML' Q) ∧ (∀ a j, a ≠ 20 → ML' a j = ML a j) ∧ ∀ i, i < c → ML' 20 i = if hasB (ML 20 i) (N p) = true then ML 20 i ||| ML 20 p else ML 20 i) (2, [some (.ref 17), some (.int (nI p)), some (.int (nI i + 1))], [], xM MI ML4 Q, 0, 0) := fun ML4 g1 g2 g3 => by
        rw [nI_1]
        refine ih (i + 1) (by omega) ML4 g1 (fun n hn => ?_)
        by_cases hni : n = i
        · subst hni
          rw [g3, if_pos (show n < n + 1 by omega)]
        · rw [g2 n hn hni, m2 n hn]
          by_cases hl : n < i
          · rw [if_pos hl, if_pos (show n < i + 1 by omega)]
          · rw [if_neg hl, if_neg (show ¬ n < i + 1 by omega)]
      refine xb72_2 ⟨fun hl => ?_, fun _ => ⟨_, c73 hV3 (i := i) (o := p) (by omega) hp, ?_⟩⟩
      · rw [a3] at hl
        exact absurd hl (nI_ge (by omega) (by omega))
      · rintro _ rfl
        rw [ei]
        refine xb72_16 ⟨fun h => ?_, fun h => ⟨v1, v2, v1, ?_⟩⟩
        · rw [bI_0] at h
          exact nx ML3 m1 (fun _ _ _ => rfl) (by rw [ei, h, if_neg (by decide)])
        · rw [bI_0] at h
          rw [nI_clamp (by omega), nI_clamp (by omega), ei, ep]
          refine nx _ (fun a j ha => by rw [xm_up_ne ha]; exact m1 a j ha) (fun n _ hni => by rw [xm_up_self, if_neg hni]) ?_
          rw [xm_up_self, if_pos rfl, ts_nf h, if_pos rfl]
  refine xm_in (xb72_0 ?_)
  exact two c 0 (by omega) ML (fun _ _ _ => rfl) (fun n hn => by rw [if_neg (Nat.not_lt_zero n)])
/-- the scanner's closures -/
theorem c70 {MI : Nat → Nat → Int32} {ML : Nat → Nat → Int64} {Q : Nat → Nat} {k c : Nat} {N J : Nat → Nat} {U : Nat → Int64} (hV : VS k c MI ML Q N J U) (hP : PV c MI N J) : xm_Ev xz 70 [.ref 17] (xM MI ML Q) (fun r => ∃ ML', r = (none, xM MI ML' Q) ∧ (∀ a j, a ≠ 20 → ML' a j = ML a j) ∧ (∀ i t, i < c → FD c N J (N i) i → (hasB (ML' 20 i) t = true ↔ Cl (ED c N J U) (N i) t)) ∧ ∀ i, i < c → ¬ FD c N J (N i) i → ML' 20 i = 0) := by
  have hV0 := hV
  obtain ⟨a1, a2, a3, a4, a5⟩ := hV
  have hE : ∀ a b, ED c N J U a b → ∃ i, i < c ∧ FD c N J (N i) i ∧ N i = a := fun a b e => by
    obtain ⟨i, i1, -⟩ := e
    have := i1.2.1
    subst this
    exact ⟨i, i1.1, i1, rfl⟩
  have hin : ∀ i j, i < c → j < c → FD c N J (N i) i → FD c N J (N j) j → N i = N j → i = j := fun i j _ _ h1 h2 e => by
    rw [e] at h1
    exact h1.uniq h2
  have two : ∀ (d p : Nat), p + d = c → ∀ ML2 : Nat → Nat → Int64, (∀ a j, a ≠ 20 → ML2 a j = ML a j) → WI c (fun i => FD c N J (N i) i) N (ED c N J U) p (ML2 20) → xq70 (fun r => ∃ ML', r = (none, xM MI ML' Q) ∧ (∀ a j, a ≠ 20 → ML' a j = ML a j) ∧ (∀ i t, i < c → FD c N J (N i) i → (hasB (ML' 20 i) t = true ↔ Cl (ED c N J U) (N i) t)) ∧ ∀ i, i < c → ¬ FD c N J (N i) i → ML' 20 i = 0) (57, [some (.ref 17), some (.int (nI p))], [], xM MI ML2 Q, 0, 0) := by
    intro d
    induction d with
    | zero =>
      intro p hp ML2 m1 m2
      have : p = c := by omega
      subst this
      refine xb70_57 ⟨fun _ => ⟨ML2, rfl, m1, fun i t hi hf => m2.all hE hin hi hf, m2.2.2.2.1⟩, fun hl => ?_⟩
      rw [a3] at hl
      exact absurd (nI_le (Nat.le_refl p) (by omega)) hl
    | succ d ih =>
      intro p hp ML2 m1 m2
      have hV2 : VS k c MI ML2 Q N J U := hV0.keep (fun _ _ _ => rfl) (fun a j h => m1 a j (by omega))
      refine xb70_57 ⟨fun hl => ?_, fun _ => ⟨_, c71 hV2 hP (i := p) (by omega), ?_⟩⟩
      · rw [a3] at hl
        exact absurd hl (nI_ge (by omega) (by omega))
      · rintro _ ⟨b, rfl, hb⟩
        refine xb70_70 ⟨fun h => ?_, fun h => ⟨_, c72 hV2 (p := p) (by omega), ?_⟩⟩
        · rw [bI_0] at h
          refine xb70_78 ?_
          rw [nI_1]
          exact ih (p + 1) (by omega) ML2 m1 (m2.skip (fun q => by rw [hb.mpr q] at h; cases h))
        · rintro _ ⟨ML3, rfl, g1, g2⟩
          refine xb70_78 ?_
          rw [nI_1]
          rw [bI_0] at h
          exact ih (p + 1) (by omega) ML3 (fun a j ha => by rw [g1 a j ha]; exact m1 a j ha) (m2.step (by omega) (hb.mp (ts_nf h)) g2)
  have one : ∀ (d i : Nat), i + d = c → ∀ ML2 : Nat → Nat → Int64, (∀ a j, a ≠ 20 → ML2 a j = ML a j) → (∀ n, n < i → (FD c N J (N n) n → ∀ t, (hasB (ML2 20 n) t = true ↔ hasB (U n) t = true ∨ t = N n)) ∧ (¬ FD c N J (N n) n → ML2 20 n = 0)) → xq70 (fun r => ∃ ML', r = (none, xM MI ML' Q) ∧ (∀ a j, a ≠ 20 → ML' a j = ML a j) ∧ (∀ i t, i < c → FD c N J (N i) i → (hasB (ML' 20 i) t = true ↔ Cl (ED c N J U) (N i) t)) ∧ ∀ i, i < c → ¬ FD c N J (N i) i → ML' 20 i = 0) (2, [some (.ref 17), some (.int (nI i))], [], xM MI ML2 Q, 0, 0) := by
    intro d
    induction d with
    | zero =>
      intro i hi ML2 m1 m2
      have : i = c := by omega
      subst this
      refine xb70_2 ⟨fun _ => ?_, fun hl => ?_⟩
      · have ee : ∀ n t, FD i N J (N n) n → (ED i N J U (N n) t ↔ hasB (U n) t = true) := fun n t hf => by
          constructor
          · rintro ⟨g, g1, g2⟩
            rw [hf.uniq g1]
            exact g2
          · exact fun q => ⟨n, hf, q⟩
        refine two i 0 (by omega) ML2 m1 ⟨fun n hn hf => ((m2 n hn).1 hf _).mpr (Or.inr rfl), fun n t hn hf e => ((m2 n hn).1 hf t).mpr (Or.inl ((ee n t hf).mp e)), fun n t hn hf q => ?_, fun n hn hf => (m2 n hn).2 hf, fun m hm => absurd hm (Nat.not_lt_zero m)⟩
        rcases ((m2 n hn).1 hf t).mp q with e | rfl
        · exact Cl.ed ((ee n t hf).mpr e)
        · exact Cl.rf _
      · rw [a3] at hl
        exact absurd (nI_le (Nat.le_refl i) (by omega)) hl
    | succ d ih =>
      intro i hi ML2 m1 m2
      have v1 : vp_in (nI i) 16 := vp_in_nI (by omega) (by decide)
      have hV2 : VS k c MI ML2 Q N J U := hV0.keep (fun _ _ _ => rfl) (fun a j h => m1 a j (by omega))
      obtain ⟨q1, q2, q3, q4⟩ := a4.at (i := i) (by omega)
      obtain ⟨n1, n2, -, -, n5⟩ := a5 i (by omega)
      have go : ∀ w, ((FD c N J (N i) i → ∀ t, (hasB w t = true ↔ hasB (U i) t = true ∨ t = N i)) ∧ (¬ FD c N J (N i) i → w = 0)) → xq70 (fun r => ∃ ML', r = (none, xM MI ML' Q) ∧ (∀ a j, a ≠ 20 → ML' a j = ML a j) ∧ (∀ i t, i < c → FD c N J (N i) i → (hasB (ML' 20 i) t = true ↔ Cl (ED c N J U) (N i) t)) ∧ ∀ i, i < c → ¬ FD c N J (N i) i → ML' 20 i = 0) (2, [some (.ref 17), some (.int (nI i + 1))], [], xM MI (xm_up ML2 20 i w) Q, 0, 0) := fun w hw => by
        rw [nI_1]
        refine ih (i + 1) (by omega) _ (fun a j ha => by rw [xm_up_ne ha]; exact m1 a j ha) (fun n hn => ?_)
        rw [xm_up_self]
        by_cases hni : n = i
        · subst hni
          rw [if_pos rfl]
          exact hw
        · rw [if_neg hni]
          exact m2 n (by omega)
      refine xb70_2 ⟨fun hl => ?_, fun _ => ⟨_, c71 hV2 hP (i := i) (by omega), ?_⟩⟩
      · rw [a3] at hl
        exact absurd hl (nI_ge (by omega) (by omega))
      · rintro _ ⟨b, rfl, hb⟩
        refine xb70_20 ⟨fun h => ⟨v1, ?_⟩, fun h => ⟨v1, Q i - 1, q1, q2, v1, Q i - 1, q1, q2, v1, ?_⟩⟩
        · rw [bI_0] at h
          rw [nI_clamp (by omega)]
          exact go _ ⟨fun q => (by rw [hb.mpr q] at h; cases h), fun _ => rfl⟩
        · rw [bI_0] at h
          rw [nI_clamp (by omega), n1, m1 _ 7 (by omega), n5]
          refine go _ ⟨fun _ t => ?_, fun q => absurd (hb.mp (ts_nf h)) q⟩
          rw [hasB_or, Bool.or_eq_true]
          show _ ∨ hasB (one (N i)) t = true ↔ _
          rw [hasB_one (by omega), decide_eq_true_eq]
  refine xm_in (xb70_0 ?_)
  exact one c 0 (by omega) ML (fun _ _ _ => rfl) (fun n hn => absurd hn (Nat.not_lt_zero n))
