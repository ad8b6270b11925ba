def vN (MI : Nat → Nat → Int32) (i : Nat) : Nat := Int32.toNatClampNeg (MI 58 i)
def vJ (MI : Nat → Nat → Int32) (i : Nat) : Nat := Int32.toNatClampNeg (MI 57 i)
theorem IC.vm {k c : Nat} {MI : Nat → Nat → Int32} {ML : Nat → Nat → Int64} {Q : Nat → Nat} (hB : IB k MI) (h : IC k c MI ML Q) : VM k c MI ML (vN MI) (vJ MI) := by
  obtain ⟨c1, c2, c3, c4, c5⟩ := h
  refine ⟨hB.1, c1, hB.2.2.1, c3, fun i hi => ?_⟩
  obtain ⟨⟨jr, j0, -, j2⟩, ⟨nm, n0, -, n2, -⟩, -, -, -, -, -, -, -, u, -⟩ := c5 i hi
  have hk := hB.1
  have e1 : vN MI i = nm := by unfold vN; rw [n2, nI_clamp (by omega)]
  have e2 : vJ MI i = jr := by unfold vJ; rw [j2, nI_clamp (by omega)]
  rw [e1, e2]
  exact ⟨n2, n0, j2, j0, u⟩
theorem IC.vs {k c : Nat} {MI : Nat → Nat → Int32} {ML : Nat → Nat → Int64} {Q : Nat → Nat} (hk : k ≤ 48) (h : IC k c MI ML Q) : VS k c MI ML Q (vN MI) (vJ MI) (ML 64) := by
  obtain ⟨c1, c2, c3, c4, c5⟩ := h
  refine ⟨hk, c1, c2, c4, fun i hi => ?_⟩
  obtain ⟨⟨jr, j0, j1, j2⟩, ⟨nm, n0, n1, n2, -⟩, -, -, -, -, -, u, -⟩ := c5 i hi
  have e1 : vN MI i = nm := by unfold vN; rw [n2, nI_clamp (by omega)]
  have e2 : vJ MI i = jr := by unfold vJ; rw [j2, nI_clamp (by omega)]
  rw [e1, e2]
  exact ⟨n1, n0, j1, j0, u⟩
theorem ID.pv {k c : Nat} {MI : Nat → Nat → Int32} {ML : Nat → Nat → Int64} {N J : Nat → Nat} (hV : VM k c MI ML N J) (h : ID c MI) : PV c MI N J := fun y hy => isPr_FD hV.pr hy (h y hy)
/-- the scanner's closures, settled -/
def SR (c : Nat) (DI : Nat → Nat → Int32) (DL : Nat → Nat → Int64) : Prop := (∀ i t, i < c → FD c (vN DI) (vJ DI) (vN DI i) i → (hasB (DL 20 i) t = true ↔ Cl (ED c (vN DI) (vJ DI) (DL 64)) (vN DI i) t)) ∧ ∀ i, i < c → ¬ FD c (vN DI) (vJ DI) (vN DI i) i → DL 20 i = 0
theorem SR.get {c : Nat} {MI : Nat → Nat → Int32} {ML : Nat → Nat → Int64} (h : SR c (dm MI) (dl ML)) : SR c MI ML := h
theorem Cl_none {E : Nat → Nat → Prop} {a t : Nat} (h : ∀ b, ¬ E a b) (hc : Cl E a t) : t = a := by
  have := hc (fun x y => x = y ∨ x ≠ a) (fun x => Or.inl rfl) (fun x y e => Or.inr (fun q => by subst q; exact h y e)) (fun x y z h1 h2 => by
    by_cases hx : x = a
    · subst hx
      rcases h1 with h1 | h1
      · subst h1; exact h2
      · exact absurd rfl h1
    · exact Or.inr hx)
  rcases this with h | h
  · exact h.symm
  · exact absurd rfl h
theorem dl_off {ML ML' : Nat → Nat → Int64} (h : ∀ a j, a ≠ 66 → ML' a j = ML a j) : dl ML' = dl ML := dl_congr fun a j hd => h a j (fun e => by
  subst e
  cases hd)
section OPS4
variable {R : (Nat → Nat → Int32) → (Nat → Nat → Int64) → (Nat → Nat) → Prop}
theorem op9 (hR : ∀ DI DL Q, R DI DL Q → ∃ k c, IB k DI ∧ IC k c DI DL Q ∧ ID c DI ∧ SR c DI DL) (x : Int32) : xOpL (xInv R) 91 153 [.int x] := by
  intro MI ML Q hI
  obtain ⟨k, c, hB0, hC0, hD0, hS0⟩ := hR _ _ _ hI.2
  have hC := hC0.get
  have hB : k ≤ 48 ∧ MI 12 4 = nI k ∧ MI 45 19 = nI k := ⟨hB0.1, hB0.2.1, hB0.2.2.1⟩
  have hV : VM k c MI ML (vN MI) (vJ MI) := by
    obtain ⟨c1, c2, c3, c4, c5⟩ := hC
    refine ⟨hB.1, c1, hB.2.2, c3, fun i hi => ?_⟩
    obtain ⟨⟨jr, j0, -, j2⟩, ⟨nm, n0, -, n2, -⟩, -, -, -, -, -, -, -, u, -⟩ := c5 i hi
    have e1 : vN MI i = nm := by unfold vN; rw [n2, nI_clamp (by omega)]
    have e2 : vJ MI i = jr := by unfold vJ; rw [j2, nI_clamp (by omega)]
    rw [e1, e2]
    exact ⟨n2, n0, j2, j0, u⟩
  have hP : PV c MI (vN MI) (vJ MI) := ID.pv hV hD0
  have hS : SR c MI ML := hS0
  by_cases hn : ¬ x < 0 ∧ x < nI k
  · obtain ⟨a, ha, rfl⟩ := nI_in2 (by omega) hn
    -- the scanner's answer
    have key : ∃ v : Int64, (∀ t, hasB v t = true ↔ Cl (ED c (vN MI) (vJ MI) (ML 64)) a t) ∧ xm_Ev xz 91 [.ref 0, .int (nI a)] (xM MI ML Q) (fun r => r = (some (.long v), xM MI ML Q)) := by
      rcases hP a (by omega) with ⟨p1, p2⟩ | ⟨i, i1, i2⟩
      · refine ⟨one a, fun t => ?_, xm_in (xb91_0 ⟨_, c86 _, ?_⟩)⟩
        · rw [hasB_one (by omega), decide_eq_true_eq]
          constructor
          · rintro rfl; exact Cl.rf _
          · exact Cl_none (fun b e => by
              obtain ⟨i, ⟨i1, i2, -⟩, -⟩ := e
              exact p2 i i1 i2)
        · rintro _ rfl
          rw [hB.2.1, decide_eq_true hn]
          refine xb91_8 ⟨fun h => absurd h (by decide), fun _ => ⟨_, c69' (y := a) (by omega), ?_⟩⟩
          rintro _ rfl
          exact xb91_21 ⟨fun _ => rfl, fun h => absurd p1 h⟩
      · have hci := i1.1
        have h16 := hC.1
        refine ⟨ML 20 i, fun t => ?_, xm_in (xb91_0 ⟨_, c86 _, ?_⟩)⟩
        · have e := i1.2.1
          have := hS.1 i t hci (by rw [e]; exact i1)
          rw [e] at this
          exact this
        · rintro _ rfl
          rw [hB.2.1, decide_eq_true hn]
          refine xb91_8 ⟨fun h => absurd h (by decide), fun _ => ⟨_, c69' (y := a) (by omega), ?_⟩⟩
          rintro _ rfl
          rw [i2]
          refine xb91_21 ⟨fun h => ?_, fun _ => ⟨vp_in_nI (by omega) (by decide), ?_⟩⟩
          · have := congrArg Int32.toInt h
            rw [nI_toInt (by omega)] at this
            have e2 : (-1 : Int32).toInt = -1 := rfl
            omega
          · rw [nI_clamp (by omega)]
    obtain ⟨v, v1, v2⟩ := key
    refine v2.imp ?_
    rintro _ rfl
    refine ⟨v, MI, ML, Q, rfl, xm_in (xb153_0 ⟨_, c148 _, ?_⟩)⟩
    rintro _ rfl
    rw [hB.2.2, decide_eq_true hn]
    refine xb153_5 ⟨fun h => absurd h (by decide), fun _ => ⟨_, c154 hV, ?_⟩⟩
    rintro _ ⟨ML', rfl, m1, m2⟩
    refine xb153_14 ⟨vp_in_nI (by omega) (by decide), MI, ML', Q, ?_, hI.1, ?_⟩
    · rw [nI_clamp (by omega), show ML' 66 a = v from hasB_ext fun b _ => by
        have := (m2 a b ha).trans (v1 b).symm
        cases h1 : hasB (ML' 66 a) b <;> cases h2 : hasB v b <;> simp [h1, h2] at this ⊢]
    · rw [dl_off m1]
      exact hI.2
  · refine xm_in (xb91_0 ⟨_, c86 _, ?_⟩)
    rintro _ rfl
    rw [hB.2.1, decide_eq_false hn]
    refine xb91_8 ⟨fun _ => ⟨0, MI, ML, Q, rfl, xm_in (xb153_0 ⟨_, c148 _, ?_⟩)⟩, fun h => absurd rfl h⟩
    rintro _ rfl
    rw [hB.2.2, decide_eq_false hn]
    exact xb153_5 ⟨fun _ => ⟨MI, ML, Q, rfl, hI⟩, fun h => absurd rfl h⟩
end OPS4
theorem bI_ne {b : Bool} : (¬ bI b = 0) ↔ b = true := by cases b <;> simp [bI]
/-- the scanner's components -/
theorem c75 {MI : Nat → Nat → Int32} {ML : Nat → Nat → Int64} {Q : Nat → Nat} {k c : Nat} {N J : Nat → Nat} {U : Nat → Int64} (hV : VS k c MI ML Q N J U) : xm_Ev xz 75 [.ref 17] (xM MI ML Q) (fun r => ∃ ML', r = (none, xM MI ML' Q) ∧ (∀ a j, a ≠ 21 → ML' a j = ML a j) ∧ ∀ i t, i < c → (hasB (ML' 21 i) t = true ↔ ∃ o, o < c ∧ N o = t ∧ hasB (ML 20 i) (N o) = true ∧ hasB (ML 20 o) (N i) = true)) := by
  have hV0 := hV
  obtain ⟨a1, a2, a3, a4, a5⟩ := hV
  -- the inner loop, for row i
  have inn : ∀ (P : xm_R → Prop) (i : Nat), i < c → (∀ ML3 : Nat → Nat → Int64, (∀ a j, (a ≠ 21 ∨ j ≠ i) → ML3 a j = ML3 a j) → True) → ∀ ML0 : Nat → Nat → Int64, (∀ a j, a ≠ 21 → ML0 a j = ML a j) → (∀ ML3 : Nat → Nat → Int64, (∀ a j, ¬ (a = 21 ∧ j = i) → ML3 a j = ML0 a j) → (∀ t, hasB (ML3 21 i) t = true ↔ ∃ o, o < c ∧ N o = t ∧ hasB (ML 20 i) (N o) = true ∧ hasB (ML 20 o) (N i) = true) → xq75 P (2, [some (.ref 17), some (.int (nI (i + 1))), none], [], xM MI ML3 Q, 0, 0)) → ∀ (d o : Nat), o + d = c → ∀ ML3 : Nat → Nat → Int64, (∀ a j, ¬ (a = 21 ∧ j = i) → ML3 a j = ML0 a j) → (∀ t, hasB (ML3 21 i) t = true ↔ ∃ o', o' < o ∧ N o' = t ∧ hasB (ML 20 i) (N o') = true ∧ hasB (ML 20 o') (N i) = true) → xq75 P (19, [some (.ref 17), some (.int (nI i)), some (.int (nI o))], [], xM MI ML3 Q, 0, 0) := by
    intro P i hi _ ML0 m0 next d
    induction d with
    | zero =>
      intro o ho ML3 m1 m2
      have : o = c := by omega
      subst this
      refine xb75_19 ⟨fun _ => ?_, fun hl => ?_⟩
      · rw [nI_1]
        exact next ML3 m1 m2
      · rw [a3] at hl
        exact absurd (nI_le (Nat.le_refl o) (by omega)) hl
    | succ d ih =>
      intro o ho ML3 m1 m2
      have v1 : vp_in (nI i) 16 := vp_in_nI (by omega) (by decide)
      have v2 : vp_in (nI o) 16 := vp_in_nI (by omega) (by decide)
      obtain ⟨q1, q2, q3, q4⟩ := a4.at (i := o) (by omega)
      obtain ⟨n1, n2, -⟩ := a5 o (by omega)
      have e20 : ∀ j, ML3 20 j = ML 20 j := fun j => by rw [m1 20 j (by omega), m0 20 j (by decide)]
      have hV3 : VS k c MI ML3 Q N J U := hV0.keep (fun _ _ _ => rfl) (fun a j h => by rw [m1 a j (by omega), m0 a j (by omega)])
      have stay : (hasB (ML 20 i) (N o) = true ∧ hasB (ML 20 o) (N i) = true → False) → xq75 P (19, [some (.ref 17), some (.int (nI i)), some (.int (nI o + 1))], [], xM MI ML3 Q, 0, 0) := fun hno => by
        rw [nI_1]
        refine ih (o + 1) (by omega) ML3 m1 (fun t => ?_)
        rw [m2 t]
        constructor
        · rintro ⟨o', h1, h2⟩
          exact ⟨o', by omega, h2⟩
        · rintro ⟨o', h1, h2, h3, h4⟩
          by_cases e : o' = o
          · subst e; exact absurd ⟨h3, h4⟩ hno
          · exact ⟨o', by omega, h2, h3, h4⟩
      refine xb75_19 ⟨fun hl => ?_, fun _ => ⟨_, c73 hV3 (i := i) (o := o) hi (by omega), ?_⟩⟩
      · rw [a3] at hl
        exact absurd hl (nI_ge (by omega) (by omega))
      · rintro _ rfl
        rw [e20]
        refine xb75_33 ⟨fun h => ?_, fun h => ⟨_, c73 hV3 (i := o) (o := i) (by omega) hi, ?_⟩⟩
        · rw [bI_0] at h
          exact stay (fun q => by rw [h] at q; cases q.1)
        · rw [bI_ne] at h
          rintro _ rfl
          rw [e20]
          refine xb75_42 ⟨fun h' => ?_, fun h' => ⟨v1, v2, Q o - 1, q1, q2, v1, ?_⟩⟩
          · rw [bI_0] at h'
            exact stay (fun q => by rw [h'] at q; cases q.2)
          · rw [bI_ne] at h'
            rw [nI_clamp (by omega), n1, nI_1]
            refine ih (o + 1) (by omega) _ (fun a j hn => by rw [xu, if_neg hn]; exact m1 a j hn) (fun t => ?_)
            rw [xm_up_self, if_pos rfl, hasB_or, Bool.or_eq_true, m2 t]
            show _ ∨ hasB (one (N o)) t = true ↔ _
            rw [hasB_one (by omega), decide_eq_true_eq]
            constructor
            · rintro (⟨o', h1, h2⟩ | e)
              · exact ⟨o', by omega, h2⟩
              · exact ⟨o, by omega, e.symm, h, h'⟩
            · rintro ⟨o', h1, h2, h3, h4⟩
              by_cases e : o' = o
              · subst e; exact Or.inr h2.symm
              · exact Or.inl ⟨o', by omega, h2, h3, h4⟩
  have two : ∀ (d i : Nat), i + d = c → ∀ ML0 : Nat → Nat → Int64, (∀ a j, a ≠ 21 → ML0 a j = ML a j) → (∀ n t, n < i → (hasB (ML0 21 n) t = true ↔ ∃ o, o < c ∧ N o = t ∧ hasB (ML 20 n) (N o) = true ∧ hasB (ML 20 o) (N n) = true)) → xq75 (fun r => ∃ ML', r = (none, xM MI ML' Q) ∧ (∀ a j, a ≠ 21 → ML' a j = ML a j) ∧ ∀ i t, i < c → (hasB (ML' 21 i) t = true ↔ ∃ o, o < c ∧ N o = t ∧ hasB (ML 20 i) (N o) = true ∧ hasB (ML 20 o) (N i) = true)) (2, [some (.ref 17), some (.int (nI i)), none], [], xM MI ML0 Q, 0, 0) := by
    intro d
    induction d with
    | zero =>
      intro i hi ML0 m0 m1
      have : i = c := by omega
      subst this
      refine xb75_2 ⟨fun _ => ⟨ML0, rfl, m0, fun n t hn => m1 n t hn⟩, fun hl => ?_⟩
      rw [a3] at hl
      exact absurd (nI_le (Nat.le_refl i) (by omega)) hl
    | succ d ih =>
      intro i hi ML0 m0 m1
      refine xb75_2 ⟨fun hl => ?_, fun _ => ⟨vp_in_nI (by omega) (by decide), ?_⟩⟩
      · rw [a3] at hl
        exact absurd hl (nI_ge (by omega) (by omega))
      · rw [nI_clamp (by omega)]
        refine inn _ i (by omega) (fun _ _ => trivial) (xm_up ML0 21 i 0) (fun a j ha => by rw [xm_up_ne ha]; exact m0 a j ha) (fun ML3 g1 g2 => ?_) c 0 (by omega) (xm_up ML0 21 i 0) (fun _ _ _ => rfl) (fun t => ?_)
        · refine ih (i + 1) (by omega) ML3 (fun a j ha => by rw [g1 a j (fun q => ha q.1), xm_up_ne ha]; exact m0 a j ha) (fun n t hn => ?_)
          by_cases e : n = i
          · subst e; exact g2 t
          · rw [g1 21 n (fun q => e q.2), xm_up_self, if_neg e]
            exact m1 n t (by omega)
        · rw [xm_up_self, if_pos rfl, hasB_0]
          constructor
          · intro q; cases q
          · rintro ⟨o, h, -⟩
            exact absurd h (Nat.not_lt_zero o)
  refine xm_in (xb75_0 ?_)
  exact two c 0 (by omega) ML (fun _ _ _ => rfl) (fun n t hn => absurd hn (Nat.not_lt_zero n))
