/-- what the scanner settles -/
def ST (c : Nat) (DI : Nat → Nat → Int32) (DL : Nat → Nat → Int64) : Prop := ID c DI ∧ SR c DI DL ∧ SC c DI DL ∧ SL c DI DL ∧ SJ c DI DL
/-- what both sides keep -/
def RF (DI : Nat → Nat → Int32) (DL : Nat → Nat → Int64) (Q : Nat → Nat) : Prop := ∃ k c, IB k DI ∧ IP k DI ∧ IC k c DI DL Q ∧ ST c DI DL
theorem tgG {c : Nat} {N3 J3 : Nat → Int32} {U r20 r21 : Nat → Int64} (hS : (∀ i t, i < c → FD c (fun i => (N3 i).toNatClampNeg) (fun i => (J3 i).toNatClampNeg) ((N3 i).toNatClampNeg) i → (hasB (r20 i) t = true ↔ Cl (ED c (fun i => (N3 i).toNatClampNeg) (fun i => (J3 i).toNatClampNeg) U) ((N3 i).toNatClampNeg) t)) ∧ ∀ i, i < c → ¬ FD c (fun i => (N3 i).toNatClampNeg) (fun i => (J3 i).toNatClampNeg) ((N3 i).toNatClampNeg) i → r20 i = 0) (hC : ∀ i t, i < c → (hasB (r21 i) t = true ↔ ∃ o, o < c ∧ (N3 o).toNatClampNeg = t ∧ hasB (r20 i) ((N3 o).toNatClampNeg) = true ∧ hasB (r20 o) ((N3 i).toNatClampNeg) = true)) {i : Nat} (hi : FD c (fun i => (N3 i).toNatClampNeg) (fun i => (J3 i).toNatClampNeg) ((N3 i).toNatClampNeg) i) (t : Nat) : hasB (r21 i) t = true ↔ Tg (ED c (fun i => (N3 i).toNatClampNeg) (fun i => (J3 i).toNatClampNeg) U) ((N3 i).toNatClampNeg) t :=
  SC.tg (c := c) (DI := fun a j => bif Nat.beq a 58 then N3 j else J3 j) (DL := fun a j => bif Nat.beq a 20 then r20 j else bif Nat.beq a 21 then r21 j else U j) hC hS hi t
theorem c66 {MI : Nat → Nat → Int32} {ML : Nat → Nat → Int64} {Q : Nat → Nat} {k c : Nat} {N3 J3 : Nat → Int32} {U S : Nat → Int64} (hV : VS k c MI ML Q (fun i => (N3 i).toNatClampNeg) (fun i => (J3 i).toNatClampNeg) U) (hS : ∀ i, i < c → ML (Q i - 1) 8 = S i) (h3 : ∀ i, i < c → N3 i = nI (N3 i).toNatClampNeg ∧ J3 i = nI (J3 i).toNatClampNeg) (hU : ∀ i, i < c → ∀ b, hasB (U i) b = true → b < k) : xm_Ev xz 66 [.ref 0] (xM MI ML Q) (fun z => ∃ MI' ML', z = (none, xM MI' ML' Q) ∧ (∀ a j, a ≠ 19 → a ≠ 22 → a ≠ 43 → a ≠ 44 → MI' a j = MI a j) ∧ (∀ a j, a ≠ 20 → a ≠ 21 → a ≠ 40 → a ≠ 41 → a ≠ 42 → ML' a j = ML a j) ∧ ∀ DI DL, DI 58 = N3 → DI 57 = J3 → DL 64 = U → DL 65 = S → DI 19 = MI' 19 → DI 22 = MI' 22 → DI 43 = MI' 43 → DI 44 = MI' 44 → DL 20 = ML' 20 → DL 21 = ML' 21 → DL 40 = ML' 40 → DL 41 = ML' 41 → ST c DI DL) := by
  have hk := hV.1
  have hc := hV.2.1
  have b48 : ∀ a b, ED c (fun i => (N3 i).toNatClampNeg) (fun i => (J3 i).toNatClampNeg) U a b → b < 48 := fun a b ⟨i, i1, i2⟩ => by
    have := hU i i1.1 b i2
    omega
  obtain ⟨T, t1, t2⟩ := LF_ex (E := ED c (fun i => (N3 i).toNatClampNeg) (fun i => (J3 i).toNatClampNeg) U) (c := c) (N := fun i => (N3 i).toNatClampNeg) (J := fun i => (J3 i).toNatClampNeg) b48
  have sh : xm_Ev xz 67 [.ref 17] (xM MI ML Q) (fun z => ∃ MI' ML', z = (none, xM MI' ML' Q) ∧ (∀ a j, a ≠ 19 → a ≠ 22 → MI' a j = MI a j) ∧ (∀ a j, a ≠ 20 → a ≠ 21 → ML' a j = ML a j) ∧ (∀ y, y < 48 → isPr 0 c N3 J3 (nI y) (MI' 19 y)) ∧ PV c MI' (fun i => (N3 i).toNatClampNeg) (fun i => (J3 i).toNatClampNeg) ∧ ((∀ i t, i < c → FD c (fun i => (N3 i).toNatClampNeg) (fun i => (J3 i).toNatClampNeg) ((N3 i).toNatClampNeg) i → (hasB (ML' 20 i) t = true ↔ Cl (ED c (fun i => (N3 i).toNatClampNeg) (fun i => (J3 i).toNatClampNeg) U) ((N3 i).toNatClampNeg) t)) ∧ ∀ i, i < c → ¬ FD c (fun i => (N3 i).toNatClampNeg) (fun i => (J3 i).toNatClampNeg) ((N3 i).toNatClampNeg) i → ML' 20 i = 0) ∧ (∀ i t, i < c → (hasB (ML' 21 i) t = true ↔ ∃ o, o < c ∧ (N3 o).toNatClampNeg = t ∧ hasB (ML' 20 i) ((N3 o).toNatClampNeg) = true ∧ hasB (ML' 20 o) ((N3 i).toNatClampNeg) = true)) ∧ ∀ o, o < c → FD c (fun i => (N3 i).toNatClampNeg) (fun i => (J3 i).toNatClampNeg) ((N3 o).toNatClampNeg) o → MI' 22 o = nI (T ((N3 o).toNatClampNeg))) := by
    refine xm_in (xb67_0 ⟨_, c68 (N := N3) (J := J3) hV.2.2.2.1 hc hV.2.2.1 (fun i hi => ?_), ?_⟩)
    · obtain ⟨n1, n2, n3, n4, -⟩ := hV.2.2.2.2 i hi
      exact ⟨n1.trans (h3 i hi).1.symm, n3.trans (h3 i hi).2.symm, _, Nat.lt_of_lt_of_le n2 hk, (h3 i hi).1⟩
    · rintro _ ⟨M1, rfl, m1, m2⟩
      have hV1 : VS k c M1 ML Q (fun i => (N3 i).toNatClampNeg) (fun i => (J3 i).toNatClampNeg) U := hV.keep (fun a j h => m1 a j (by omega)) (fun _ _ _ => rfl)
      have hP1 : PV c M1 (fun i => (N3 i).toNatClampNeg) (fun i => (J3 i).toNatClampNeg) := fun y hy => isPr_FD (N := fun i => (N3 i).toNatClampNeg) (J := fun i => (J3 i).toNatClampNeg) (fun i hi => ⟨(h3 i hi).1, Nat.lt_of_lt_of_le (hV.2.2.2.2 i hi).2.1 hk, (h3 i hi).2, (hV.2.2.2.2 i hi).2.2.2.1⟩) hy (m2 y hy)
      refine xb67_4 ⟨_, c70 hV1 hP1, ?_⟩
      rintro _ ⟨L1, rfl, l1, l2, l3⟩
      have hV2 : VS k c M1 L1 Q (fun i => (N3 i).toNatClampNeg) (fun i => (J3 i).toNatClampNeg) U := hV1.keep (fun _ _ _ => rfl) (fun a j h => l1 a j (by omega))
      refine xb67_8 ⟨_, c75 hV2, ?_⟩
      rintro _ ⟨L2, rfl, g1, g2⟩
      have hV3 : VS k c M1 L2 Q (fun i => (N3 i).toNatClampNeg) (fun i => (J3 i).toNatClampNeg) U := hV2.keep (fun _ _ _ => rfl) (fun a j h => g1 a j (by omega))
      have e20 : L2 20 = L1 20 := by funext j; exact g1 20 j (by decide)
      rw [← e20] at l2 l3 g2
      refine xb67_12 ⟨_, c76 hV3 hP1 (fun i hi hf t => ?_) t1 t2, ?_⟩
      · have q := tgG (U := U) ⟨l2, l3⟩ g2 hf t
        have p := l2 i t hi hf
        by_cases ht : t < 64
        · rw [hasB_and, Bool.and_eq_true, hasB_not ht, Bool.not_eq_true', p]
          refine and_congr_right fun hcl => ?_
          constructor
          · intro z w
            rw [q.mpr ⟨hcl, w⟩] at z
            cases z
          · intro z
            refine ts_nt fun w => z (q.mp w).2
        · rw [hasB_ge (by omega)]
          refine ⟨fun z => (by cases z), fun z => ?_⟩
          exact absurd (hasB_lt (p.mpr z.1)) ht
      · rintro _ ⟨M2, rfl, n1, n2⟩
        refine xb67_16 ⟨M2, L2, rfl, fun a j h1 h2 => by rw [n1 a j h2, m1 a j h1], fun a j h1 h2 => by rw [g1 a j h2, l1 a j h1], fun y hy => by rw [n1 19 y (by decide)]; exact m2 y hy, fun y hy => by rw [n1 19 y (by decide)]; exact hP1 y hy, ⟨l2, l3⟩, g2, n2⟩
  refine xm_in (xb66_0 ⟨_, sh, ?_⟩)
  rintro _ ⟨M1, L1, rfl, a1, a2, a3, a4, a5, a6, a7⟩
  have hV1 : VS k c M1 L1 Q (fun i => (N3 i).toNatClampNeg) (fun i => (J3 i).toNatClampNeg) U := hV.keep (fun a j h => a1 a j (by omega) (by omega)) (fun a j h => a2 a j (by omega) (by omega))
  refine xb66_7 ⟨_, c79 (S := S) hV1 a4 (fun i hi => ?_), ?_⟩
  · obtain ⟨-, -, q3, q4⟩ := hV.2.2.2.1.at (i := i) (by omega)
    rw [a2 _ 8 (by omega) (by omega)]
    exact hS i hi
  · rintro _ ⟨M2, L2, rfl, b1, b2, b3⟩
    refine xb66_18 ⟨M2, L2, rfl, fun a j h1 h2 h3 h4 => by rw [b1 a j h3 h4, a1 a j h1 h2], fun a j h1 h2 h3 h4 h5 => by rw [b2 a j h3 h4 h5, a2 a j h1 h2], ?_⟩
    intro DI DL e58 e57 e64 e65 e19 e22 e43 e44 e20 e21 e40 e41
    have f19 : M2 19 = M1 19 := by funext j; exact b1 19 j (by decide) (by decide)
    have f22 : M2 22 = M1 22 := by funext j; exact b1 22 j (by decide) (by decide)
    have f20 : L2 20 = L1 20 := by funext j; exact b2 20 j (by decide) (by decide) (by decide)
    have f21 : L2 21 = L1 21 := by funext j; exact b2 21 j (by decide) (by decide) (by decide)
    have vn : vN DI = fun i => (N3 i).toNatClampNeg := by funext i; unfold vN; rw [e58]
    have vj : vJ DI = fun i => (J3 i).toNatClampNeg := by funext i; unfold vJ; rw [e57]
    refine ⟨?_, ?_, ?_, ?_, ?_⟩
    · intro y hy
      rw [e58, e57, e19, f19]
      exact a3 y hy
    · unfold SR
      rw [vn, vj, e64, e20, f20]
      exact a5
    · unfold SC
      rw [vn, e20, e21, f20, f21]
      exact a6
    · refine ⟨T, ?_, t2, ?_⟩
      · rw [vn, vj, e64]
        exact t1
      · rw [vn, vj, e22, f22]
        exact a7
    · unfold SJ
      rw [vn, vj, e64, e65]
      intro j hj
      rw [e43, e44, e40, e41]
      exact b3 j hj
theorem IF.mv {k : Nat} {DI DI' : Nat → Nat → Int32} {DL DL' : Nat → Nat → Int64} {f f' i i' : Nat} (h : IF k DI DL f i) (h1 : ∀ j, DI' f' j = DI f j) (h2 : ∀ a, 57 ≤ a → a ≤ 63 → DI' a i' = DI a i) (h3 : ∀ j, DL' f' j = DL f j) (h4 : ∀ a, 64 ≤ a → a ≤ 65 → DL' a i' = DL a i) : IF k DI' DL' f' i' := by
  unfold IF at h ⊢
  rw [h1, h1, h1, h1, h1, h1, h1, h3, h3, h2 57 (by decide) (by decide), h2 58 (by decide) (by decide), h2 59 (by decide) (by decide), h2 60 (by decide) (by decide), h2 61 (by decide) (by decide), h2 62 (by decide) (by decide), h2 63 (by decide) (by decide), h4 64 (by decide) (by decide), h4 65 (by decide) (by decide)]
  exact h
theorem IC.put {k c : Nat} {MI : Nat → Nat → Int32} {ML : Nat → Nat → Int64} {Q : Nat → Nat} (h : IC k c MI ML Q) : IC k c (dm MI) (dl ML) Q := by
  obtain ⟨h1, h2, h3, h4, h5⟩ := h
  refine ⟨h1, h2, h3, h4, fun i hi => ?_⟩
  obtain ⟨-, -, q3, q4⟩ := h4.at (i := i) (by omega)
  exact (h5 i hi).mv (fun j => dm_at (of_dur (Or.inl ⟨by omega, by omega, by omega⟩))) (fun a p q => dm_at (of_dur (Or.inr (Or.inr ⟨by omega, by omega⟩)))) (fun j => dl_at (of_dur (Or.inl ⟨by omega, by omega, by omega⟩))) (fun a p q => dl_at (of_dur (Or.inr (Or.inr ⟨by omega, by omega⟩))))
theorem IB.cg {k : Nat} {DI DI' : Nat → Nat → Int32} (h : IB k DI) (h1 : DI' 12 4 = DI 12 4) (h2 : DI' 45 19 = DI 45 19) (h3 : ∀ a j, (13 ≤ a ∧ a ≤ 15) ∨ a = 55 ∨ a = 56 → DI' a j = DI a j) : IB k DI' := by
  obtain ⟨b1, b2, b3, b4⟩ := h
  refine ⟨b1, h1.trans b2, h2.trans b3, fun a ha => ?_⟩
  have := b4 a ha
  unfold IBn at this ⊢
  simp only [h3 14 _ (Or.inl (by decide)), h3 56 _ (Or.inr (Or.inr rfl)), h3 55 _ (Or.inr (Or.inl rfl)), h3 13 _ (Or.inl (by decide)), h3 15 _ (Or.inl (by decide))]
  exact this
theorem IP.cg {k : Nat} {DI DI' : Nat → Nat → Int32} (h : IP k DI) (h3 : ∀ a j, 13 ≤ a → a ≤ 16 → DI' a j = DI a j) : IP k DI' := by
  intro a ha
  have := h a ha
  unfold SP vP at this ⊢
  simp only [h3 13 _ (by decide) (by decide), h3 15 _ (by decide) (by decide), h3 16 _ (by decide) (by decide)]
  exact this
theorem IA.cg {MI MI' : Nat → Nat → Int32} (h : IA MI) (h1 : MI' 2 1 = MI 2 1) (h2 : MI' 45 1 = MI 45 1) (h3 : ∀ i, MI' 3 i = MI 3 i) (h4 : ∀ i, MI' 46 i = MI 46 i) : IA MI' := by
  obtain ⟨n, g1, g2, g3, g4⟩ := h
  exact ⟨n, g1, h1.trans g2, h2.trans g3, fun i hi => by rw [h3, h4]; exact g4 i hi⟩
theorem op3 (x : Int32) : xOpI (xInv RF) 81 145 [.int x] := by
  intro MI ML Q hI
  obtain ⟨k, c, hB0, hP0, hC0, hT0⟩ := hI.2
  have hB : IB k MI := hB0
  have hP : IP k MI := hP0
  have hC := hC0.get
  have hC' := hC
  obtain ⟨c1, c2, c3, c4, c5⟩ := hC'
  by_cases hn : ¬ x < 0 ∧ x < 5
  · refine xm_in (xb81_0 ⟨_, c14 x, ?_⟩)
    rintro _ rfl
    rw [decide_eq_true hn]
    refine xb81_4 ⟨fun h => absurd h (by decide), fun _ => ⟨_, c82 (J := MI 57) c4 c1 c2 (fun i hi => ?_) x, ?_⟩⟩
    · obtain ⟨⟨jr, -, j1, j2⟩, -⟩ := c5 i hi
      exact j1.trans j2.symm
    · rintro _ ⟨Q', rfl, iq, q'⟩
      obtain ⟨L, eL⟩ : ∃ L, kept (MI 57) x c = L := ⟨_, rfl⟩
      have Llen := kept_len (MI 57) x c
      have Llt := kept_lt (MI 57) x c
      rw [eL] at q' Llen Llt ⊢
      have Lat : ∀ p, p < L.length → L.getD p 0 < c := fun p hp => by
        rw [List.getD_eq_getElem?_getD, List.getElem?_eq_getElem hp]
        exact Llt _ (List.getElem_mem hp)
      -- the new rows
      have rF : ∀ a p, 57 ≤ a → a ≤ 63 → p < L.length → rowF MI L a p = MI a (L.getD p 0) := fun a p h1 h2 h3 => if_pos ⟨h1, h2, h3⟩
      have rG : ∀ a p, 64 ≤ a → a ≤ 65 → p < L.length → rowG ML L a p = ML a (L.getD p 0) := fun a p h1 h2 h3 => if_pos ⟨h1, h2, h3⟩
      have fx : ∀ p, p < L.length → ∃ nm jr : Nat, rowF MI L 58 p = nI nm ∧ nm < k ∧ rowF MI L 57 p = nI jr ∧ jr < 5 ∧ MI (Q' p - 1) 1 = nI nm ∧ MI (Q' p - 1) 0 = nI jr := fun p hp => by
        obtain ⟨⟨jr, j0, j1, j2⟩, ⟨nm, n0, n1, n2, -⟩, -⟩ := c5 _ (Lat p hp)
        rw [q' p hp]
        exact ⟨nm, jr, (rF 58 p (by decide) (by decide) hp).trans n2, n0, (rF 57 p (by decide) (by decide) hp).trans j2, j0, n1, j1⟩
      have hk := hB.1
      have hV : VS k L.length (xm_up MI 17 1 (nI L.length)) ML Q' (fun i => (rowF MI L 58 i).toNatClampNeg) (fun i => (rowF MI L 57 i).toNatClampNeg) (rowG ML L 64) := by
        refine ⟨hk, by omega, by rw [xu, if_pos ⟨rfl, rfl⟩], iq, fun p hp => ?_⟩
        obtain ⟨-, -, g3, g4⟩ := iq.at (i := p) (by omega)
        obtain ⟨nm, jr, n1, n2, n3, n4, n5, n6⟩ := fx p hp
        rw [xu, if_neg (by omega), xu, if_neg (by omega)]
        show MI (Q' p - 1) 1 = nI (rowF MI L 58 p).toNatClampNeg ∧ (rowF MI L 58 p).toNatClampNeg < k ∧ MI (Q' p - 1) 0 = nI (rowF MI L 57 p).toNatClampNeg ∧ (rowF MI L 57 p).toNatClampNeg < 5 ∧ _
        rw [n1, n3, nI_clamp (by omega), nI_clamp (by omega)]
        refine ⟨n5, n2, n6, n4, ?_⟩
        rw [q' p hp, rG 64 p (by decide) (by decide) hp]
        exact (c5 _ (Lat p hp)).2.2.2.2.2.2.2.1
      refine xb81_17 ⟨_, c66 (N3 := rowF MI L 58) (J3 := rowF MI L 57) (U := rowG ML L 64) (S := rowG ML L 65) hV (fun p hp => ?_) (fun p hp => ?_) (fun p hp b => ?_), ?_⟩
      · rw [q' p hp, rG 65 p (by decide) (by decide) hp]
        exact (c5 _ (Lat p hp)).2.2.2.2.2.2.2.2.1
      · obtain ⟨nm, jr, n1, n2, n3, n4, n5, n6⟩ := fx p hp
        rw [n1, n3, nI_clamp (by omega), nI_clamp (by omega)]
        exact ⟨rfl, rfl⟩
      · rw [rG 64 p (by decide) (by decide) hp]
        exact (c5 _ (Lat p hp)).2.2.2.2.2.2.2.2.2.1 b
      · rintro _ ⟨M2, L2, rfl, s1, s2, s3⟩
        refine xb81_22 ⟨nI (c - L.length), M2, L2, Q', rfl, ?_⟩
        have e57 : M2 57 = MI 57 := by funext j; rw [s1 57 j (by decide) (by decide) (by decide) (by decide), xm_up_ne (by decide)]
        refine (c145 (c := c) c1 (by rw [s1 45 24 (by decide) (by decide) (by decide) (by decide), xm_up_ne (by decide)]; exact c3) x).imp ?_
        rw [e57, eL]
        rintro _ (⟨-, rfl⟩ | ⟨h, -⟩)
        · have big : ∀ a j, a ≠ 17 → a ≠ 19 → a ≠ 22 → a ≠ 43 → a ≠ 44 → ¬ (57 ≤ a ∧ a ≤ 63) → ¬ (a = 45 ∧ j = 24) → xm_up (rowF M2 L) 45 24 (nI L.length) a j = MI a j := fun a j h1 h2 h3 h4 h5 h6 h7 => by
            rw [xu, if_neg h7]
            show (if _ then _ else _) = _
            rw [if_neg (fun q => h6 ⟨q.1, q.2.1⟩), s1 a j h2 h3 h4 h5, xm_up_ne h1]
          have bigL : ∀ a j, a ≠ 20 → a ≠ 21 → a ≠ 40 → a ≠ 41 → a ≠ 42 → ¬ (64 ≤ a ∧ a ≤ 65) → rowG L2 L a j = ML a j := fun a j h1 h2 h3 h4 h5 h6 => by
            show (if _ then _ else _) = _
            rw [if_neg (fun q => h6 ⟨q.1, q.2.1⟩), s2 a j h1 h2 h3 h4 h5]
          have row : ∀ a j, 57 ≤ a → a ≤ 63 → xm_up (rowF M2 L) 45 24 (nI L.length) a j = rowF MI L a j := fun a j h1 h2 => by
            rw [xu, if_neg (by omega)]
            unfold rowF
            rw [s1 a j (by omega) (by omega) (by omega) (by omega), s1 a (L.getD j 0) (by omega) (by omega) (by omega) (by omega), xm_up_ne (by omega), xm_up_ne (by omega)]
          have rowL : ∀ a j, 64 ≤ a → a ≤ 65 → rowG L2 L a j = rowG ML L a j := fun a j h1 h2 => by
            unfold rowG
            rw [s2 a j (by omega) (by omega) (by omega) (by omega) (by omega), s2 a (L.getD j 0) (by omega) (by omega) (by omega) (by omega) (by omega)]
          refine ⟨_, _, _, rfl, ?_, k, L.length, ?_, ?_, ?_, ?_⟩
          · exact hI.1.cg (big 2 1 (by decide) (by decide) (by decide) (by decide) (by decide) (by decide) (by decide)) (big 45 1 (by decide) (by decide) (by decide) (by decide) (by decide) (by decide) (by decide)) (fun i => big 3 i (by decide) (by decide) (by decide) (by decide) (by decide) (by decide) (by omega)) (fun i => big 46 i (by decide) (by decide) (by decide) (by decide) (by decide) (by decide) (by omega))
          · have : IB k (xm_up (rowF M2 L) 45 24 (nI L.length)) := hB.cg (big 12 4 (by decide) (by decide) (by decide) (by decide) (by decide) (by decide) (by decide)) (big 45 19 (by decide) (by decide) (by decide) (by decide) (by decide) (by decide) (by decide)) (fun a j h => big a j (by omega) (by omega) (by omega) (by omega) (by omega) (by omega) (by omega))
            exact this
          · have : IP k (xm_up (rowF M2 L) 45 24 (nI L.length)) := hP.cg (fun a j h1 h2 => big a j (by omega) (by omega) (by omega) (by omega) (by omega) (by omega) (by omega))
            exact this
          · refine IC.put ⟨by omega, ?_, ?_, iq, fun p hp => ?_⟩
            · rw [xm_up_ne (by decide)]
              show (if _ then _ else _) = _
              rw [if_neg (by omega), s1 17 1 (by decide) (by decide) (by decide) (by decide), xu, if_pos ⟨rfl, rfl⟩]
            · rw [xu, if_pos ⟨rfl, rfl⟩]
            · obtain ⟨-, -, g3, g4⟩ := iq.at (i := p) (by omega)
              refine (c5 _ (Lat p hp)).mv (fun j => ?_) (fun a h1 h2 => ?_) (fun j => ?_) (fun a h1 h2 => ?_)
              · rw [big _ j (by omega) (by omega) (by omega) (by omega) (by omega) (by omega) (by omega), q' p hp]
              · rw [row a p h1 h2, rF a p h1 h2 hp]
              · rw [bigL _ j (by omega) (by omega) (by omega) (by omega) (by omega) (by omega), q' p hp]
              · rw [rowL a p h1 h2, rG a p h1 h2 hp]
          · have nb : ∀ a, a ≠ 45 → ¬ (57 ≤ a ∧ a ≤ 63) → ∀ j, xm_up (rowF M2 L) 45 24 (nI L.length) a j = M2 a j := fun a h1 h2 j => by
              rw [xm_up_ne h1]
              show (if _ then _ else _) = _
              rw [if_neg (fun q => h2 ⟨q.1, q.2.1⟩)]
            have nl : ∀ a, ¬ (64 ≤ a ∧ a ≤ 65) → ∀ j, rowG L2 L a j = L2 a j := fun a h2 j => by
              show (if _ then _ else _) = _
              rw [if_neg (fun q => h2 ⟨q.1, q.2.1⟩)]
            refine s3 _ _ ?_ ?_ ?_ ?_ ?_ ?_ ?_ ?_ ?_ ?_ ?_ ?_
            · funext j; exact row 58 j (by decide) (by decide)
            · funext j; exact row 57 j (by decide) (by decide)
            · funext j; exact rowL 64 j (by decide) (by decide)
            · funext j; exact rowL 65 j (by decide) (by decide)
            · funext j; exact nb 19 (by decide) (by decide) j
            · funext j; exact nb 22 (by decide) (by decide) j
            · funext j; exact nb 43 (by decide) (by decide) j
            · funext j; exact nb 44 (by decide) (by decide) j
            · funext j; exact nl 20 (by decide) j
            · funext j; exact nl 21 (by decide) j
            · funext j; exact nl 40 (by decide) j
            · funext j; exact nl 41 (by decide) j
        · exact absurd hn h
  · refine xm_in (xb81_0 ⟨_, c14 x, ?_⟩)
    rintro _ rfl
    rw [decide_eq_false hn]
    refine xb81_4 ⟨fun _ => ⟨-1, MI, ML, Q, rfl, (c145 c1 c3 x).imp ?_⟩, fun h => absurd rfl h⟩
    rintro _ (⟨h, -⟩ | ⟨-, rfl⟩)
    · exact absurd h hn
    · exact ⟨MI, ML, Q, rfl, hI⟩
