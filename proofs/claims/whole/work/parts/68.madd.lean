section MAD
variable {MI : Nat → Nat → Int32} {ML : Nat → Nat → Int64} {Q : Nat → Nat} {b : Nat → Nat} {n : Nat}
/-- add on the reference's side -/
theorem c116 (hb : ∀ i, b i < 256) (hD : Dm n (bBy b) MI) {x : Int32} (hx : ¬ x < 0 ∧ x < 5) {c : Nat} (hc : c < 16) (h24 : MI 45 24 = nI c) {L0 : List Wd} (h48 : L0.length ≤ 48) (h19 : MI 45 19 = nI L0.length) (hN : NM L0 MI) : xm_Ev xz 116 [.ref 45, .int x] (xM MI ML Q) (fun r =>
    (∃ p M, fnS b n = .error p ∧ p ≤ 500 ∧ r = (some (.int (-2 - nI p)), xM M ML Q) ∧ M 45 1 = 0 ∧ ∀ a j, ¬ (a = 45 ∧ 1 ≤ j ∧ j ≤ 16) → ¬ (47 ≤ a ∧ a ≤ 54) → M a j = MI a j)
    ∨ (∃ a M, fnS b n = .ok a ∧ (∃ i, i < c ∧ MI 57 i = x ∧ MI 58 i = rv (L0, false) (wOwn b n)) ∧ r = (some (.int (-1000)), xM M ML Q) ∧ MR MI M)
    ∨ (∃ a M L, fnS b n = .ok a ∧ (¬ ∃ i, i < c ∧ MI 57 i = x ∧ MI 58 i = rv (L0, false) (wOwn b n)) ∧ (fS3 b n (L0, false)).2 = true ∧ r = (some (.int (-1001)), xM M L Q) ∧ (∀ a j, ¬ (a = 45 ∧ 2 ≤ j ∧ j ≤ 22) → ¬ (47 ≤ a ∧ a ≤ 56) → M a j = MI a j) ∧ MTL ML L ∧ M 45 19 = nI L0.length ∧ NM L0 M)
    ∨ (∃ a M L u v um us u8 u1, fnS b n = .ok a ∧ (¬ ∃ i, i < c ∧ MI 57 i = x ∧ MI 58 i = rv (L0, false) (wOwn b n)) ∧ (fS3 b n (L0, false)).2 = false ∧ r = (some (.int (nI c)), xM M L Q) ∧ (∀ a j, ¬ (a = 45 ∧ 1 ≤ j ∧ j ≤ 24) → ¬ (47 ≤ a ∧ a ≤ 63) → M a j = MI a j) ∧ (∀ a j, 57 ≤ a → a ≤ 63 → j ≠ c → M a j = MI a j) ∧ (∀ a j, ¬ (a = 45 ∧ j = 23) → ¬ (64 ≤ a ∧ a ≤ 65 ∧ j = c) → L a j = ML a j) ∧ TM (fS3 b n (L0, false)) M ∧ M 45 1 = 0 ∧ M 45 24 = nI (c + 1) ∧ M 57 c = x ∧ M 58 c = nI ((fS3 b n (L0, false)).1.idxOf (wOwn b n)) ∧ M 59 c = (if rPa b n = 0 then -1 else rv (fS3 b n (L0, false)) (wc b (poT b n) (rPa b n))) ∧ M 60 c = nI (rFl b n) ∧ M 61 c = nI (rIf b n) ∧ M 62 c = nI (rMf b n) ∧ M 63 c = nI (rMm b n) - nI (rMf b n) ∧ US (fS3 b n (L0, false)) (((fWa b n ++ (fWs b n ++ fWi b n)) ++ [wOwn b n]) ++ fWs b n) u ∧ L 64 c = u &&& (one ((fS3 b n (L0, false)).1.idxOf (wOwn b n)) ^^^ -1) ∧ L 65 c = v ∧ US (fS3 b n (L0, false)) (fWa b n ++ (fWs b n ++ fWi b n)) um ∧ US (fS3 b n (L0, false)) (fWp b n ++ (fWs b n ++ fWi b n)) u8 ∧ US (fS3 b n (L0, false)) (prW b (poT b n) (poZ b n - 1) 1) us ∧ US (fS3 b n (L0, false)) [wOwn b n] u1 ∧ v = (if nI (rFl b n) &&& 1 = 1 then (u8 &&& (u1 ^^^ -1)) &&& (um ||| us) else 0))) := by
  have hn := hD.1
  obtain ⟨P, eP⟩ : ∃ P : xm_R → Prop, P = (fun r =>
    (∃ p M, fnS b n = .error p ∧ p ≤ 500 ∧ r = (some (.int (-2 - nI p)), xM M ML Q) ∧ M 45 1 = 0 ∧ ∀ a j, ¬ (a = 45 ∧ 1 ≤ j ∧ j ≤ 16) → ¬ (47 ≤ a ∧ a ≤ 54) → M a j = MI a j)
    ∨ (∃ a M, fnS b n = .ok a ∧ (∃ i, i < c ∧ MI 57 i = x ∧ MI 58 i = rv (L0, false) (wOwn b n)) ∧ r = (some (.int (-1000)), xM M ML Q) ∧ MR MI M)
    ∨ (∃ a M L, fnS b n = .ok a ∧ (¬ ∃ i, i < c ∧ MI 57 i = x ∧ MI 58 i = rv (L0, false) (wOwn b n)) ∧ (fS3 b n (L0, false)).2 = true ∧ r = (some (.int (-1001)), xM M L Q) ∧ (∀ a j, ¬ (a = 45 ∧ 2 ≤ j ∧ j ≤ 22) → ¬ (47 ≤ a ∧ a ≤ 56) → M a j = MI a j) ∧ MTL ML L ∧ M 45 19 = nI L0.length ∧ NM L0 M)
    ∨ (∃ a M L u v um us u8 u1, fnS b n = .ok a ∧ (¬ ∃ i, i < c ∧ MI 57 i = x ∧ MI 58 i = rv (L0, false) (wOwn b n)) ∧ (fS3 b n (L0, false)).2 = false ∧ r = (some (.int (nI c)), xM M L Q) ∧ (∀ a j, ¬ (a = 45 ∧ 1 ≤ j ∧ j ≤ 24) → ¬ (47 ≤ a ∧ a ≤ 63) → M a j = MI a j) ∧ (∀ a j, 57 ≤ a → a ≤ 63 → j ≠ c → M a j = MI a j) ∧ (∀ a j, ¬ (a = 45 ∧ j = 23) → ¬ (64 ≤ a ∧ a ≤ 65 ∧ j = c) → L a j = ML a j) ∧ TM (fS3 b n (L0, false)) M ∧ M 45 1 = 0 ∧ M 45 24 = nI (c + 1) ∧ M 57 c = x ∧ M 58 c = nI ((fS3 b n (L0, false)).1.idxOf (wOwn b n)) ∧ M 59 c = (if rPa b n = 0 then -1 else rv (fS3 b n (L0, false)) (wc b (poT b n) (rPa b n))) ∧ M 60 c = nI (rFl b n) ∧ M 61 c = nI (rIf b n) ∧ M 62 c = nI (rMf b n) ∧ M 63 c = nI (rMm b n) - nI (rMf b n) ∧ US (fS3 b n (L0, false)) (((fWa b n ++ (fWs b n ++ fWi b n)) ++ [wOwn b n]) ++ fWs b n) u ∧ L 64 c = u &&& (one ((fS3 b n (L0, false)).1.idxOf (wOwn b n)) ^^^ -1) ∧ L 65 c = v ∧ US (fS3 b n (L0, false)) (fWa b n ++ (fWs b n ++ fWi b n)) um ∧ US (fS3 b n (L0, false)) (fWp b n ++ (fWs b n ++ fWi b n)) u8 ∧ US (fS3 b n (L0, false)) (prW b (poT b n) (poZ b n - 1) 1) us ∧ US (fS3 b n (L0, false)) [wOwn b n] u1 ∧ v = (if nI (rFl b n) &&& 1 = 1 then (u8 &&& (u1 ^^^ -1)) &&& (um ||| us) else 0))) := ⟨_, rfl⟩
  rw [← eP]
  refine xm_in (xb116_0 ⟨_, c117 x, ?_⟩)
  rintro _ rfl
  rw [decide_eq_true hx]
  refine xb116_4 ⟨fun h => absurd h (by decide), fun _ => ?_⟩
  rw [h24]
  refine pk_eq c 16 (fun h => absurd h (by omega)) (fun _ => ⟨_, c118 hb hD, ?_⟩)
  rintro _ ⟨M1', rfl, m1, m2, m3⟩
  cases hfn : fnS b n with
  | error p =>
    rw [hfn] at m2
    obtain ⟨at1, y1, y2, y3⟩ := m2
    obtain ⟨y4, y5⟩ := y3.er
    refine xb116_22 ⟨fun h => ?_, fun _ => ?_⟩
    · rw [y4] at h
      exact absurd h (nI_pos (by omega))
    · rw [y4, eP]
      exact Or.inl ⟨p, _, hfn, y5, rfl, up_s _ _ _ _, fun a j z1 z2 => by rw [up_n (by omega)]; exact m1 a j (by omega) z2⟩
  | ok a =>
    rw [hfn] at m2
    obtain ⟨l1, l2, l3⟩ := m2.le
    have sd := m3 a hfn
    obtain ⟨o1, o2, o3, o4⟩ := pa_ok hfn
    obtain ⟨k1, k2, k3, f1, f2, f3, f4, f5, f6, f7⟩ := nmd_sp o1
    have dq := sd.1
    have h64 := dq.2.1
    obtain ⟨-, -, e7, -⟩ := dq.2.2.2 (rSe b n) k1 (by omega)
    obtain ⟨e1, -⟩ := e7 (by omega)
    obtain ⟨-, e2, -⟩ := dq.2.2.2 (poT b n (rSe b n)).f f1 (by omega)
    obtain ⟨e3, e4⟩ := e2 f3
    obtain ⟨-, -, -, -, t5⟩ := dq.2.2.1 (poT b n (rSe b n)).f
    obtain ⟨t6, t7⟩ := t5 f3
    have es : nI (poT b n (poT b n (rSe b n)).f).f + nI ((poT b n (poT b n (rSe b n)).f).s - (poT b n (poT b n (rSe b n)).f).f) = nI (poT b n (poT b n (rSe b n)).f).s := by rw [nI_add]; congr 1; omega
    have dm1 := m1.dm hD
    have h19' : M1' 45 19 = nI L0.length := (m1 45 19 (by omega) (by omega)).trans h19
    have h24' : M1' 45 24 = nI c := (m1 45 24 (by omega) (by omega)).trans h24
    have hN' : NM L0 M1' := hN.cg (fun a j z1 z2 => m1 a j (by omega) (by omega))
    have v1 : vp_in (nI (rSe b n)) 65 := vp_in_nI (by omega) (by decide)
    have v2 : vp_in (nI (poT b n (rSe b n)).f) 65 := vp_in_nI (by omega) (by decide)
    -- behind the twins
    have meet : (¬ ∃ i, i < c ∧ MI 57 i = x ∧ MI 58 i = rv (L0, false) (wOwn b n)) → ∃ P0 : xm_R → Prop, xm_Ev xz 140 [.ref 45] (xM (xm_up M1' 45 22 0) (xm_up ML 45 23 0) Q) P0 ∧ ∀ r, P0 r → xq116 P (xm_bk 140 [some (.ref 45), some (.int x), none, none, some (.int (M1' 45 19)), none, none] [] 0 0 r) := by
      intro hno
      have u0 : ∀ a j, ¬ (a = 45 ∧ j = 22) → xm_up M1' 45 22 0 a j = M1' a j := fun a j z => up_n z
      have T0' : TM (L0, false) (xm_up M1' 45 22 0) := ⟨h48, by rw [u0 45 19 (by omega)]; exact h19', by rw [up_s]; rfl, hN'.cg (fun a j z1 z2 => u0 a j (by omega))⟩
      have D0 : Dm n (bBy b) (xm_up M1' 45 22 0) := ⟨hn, (u0 45 1 (by omega)).trans dm1.2.1, fun i hi => (u0 46 i (by omega)).trans (dm1.2.2 i hi)⟩
      have S0 : SDm b n (xm_up M1' 45 22 0) := sd.cg (fun j z1 z2 => u0 45 j (by omega)) (fun a j z1 z2 => u0 a j (by omega))
      refine ⟨_, c140 hfn D0 S0 T0' (by rw [up_s]; exact US.nil _), ?_⟩
      rintro _ ⟨M2, L2, v, rfl, g1, g2, g3, g4⟩
      have g1' : ∀ a j, ¬ (a = 45 ∧ 2 ≤ j ∧ j ≤ 22) → ¬ (47 ≤ a ∧ a ≤ 56) → M2 a j = MI a j := fun a j z1 z2 => by rw [g1 a j (by omega) (by omega), u0 a j (by omega), m1 a j (by omega) (by omega)]
      have g2' : MTL ML L2 := fun a j z => by rw [g2 a j z, up_n z]
      refine xb116_140 ?_
      rw [g3.2.2.1]
      cases hov : (fS3 b n (L0, false)).2 with
      | true =>
        refine ⟨fun h => absurd h (by decide), fun _ => ?_⟩
        rw [eP]
        have pre : L0 <+: (fS3 b n (L0, false)).1 := by rw [fS3_eq]; exact mts_pre _ (L0, false)
        refine Or.inr (Or.inr (Or.inl ⟨a, xm_up M2 45 19 (M1' 45 19), L2, hfn, hno, hov, rfl, fun a j z1 z2 => by rw [up_n (by omega)]; exact g1' a j z1 z2, g2', by rw [up_s]; exact h19', ?_⟩))
        exact (g3.2.2.2.pre pre).cg (fun a j z1 z2 => up_n (by omega))
      | false =>
        obtain ⟨w1, u8, us, u1, w2, w3, w4, w5⟩ := g4 hov
        obtain ⟨in1, in2, in3⟩ := fW_in hfn hov
        have sd2 : SDm b n M2 := g1.sd S0
        have dm2 : Dm n (bBy b) M2 := g1.dm D0
        refine ⟨fun _ => ?_, fun h => absurd rfl h⟩
        rw [sd2.2.2.1]
        refine ⟨_, c141 dm2 sd2.1 o4 g3 w1 k1 k2 k3, ?_⟩
        rintro _ ⟨M3, L3, y, rfl, q1, q2, q3, q4, -, q5⟩
        have ey := q5 o1
        have ec : cw b (poT b n) (poZ b n) (rSe b n) = [wOwn b n] := by unfold cw; rw [if_pos o1]; rfl
        have es3 : mt (fS3 b n (L0, false)) (wOwn b n) = fS3 b n (L0, false) := by unfold mt; rw [if_pos in3]
        have es3' : mts (fS3 b n (L0, false)) [wOwn b n] = fS3 b n (L0, false) := es3
        rw [ec, es3'] at q3 q4
        have ey : y = nI ((fS3 b n (L0, false)).1.idxOf (wOwn b n)) := by
          rw [ey, ← rv_one in3]
          show rv (mt (fS3 b n (L0, false)) (wOwn b n)) (wOwn b n) = _
          rw [es3]
        subst ey
        have h24'' : M3 45 24 = nI c := by rw [q1 45 24 (by omega) (by omega), g1 45 24 (by omega) (by omega), u0 45 24 (by omega)]; exact h24'
        refine xb116_169 ⟨_, c144 hfn (q1.dm dm2) (q1.sd sd2) q3 in1 q4 hc h24'' x _ v, ?_⟩
        rintro _ ⟨M4, L4, u, rfl, z1, z2, z3, z4, z5, z6, z7, z8, z9, z10, z11, z12, z13, z14, z15⟩
        refine xb116_174 ?_
        rw [z5, nI_pred, eP]
        refine Or.inr (Or.inr (Or.inr ⟨a, xm_up M4 45 1 0, L4, u, v, L2 45 23, us, u8, u1, hfn, hno, hov, rfl, fun a j y1 y2 => ?_, fun a j y1 y2 y3 => ?_, fun a j y1 y2 => ?_, ?_, up_s _ _ _ _, ?_, ?_, ?_, ?_, ?_, ?_, ?_, ?_, z13, z14, z15, w1, w2, w3, w4, w5⟩))
        · rw [up_n (by omega), z1 a j (by omega) (by omega), q1 a j (by omega) (by omega)]; exact g1' a j (by omega) (by omega)
        · rw [up_n (by omega), z2 a j y1 y2 y3, q1 a j (by omega) (by omega)]; exact g1' a j (by omega) (by omega)
        · rw [z3 a j y1 y2, q2 a j y1]; exact g2' a j y1
        · obtain ⟨x1, x2, x3, x4⟩ := z4
          exact ⟨x1, by rw [up_n (by decide)]; exact x2, by rw [up_n (by decide)]; exact x3, x4.cg (fun a j y1 y2 => up_n (by omega))⟩
        · rw [up_n (by decide)]; exact z5
        · rw [up_n (by omega)]; exact z6
        · rw [up_n (by omega)]; exact z7
        · rw [up_n (by omega)]; exact z8
        · rw [up_n (by omega)]; exact z9
        · rw [up_n (by omega)]; exact z10
        · rw [up_n (by omega)]; exact z11
        · rw [up_n (by omega)]; exact z12
    have l79 : ∀ (d i : Nat), i + d = c → (∀ j, j < i → ¬ (MI 57 j = x ∧ MI 58 j = rv (L0, false) (wOwn b n))) → xq116 P (79, [some (.ref 45), some (.int x), none, some (.int (rv (L0, false) (wOwn b n))), some (.int (nI i)), none, none], [], xM M1' ML Q, 0, 0) := by
      intro d
      induction d with
      | zero =>
        intro i hi hj
        refine xb116_79 ?_
        rw [h24']
        exact pk_le c i (fun _ => ⟨Or.inl rfl, meet (fun ⟨j, j1, j2⟩ => hj j (by omega) j2)⟩) (fun h => absurd h (by omega))
      | succ d ih =>
        intro i hi hj
        have v : vp_in (nI i) 16 := vp_in_nI (by omega) (by decide)
        have nx : ¬ (MI 57 i = x ∧ MI 58 i = rv (L0, false) (wOwn b n)) → xq116 P (79, [some (.ref 45), some (.int x), none, some (.int (rv (L0, false) (wOwn b n))), some (.int (nI (i + 1))), none, none], [], xM M1' ML Q, 0, 0) := fun q => by
          refine ih (i + 1) (by omega) (fun j hj' => ?_)
          by_cases hji : j = i
          · subst hji; exact q
          · exact hj j (by omega)
        refine xb116_79 ?_
        rw [h24', nI_clamp (by omega), m1 57 i (by omega) (by omega), m1 58 i (by omega) (by omega), nI_1]
        refine pk_le c i (fun h => absurd h (by omega)) (fun _ => ⟨v, fun e => ⟨v, fun e2 => ?_, fun e2 => nx (fun q => e2 q.2)⟩, fun e => nx (fun q => e q.1)⟩)
        rw [eP]
        exact Or.inr (Or.inl ⟨a, M1', hfn, ⟨i, by omega, e, e2⟩, rfl, m1⟩)
    refine xb116_22 ⟨fun _ => ?_, fun h => ?_⟩
    · rw [sd.2.2.1, nI_clamp (show rSe b n < 2 ^ 31 by omega), e1, nI_clamp (show (poT b n (rSe b n)).f < 2 ^ 31 by omega), e3, e4, es]
      refine ⟨v1, v2, v2, v2, _, c138n (S := (L0, false)) dm1 h48 h19' hN' t6 t7, ?_⟩
      rintro _ rfl
      exact xb116_75 (l79 c 0 (by omega) (fun j hj => absurd hj (Nat.not_lt_zero j)))
    · rw [l3] at h
      exact absurd (by decide) h
end MAD
