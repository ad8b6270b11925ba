/-- add agrees -/
theorem op2 (x : Int32) : xOpI (xInv RF) 13 116 [.int x] := by
  intro MI ML Q hI
  obtain ⟨⟨n, hn, h1, h2, h3⟩, k, c, hB0, hP0, hC0, hT0⟩ := hI
  have hI : xInv RF MI ML Q := ⟨⟨n, hn, h1, h2, h3⟩, k, c, hB0, hP0, hC0, hT0⟩
  have hB : IB k MI := hB0
  have hP : IP k MI := hP0
  have hC := hC0.get
  obtain ⟨c1, c2, c3, c4, c5⟩ := hC
  by_cases hx : ¬ x < 0 ∧ x < 5
  · by_cases hc16 : c < 16
    · obtain ⟨b, hb, hDr, hDm⟩ : ∃ b : Nat → Nat, (∀ i, b i < 256) ∧ Dr n (bBy b) MI ∧ Dm n (bBy b) MI := by
        refine ⟨fun i => if i < n then (MI 3 i).toNatClampNeg else 0, fun i => ?_, ⟨hn, h1, fun i hi => ?_⟩, ⟨hn, h2, fun i hi => ?_⟩⟩
        · show (if i < n then (MI 3 i).toNatClampNeg else 0) < 256
          split
          · rename_i q
            obtain ⟨-, y, y1, y2⟩ := h3 i q
            rw [y2, nI_clamp (by omega)]
            exact y1
          · decide
        · obtain ⟨-, y, y1, y2⟩ := h3 i hi
          show MI 3 i = nI (if i < n then (MI 3 i).toNatClampNeg else 0)
          rw [if_pos hi, y2, nI_clamp (by omega)]
        · obtain ⟨z, y, y1, y2⟩ := h3 i hi
          show MI 46 i = nI (if i < n then (MI 3 i).toNatClampNeg else 0)
          rw [if_pos hi, z, y2, nI_clamp (by omega)]
      obtain ⟨L0, hL, hNS, hNM⟩ := IB_list hB
      subst hL
      have h48 : L0.length ≤ 48 := hB.1
      have h124 : MI 12 4 = nI L0.length := hB.2.1
      have h19 : MI 45 19 = nI L0.length := hB.2.2.1
      refine xm_in (xb13_0 ⟨_, c14 x, ?_⟩)
      rintro _ rfl
      rw [decide_eq_true hx]
      refine xb13_4 ⟨fun h => absurd h (by decide), fun _ => ?_⟩
      rw [c2]
      refine pk_lt c 16 (fun _ => ⟨_, c15 hb hDr, ?_⟩) (fun h => absurd h (by omega))
      rintro _ ⟨M1, rfl, m1, m2, m3⟩
      cases hfn : fnS b n with
      | error p =>
        rw [hfn] at m2
        obtain ⟨at1, y1, y2, y3⟩ := m2
        obtain ⟨y4, y5⟩ := y3.er
        refine xb13_28 ⟨fun h => ?_, fun _ => ⟨fun r => r = (none, xM (xm_up M1 2 1 0) ML Q), xm_in (xb12_0 rfl), ?_⟩⟩
        · rw [y4] at h
          exact absurd h (nI_nm1 (by omega))
        rintro _ rfl
        rw [y4]
        refine xb13_44 ⟨_, _, ML, Q, rfl, ?_⟩
        have a2 : ∀ a j, a ≠ 1 → ¬ (a = 2 ∧ j = 1) → ¬ (4 ≤ a ∧ a ≤ 11) → xm_up M1 2 1 0 a j = MI a j := fun a j z1 z2 z3 => by rw [up_n z2]; exact m1 a j z1 z3
        refine (c116 (x := x) (c := c) (L0 := L0) hb ⟨hn, (a2 45 1 (by decide) (by decide) (by decide)).trans h2, fun i hi => (a2 46 i (by decide) (by omega) (by decide)).trans (hDm.2.2 i hi)⟩ hx hc16 ((a2 45 24 (by decide) (by decide) (by decide)).trans c3) h48 ((a2 45 19 (by decide) (by decide) (by decide)).trans h19) (hNM.cg (fun a j z1 z2 => a2 a j (by omega) (by omega) (by omega)))).imp ?_
        rintro _ (⟨p', M, e1, e2, rfl, e3, e4⟩ | ⟨a, M, e1, -⟩ | ⟨a, M, L, e1, -⟩ | ⟨a, M, L, u, v, um, us, u8, u1, e1, -⟩)
        · rw [hfn] at e1
          cases e1
          refine ⟨M, ML, Q, rfl, ⟨0, by decide, ?_, e3, fun i hi => absurd hi (Nat.not_lt_zero i)⟩, ?_⟩
          · rw [e4 2 1 (by decide) (by decide), up_s]; rfl
          · have e : dm M = dm MI := dm_congr fun a j hd => by
              have := dur_of hd
              rw [e4 a j (by omega) (by omega), a2 a j (by omega) (by omega) (by omega)]
            rw [e]
            exact hI.2
        · rw [hfn] at e1; cases e1
        · rw [hfn] at e1; cases e1
        · rw [hfn] at e1; cases e1
      | ok a0 =>
        rw [hfn] at m2
        have hsd := m3 a0 hfn
        have hDr1 : Dr n (bBy b) M1 := ⟨hn, (m1 2 1 (by decide) (by decide)).trans hDr.2.1, fun i hi => (m1 3 i (by decide) (by decide)).trans (hDr.2.2 i hi)⟩
        have hDm1 : Dm n (bBy b) M1 := ⟨hn, (m1 45 1 (by decide) (by decide)).trans hDm.2.1, fun i hi => (m1 46 i (by decide) (by decide)).trans (hDm.2.2 i hi)⟩
        have ag1 : AG L0.length MI M1 := fun a _ => ⟨m1 14 a (by decide) (by decide), m1 15 a (by decide) (by decide), m1 16 a (by decide) (by decide), fun i _ => m1 13 _ (by decide) (by decide)⟩
        have hNS1 : NS L0 M1 := hNS.cg ag1
        have hIP1 : IP L0.length M1 := IP_cg hNS ag1 hP
        have h124' : M1 12 4 = nI L0.length := (m1 12 4 (by decide) (by decide)).trans h124
        have q17 : M1 17 1 = nI c := (m1 17 1 (by decide) (by decide)).trans c2
        refine xb13_28 ⟨fun _ => ⟨_, c50 (o := false) hfn hDr1 hsd h48 h124' hNS1, ?_⟩, fun h => absurd m2.le.2.2 h⟩
        rintro _ rfl
        refine xb13_58 ⟨_, c53 (J := MI 57) (N := MI 58) c1 q17 c4 (fun i hi => ?_) x _, ?_⟩
        · obtain ⟨-, -, g3, g4⟩ := c4.at (i := i) (by omega)
          obtain ⟨⟨jr, -, j1, j2⟩, ⟨nm, -, n1, n2, -⟩, -⟩ := c5 i hi
          rw [m1 _ 0 (by omega) (by omega), m1 _ 1 (by omega) (by omega)]
          exact ⟨j1.trans j2.symm, n1.trans n2.symm⟩
        rintro _ ⟨z, rfl, hz⟩
        refine xb13_61 ⟨fun h => ?_, fun h => ?_⟩
        · rw [bI_0] at h
          have hno : ¬ ∃ i, i < c ∧ MI 57 i = x ∧ MI 58 i = rv (L0, false) (wOwn b n) := fun q => by
            rw [hz.mpr q] at h
            cases h
          obtain ⟨qa, qb, qc, qd⟩ := c4.at (i := c) hc16
          obtain ⟨q, eq⟩ : ∃ q, q = Q c - 1 := ⟨_, rfl⟩
          rw [← eq] at qa qb qc qd
          rw [q17]
          refine ⟨vp_in_nI hc16 (by decide), q, qa, ?_⟩
          have ts1 : TS (L0, false) (xm_up M1 12 5 0) := ⟨h48, by rw [up_n (by decide)]; exact h124', by rw [up_s]; rfl, hNS1.cg (fun a _ => ⟨up_n (by omega), up_n (by omega), up_n (by omega), fun i _ => up_n (by omega)⟩), IP_cg hNS1 (fun a _ => ⟨up_n (by omega), up_n (by omega), up_n (by omega), fun i _ => up_n (by omega)⟩) hIP1⟩
          refine ⟨_, c54 hb hfn hDr1 hsd ts1 qb qc qd x, ?_⟩
          rintro _ ⟨M2, L2, rfl, m4, m5, m6, m7⟩
          have qi : ∀ i, i < c → Q i - 1 ≠ q ∧ 23 ≤ Q i - 1 ∧ Q i - 1 ≤ 38 := fun i hi => by
            obtain ⟨-, -, g3, g4⟩ := c4.at (i := i) (by omega)
            refine ⟨fun e => ?_, g3, g4⟩
            have := c4.2 i c (by omega) hc16 (by omega)
            omega
          have g12 : ∀ a j, a ≠ 1 → ¬ (4 ≤ a ∧ a ≤ 11) → a ≠ q → ¬ (a = 12 ∧ 4 ≤ j ∧ j ≤ 5) → ¬ (13 ≤ a ∧ a ≤ 16) → M2 a j = MI a j := fun a j z1 z2 z3 z4 z5 => by rw [m4 a j z3 z4 z5]; exact m1 a j z1 z2
          refine xb13_96 ?_
          rw [m6.2.2.1, h124']
          cases hov : (fS3 b n (L0, false)).2 with
          | true =>
            have hov5 : (fS5 b n (L0, false)).2 = true := mts_true (mts_true hov)
            rw [hov5]
            refine ⟨fun h => absurd h (by decide), fun _ => ⟨fun r => r = (none, xM (xm_up M2 12 4 (nI L0.length)) L2 Q), xm_in (xb65_0 rfl), ?_⟩⟩
            rintro _ rfl
            refine xb13_114 ⟨_, _, L2, Q, rfl, ?_⟩
            have g3 : ∀ a j, a ≠ 1 → ¬ (4 ≤ a ∧ a ≤ 11) → a ≠ q → ¬ (a = 12 ∧ 4 ≤ j ∧ j ≤ 5) → ¬ (13 ≤ a ∧ a ≤ 16) → xm_up M2 12 4 (nI L0.length) a j = MI a j := fun a j z1 z2 z3 z4 z5 => by rw [up_n (by omega)]; exact g12 a j z1 z2 z3 z4 z5
            refine (c116 (x := x) (c := c) (L0 := L0) hb ⟨hn, (g3 45 1 (by decide) (by decide) (by omega) (by decide) (by decide)).trans h2, fun i hi => (g3 46 i (by decide) (by decide) (by omega) (by omega) (by omega)).trans (hDm.2.2 i hi)⟩ hx hc16 ((g3 45 24 (by decide) (by decide) (by omega) (by decide) (by decide)).trans c3) h48 ((g3 45 19 (by decide) (by decide) (by omega) (by decide) (by decide)).trans h19) (hNM.cg (fun a j z1 z2 => g3 a j (by omega) (by omega) (by omega) (by omega) (by omega)))).imp ?_
            have r57 : ∀ i, xm_up M2 12 4 (nI L0.length) 57 i = MI 57 i := fun i => g3 57 i (by decide) (by decide) (by omega) (by omega) (by omega)
            have r58 : ∀ i, xm_up M2 12 4 (nI L0.length) 58 i = MI 58 i := fun i => g3 58 i (by decide) (by decide) (by omega) (by omega) (by omega)
            rintro _ (⟨p', M, e1, -⟩ | ⟨a, M, e1, ⟨i, i1, i2, i3⟩, -⟩ | ⟨a, M, L, e1, e2, e3, rfl, e4, e5, e6, e7⟩ | ⟨a, M, L, u, v, um, us, u8, u1, e1, e2, e3, -⟩)
            · rw [hfn] at e1; cases e1
            · rw [r57] at i2
              rw [r58] at i3
              exact absurd ⟨i, i1, i2, i3⟩ hno
            · have g4 : ∀ a j, a ≠ 1 → ¬ (4 ≤ a ∧ a ≤ 11) → a ≠ q → ¬ (a = 12 ∧ 4 ≤ j ∧ j ≤ 5) → ¬ (13 ≤ a ∧ a ≤ 16) → ¬ (a = 45 ∧ 2 ≤ j ∧ j ≤ 22) → ¬ (47 ≤ a ∧ a ≤ 56) → M a j = MI a j := fun a j z1 z2 z3 z4 z5 z6 z7 => by rw [e4 a j z6 z7]; exact g3 a j z1 z2 z3 z4 z5
              have l4 : ∀ a j, ¬ (a = q ∧ 7 ≤ j ∧ j ≤ 8) → ¬ (a = 45 ∧ j = 23) → L a j = ML a j := fun a j z1 z2 => by rw [e5 a j z2]; exact m5 a j z1
              have pre : L0 <+: (fS5 b n (L0, false)).1 := by
                have p3 : L0 <+: (fS3 b n (L0, false)).1 := by rw [fS3_eq]; exact mts_pre _ (L0, false)
                exact p3.trans ((mts_pre _ _).trans (mts_pre _ _))
              have tab : ∀ a j, 13 ≤ a → a ≤ 16 → M a j = M2 a j := fun a j z1 z2 => by rw [e4 a j (by omega) (by omega), up_n (by omega)]
              refine ⟨M, L, Q, rfl, hI.1.cg (g4 2 1 (by decide) (by decide) (by omega) (by decide) (by decide) (by decide) (by decide)) (g4 45 1 (by decide) (by decide) (by omega) (by decide) (by decide) (by decide) (by decide)) (fun i => g4 3 i (by decide) (by decide) (by omega) (by omega) (by omega) (by omega) (by omega)) (fun i => g4 46 i (by decide) (by decide) (by omega) (by omega) (by omega) (by omega) (by omega)), L0.length, c, ?_, ?_, ?_, ?_⟩
              · have : IB L0.length M := list_IB h48 (by rw [e4 12 4 (by decide) (by decide), up_s]) e6 ((m6.2.2.2.1.pre pre).cg (fun a _ => ⟨tab 14 a (by decide) (by decide), tab 15 a (by decide) (by decide), tab 16 a (by decide) (by decide), fun i _ => tab 13 _ (by decide) (by decide)⟩)) e7
                exact this
              · have ip : IP L0.length M2 := fun a ha => m6.2.2.2.2 a (Nat.lt_of_lt_of_le ha pre.length_le)
                have : IP L0.length M := ip.cg (fun a j z1 z2 => tab a j z1 z2)
                exact this
              · refine IC.put ⟨c1, ?_, ?_, c4, fun i hi => ?_⟩
                · rw [g4 17 1 (by decide) (by decide) (by omega) (by decide) (by decide) (by decide) (by decide)]; exact c2
                · rw [g4 45 24 (by decide) (by decide) (by omega) (by decide) (by decide) (by decide) (by decide)]; exact c3
                · obtain ⟨y1, y2, y3⟩ := qi i hi
                  exact (c5 i hi).mv (fun j => g4 _ j (by omega) (by omega) y1 (by omega) (by omega) (by omega) (by omega)) (fun a z1 z2 => g4 a i (by omega) (by omega) (by omega) (by omega) (by omega) (by omega) (by omega)) (fun j => l4 _ j (by omega) (by omega)) (fun a z1 z2 => l4 a i (by omega) (by omega))
              · refine hT0.cg (fun a ha => ?_) (fun a ha => ?_)
                · rw [dm_row (by omega), dm_row (by omega)]
                  funext j
                  exact g4 a j (by omega) (by omega) (by omega) (by omega) (by omega) (by omega) (by omega)
                · rw [dl_row (by omega), dl_row (by omega)]
                  funext j
                  exact l4 a j (by omega) (by omega)
            · rw [hov] at e3; cases e3
          | false =>
            obtain ⟨e4S, e5S⟩ := fS45 hfn hov
            have hov5 : (fS5 b n (L0, false)).2 = false := by rw [e5S]; exact hov
            obtain ⟨in1, in2, in3⟩ := fW_in hfn hov
            rw [hov5]
            refine ⟨fun _ => ⟨fun r => r = (none, xM (xm_up M2 2 1 0) L2 Q), xm_in (xb12_0 rfl), ?_⟩, fun h => absurd rfl h⟩
            rintro _ rfl
            refine xb13_128 ?_
            have q17' : xm_up M2 2 1 0 17 1 = nI c := by rw [up_n (by decide), g12 17 1 (by decide) (by decide) (by omega) (by decide) (by decide)]; exact c2
            rw [q17', nI_1]
            obtain ⟨SF, eSF⟩ : ∃ SF, SF = fS3 b n (L0, false) := ⟨_, rfl⟩
            obtain ⟨o, eo⟩ : ∃ o, o = SF.1.idxOf (wOwn b n) := ⟨_, rfl⟩
            rw [← eSF] at in1 in2 in3 hov
            rw [e5S, ← eSF] at m6
            have hoL : o < SF.1.length := by rw [eo]; exact List.idxOf_lt_length_iff.mpr in3
            have hS48 : SF.1.length ≤ 48 := m6.1
            have pre : L0 <+: SF.1 := by rw [eSF, fS3_eq]; exact mts_pre _ (L0, false)
            have kle : L0.length ≤ SF.1.length := pre.length_le
            obtain ⟨p0, p1, p2, p3, p4, p5, p6, u7, u8, u1, a7, a8, a1, e7, e8⟩ := m7
            rw [e5S, ← eSF] at a7 a8 a1
            rw [e4S, ← eSF] at p2
            have p1' : M2 q 1 = nI o := by
              have hov1 : (fS1 b n (L0, false)).2 = false := by
                have e : fS3 b n (L0, false) = mts (fS1 b n (L0, false)) (fW1 b n ++ fW2 b n) := by unfold fS3 fS2; rw [mts_app]
                rw [eSF, e] at hov
                exact (mts_ov hov).1
              have hm : wOwn b n ∈ (fS1 b n (L0, false)).1 := (mt_ov hov1).2
              have e : SF = mts (fS1 b n (L0, false)) (fW1 b n ++ fW2 b n) := by rw [eSF]; unfold fS3 fS2; rw [mts_app]
              rw [p1, rv_one hm, eo, e]
              congr 1
              exact (idx_pre (mts_pre _ _) hm).symm
            obtain ⟨jr, jr5, rfl⟩ := nI_in2 (k := 5) (by decide) hx
            obtain ⟨N3, eN3⟩ : ∃ N3 : Nat → Int32, N3 = fun i => if i = c then nI o else MI 58 i := ⟨_, rfl⟩
            obtain ⟨J3, eJ3⟩ : ∃ J3 : Nat → Int32, J3 = fun i => if i = c then nI jr else MI 57 i := ⟨_, rfl⟩
            obtain ⟨U3, eU3⟩ : ∃ U3 : Nat → Int64, U3 = fun i => if i = c then L2 q 7 else ML 64 i := ⟨_, rfl⟩
            obtain ⟨S3, eS3⟩ : ∃ S3 : Nat → Int64, S3 = fun i => if i = c then L2 q 8 else ML 65 i := ⟨_, rfl⟩
            have nc : N3 c = nI o ∧ J3 c = nI jr ∧ U3 c = L2 q 7 ∧ S3 c = L2 q 8 := by rw [eN3, eJ3, eU3, eS3]; exact ⟨if_pos rfl, if_pos rfl, if_pos rfl, if_pos rfl⟩
            have nn : ∀ i, i ≠ c → N3 i = MI 58 i ∧ J3 i = MI 57 i ∧ U3 i = ML 64 i ∧ S3 i = ML 65 i := fun i hi => by rw [eN3, eJ3, eU3, eS3]; exact ⟨if_neg hi, if_neg hi, if_neg hi, if_neg hi⟩
            have fx : ∀ i, i < c + 1 → ∃ nm j5 : Nat, N3 i = nI nm ∧ nm < SF.1.length ∧ J3 i = nI j5 ∧ j5 < 5 ∧ M2 (Q i - 1) 1 = nI nm ∧ M2 (Q i - 1) 0 = nI j5 ∧ L2 (Q i - 1) 7 = U3 i ∧ L2 (Q i - 1) 8 = S3 i ∧ 23 ≤ Q i - 1 ∧ Q i - 1 ≤ 38 := fun i hi => by
              by_cases hic : i = c
              · subst hic
                rw [← eq]
                obtain ⟨y1, y2, y3, y4⟩ := nc
                exact ⟨o, jr, y1, hoL, y2, jr5, p1', p0, y3.symm, y4.symm, qc, qd⟩
              · obtain ⟨y1, y2, y3⟩ := qi i (by omega)
                obtain ⟨⟨j5, j1, j2, j3⟩, ⟨nm, n1, n2, n3, -⟩, -, -, -, -, -, r7, r8, -⟩ := c5 i (by omega)
                obtain ⟨w1, w2, w3, w4⟩ := nn i hic
                refine ⟨nm, j5, w1.trans n3, by omega, w2.trans j3, j1, ?_, ?_, ?_, ?_, y2, y3⟩
                · rw [g12 _ 1 (by omega) (by omega) y1 (by omega) (by omega)]; exact n2
                · rw [g12 _ 0 (by omega) (by omega) y1 (by omega) (by omega)]; exact j2
                · rw [m5 _ 7 (by omega), w3]; exact r7
                · rw [m5 _ 8 (by omega), w4]; exact r8
            have f7 : rFl b n < 65536 := vl_lt hb n 2 (ckS b n)
            have hV : VS SF.1.length (c + 1) (xm_up (xm_up M2 2 1 0) 17 1 (nI (c + 1))) L2 Q (fun i => (N3 i).toNatClampNeg) (fun i => (J3 i).toNatClampNeg) U3 := by
              refine ⟨hS48, by omega, up_s _ _ _ _, c4, fun i hi => ?_⟩
              obtain ⟨nm, j5, y1, y2, y3, y4, y5, y6, y7, y8, y9, y10⟩ := fx i hi
              rw [up_n (by omega), up_n (by omega), up_n (by omega), up_n (by omega)]
              show M2 (Q i - 1) 1 = nI (N3 i).toNatClampNeg ∧ (N3 i).toNatClampNeg < _ ∧ M2 (Q i - 1) 0 = nI (J3 i).toNatClampNeg ∧ (J3 i).toNatClampNeg < 5 ∧ _
              rw [y1, y3, nI_clamp (by omega), nI_clamp (by omega)]
              exact ⟨y5, y2, y6, y4, y7⟩
            have l7b : ∀ t, hasB (L2 q 7) t = true → t < SF.1.length := fun t ht => by
              rw [e7, hasB_and, Bool.and_eq_true] at ht
              obtain ⟨w, w1, w2⟩ := ((a7 hov).2 t).mp ht.1
              rw [← w2]
              exact List.idxOf_lt_length_iff.mpr ((a7 hov).1 w w1)
            refine ⟨_, c66 (N3 := N3) (J3 := J3) (U := U3) (S := S3) hV (fun i hi => ?_) (fun i hi => ?_) (fun i hi t ht => ?_), ?_⟩
            · obtain ⟨nm, j5, y1, y2, y3, y4, y5, y6, y7, y8, -⟩ := fx i hi
              exact y8
            · obtain ⟨nm, j5, y1, y2, y3, y4, -⟩ := fx i hi
              rw [y1, y3, nI_clamp (by omega), nI_clamp (by omega)]
              exact ⟨rfl, rfl⟩
            · by_cases hic : i = c
              · subst hic
                rw [nc.2.2.1] at ht
                exact l7b t ht
              · rw [(nn i hic).2.2.1] at ht
                have := (c5 i (by omega)).2.2.2.2.2.2.2.2.2.1 t ht
                omega
            rintro _ ⟨M5, L5, rfl, s1, s2, s3⟩
            have g5 : ∀ a j, a ≠ 1 → ¬ (4 ≤ a ∧ a ≤ 11) → a ≠ q → ¬ (a = 12 ∧ 4 ≤ j ∧ j ≤ 5) → ¬ (13 ≤ a ∧ a ≤ 16) → ¬ (a = 2 ∧ j = 1) → ¬ (a = 17 ∧ j = 1) → a ≠ 19 → a ≠ 22 → a ≠ 43 → a ≠ 44 → M5 a j = MI a j := fun a j z1 z2 z3 z4 z5 z6 z7 z8 z9 z10 z11 => by rw [s1 a j z8 z9 z10 z11, up_n z7, up_n z6]; exact g12 a j z1 z2 z3 z4 z5
            have g5' : ∀ a j, 12 ≤ a → a ≤ 38 → ¬ (a = 17 ∧ j = 1) → a ≠ 19 → a ≠ 22 → M5 a j = M2 a j := fun a j z1 z2 z3 z4 z5 => by rw [s1 a j z4 z5 (by omega) (by omega), up_n z3, up_n (by omega)]
            have n5 : ∀ a j, 45 ≤ a → M5 a j = MI a j := fun a j z => g5 a j (by omega) (by omega) (by omega) (by omega) (by omega) (by omega) (by omega) (by omega) (by omega) (by omega) (by omega)
            have r17 : M5 17 1 = nI (c + 1) := by rw [s1 17 1 (by decide) (by decide) (by decide) (by decide), up_s]
            refine xb13_145 ?_
            rw [r17, nI_pred]
            refine ⟨_, M5, L5, Q, rfl, ?_⟩
            refine (c116 (x := nI jr) (c := c) (L0 := L0) hb ⟨hn, (n5 45 1 (by decide)).trans h2, fun i hi => (n5 46 i (by decide)).trans (hDm.2.2 i hi)⟩ hx hc16 ((n5 45 24 (by decide)).trans c3) h48 ((n5 45 19 (by decide)).trans h19) (hNM.cg (fun a j z1 z2 => n5 a j (by omega)))).imp ?_
            rintro _ (⟨p', M, e1, -⟩ | ⟨a, M, e1, ⟨i, i1, i2, i3⟩, -⟩ | ⟨a, M, L, e1, e2, e3, -⟩ | ⟨a, M6, L6, u, v, um, us, u8', u1', x1, x2, x3, rfl, x4, x5, x6, x7, x8, x9, x10, x11, x12, x13, x14, x15, x16, x17, x18, x19, x20, x21, x22, x23, x24⟩)
            · rw [hfn] at e1; cases e1
            · rw [n5 57 i (by decide)] at i2
              rw [n5 58 i (by decide)] at i3
              exact absurd ⟨i, i1, i2, i3⟩ hno
            · rw [← eSF, hov] at e3; cases e3
            · rw [← eSF] at x7 x11 x12 x17 x18 x20 x21 x22 x23
              rw [← eo] at x11
              obtain ⟨t1, t2, t3, t4, t5⟩ := add_bits hfn hS48 hov in3 f7 a7 a8 a1 e7 e8 x17 x20 x21 x22 x23 x18 (x19.trans x24)
              rw [← eo] at t3
              have g6 : ∀ a j, 12 ≤ a → a ≤ 44 → M6 a j = M5 a j := fun a j z1 z2 => x4 a j (by omega) (by omega)
              have l6 : ∀ a j, ¬ (a = 45 ∧ j = 23) → ¬ (64 ≤ a ∧ a ≤ 65 ∧ j = c) → L6 a j = L5 a j := x6
              have l5 : ∀ a j, 23 ≤ a → a ≤ 38 → L6 a j = L2 a j := fun a j z1 z2 => by rw [l6 a j (by omega) (by omega), s2 a j (by omega) (by omega) (by omega) (by omega) (by omega)]
              have l64 : ∀ a j, 64 ≤ a → a ≤ 65 → j ≠ c → L6 a j = ML a j := fun a j z1 z2 z3 => by rw [l6 a j (by omega) (by omega), s2 a j (by omega) (by omega) (by omega) (by omega) (by omega), m5 a j (by omega)]
              have row : ∀ a j, 57 ≤ a → a ≤ 63 → j ≠ c → M6 a j = MI a j := fun a j z1 z2 z3 => by rw [x5 a j z1 z2 z3]; exact n5 a j (by omega)
              have t13 : ∀ a j, 13 ≤ a → a ≤ 16 → M6 a j = M2 a j := fun a j z1 z2 => by rw [g6 a j (by omega) (by omega)]; exact g5' a j (by omega) (by omega) (by omega) (by omega) (by omega)
              have w58 : M6 58 = N3 := by
                funext i
                by_cases hic : i = c
                · subst hic; rw [x11, nc.1]
                · rw [row 58 i (by decide) (by decide) hic, (nn i hic).1]
              have w57 : M6 57 = J3 := by
                funext i
                by_cases hic : i = c
                · subst hic; rw [x10, nc.2.1]
                · rw [row 57 i (by decide) (by decide) hic, (nn i hic).2.1]
              have w64 : L6 64 = U3 := by
                funext i
                by_cases hic : i = c
                · subst hic; rw [t1, nc.2.2.1]
                · rw [l64 64 i (by decide) (by decide) hic, (nn i hic).2.2.1]
              have w65 : L6 65 = S3 := by
                funext i
                by_cases hic : i = c
                · subst hic; rw [t2, nc.2.2.2]
                · rw [l64 65 i (by decide) (by decide) hic, (nn i hic).2.2.2]
              refine ⟨M6, L6, Q, rfl, ⟨0, by decide, ?_, x8, fun i hi => absurd hi (Nat.not_lt_zero i)⟩, SF.1.length, c + 1, ?_, ?_, ?_, ?_⟩
              · rw [x4 2 1 (by decide) (by decide), s1 2 1 (by decide) (by decide) (by decide) (by decide), up_n (by decide), up_s]; rfl
              · have : IB SF.1.length M6 := list_IB hS48 (by rw [g6 12 4 (by decide) (by decide), g5' 12 4 (by decide) (by decide) (by decide) (by decide) (by decide)]; exact m6.2.1) x7.2.1 (m6.2.2.2.1.cg (fun a _ => ⟨t13 14 a (by decide) (by decide), t13 15 a (by decide) (by decide), t13 16 a (by decide) (by decide), fun i _ => t13 13 _ (by decide) (by decide)⟩)) x7.2.2.2
                exact this
              · have : IP SF.1.length M6 := m6.2.2.2.2.cg (fun a j z1 z2 => t13 a j z1 z2)
                exact this
              · refine IC.put ⟨by omega, ?_, x9, c4, fun i hi => ?_⟩
                · rw [g6 17 1 (by decide) (by decide)]; exact r17
                · by_cases hic : i = c
                  · subst hic
                    rw [← eq]
                    have qq : ∀ j, M6 q j = M2 q j := fun j => by rw [g6 q j (by omega) (by omega)]; exact g5' q j (by omega) (by omega) (by omega) (by omega) (by omega)
                    refine ⟨⟨jr, jr5, by rw [qq]; exact p0, x10⟩, ⟨o, hoL, by rw [qq]; exact p1', x11, by rw [t1]; exact t3⟩, ?_, ?_, ?_, ?_, ?_, ?_, ?_, ?_, ?_⟩
                    · rw [qq, p2, x12]
                    · rw [qq, p3, x13]
                    · rw [qq, p4, x14]
                    · rw [qq, p5, x15]
                    · rw [qq, p6, x16]
                    · rw [l5 q 7 qc qd, t1]
                    · rw [l5 q 8 qc qd, t2]
                    · rw [t1]; exact t4
                    · rw [t1, t2]; exact t5
                  · obtain ⟨y1, y2, y3⟩ := qi i (by omega)
                    refine ((c5 i (by omega)).mv (fun j => ?_) (fun a z1 z2 => row a i z1 z2 hic) (fun j => ?_) (fun a z1 z2 => l64 a i z1 z2 hic)).le kle
                    · rw [g6 _ j (by omega) (by omega)]
                      exact g5 _ j (by omega) (by omega) y1 (by omega) (by omega) (by omega) (by omega) (by omega) (by omega) (by omega) (by omega)
                    · rw [l5 _ j y2 y3, m5 _ j (by omega)]
              · refine s3 _ _ ?_ ?_ ?_ ?_ ?_ ?_ ?_ ?_ ?_ ?_ ?_ ?_
                · rw [dm_row (by omega)]; exact w58
                · rw [dm_row (by omega)]; exact w57
                · rw [dl_row (by omega)]; exact w64
                · rw [dl_row (by omega)]; exact w65
                · rw [dm_row (by omega)]; funext j; exact g6 19 j (by decide) (by decide)
                · rw [dm_row (by omega)]; funext j; exact g6 22 j (by decide) (by decide)
                · rw [dm_row (by omega)]; funext j; exact g6 43 j (by decide) (by decide)
                · rw [dm_row (by omega)]; funext j; exact g6 44 j (by decide) (by decide)
                · rw [dl_row (by omega)]; funext j; exact l6 20 j (by omega) (by omega)
                · rw [dl_row (by omega)]; funext j; exact l6 21 j (by omega) (by omega)
                · rw [dl_row (by omega)]; funext j; exact l6 40 j (by omega) (by omega)
                · rw [dl_row (by omega)]; funext j; exact l6 41 j (by omega) (by omega)
        · rw [bI_ne] at h
          have tw' := hz.mp h
          refine ⟨_, M1, ML, Q, rfl, ?_⟩
          refine (c116 (x := x) (c := c) (L0 := L0) hb hDm1 hx hc16 ((m1 45 24 (by decide) (by decide)).trans c3) h48 ((m1 45 19 (by decide) (by decide)).trans h19) (hNM.cg (fun a j z1 z2 => m1 a j (by omega) (by omega)))).imp ?_
          have r57 : ∀ i, M1 57 i = MI 57 i := fun i => m1 57 i (by decide) (by decide)
          have r58 : ∀ i, M1 58 i = MI 58 i := fun i => m1 58 i (by decide) (by decide)
          obtain ⟨i, i1, i2, i3⟩ := tw'
          rintro _ (⟨p', M, e1, -⟩ | ⟨a, M, e1, -, rfl, e3⟩ | ⟨a, M, L, e1, e2, -⟩ | ⟨a, M, L, u, v, um, us, u8, u1, e1, e2, -⟩)
          · rw [hfn] at e1; cases e1
          · refine ⟨M, ML, Q, rfl, hI.1.cg ?_ ?_ (fun i => ?_) (fun i => ?_), ?_⟩
            · rw [e3 2 1 (by decide) (by decide)]; exact m1 2 1 (by decide) (by decide)
            · rw [e3 45 1 (by decide) (by decide)]; exact m1 45 1 (by decide) (by decide)
            · rw [e3 3 i (by omega) (by omega)]; exact m1 3 i (by decide) (by decide)
            · rw [e3 46 i (by omega) (by omega)]; exact m1 46 i (by decide) (by decide)
            · have e : dm M = dm MI := dm_congr fun a j hd => by
                have := dur_of hd
                rw [e3 a j (by omega) (by omega)]
                exact m1 a j (by omega) (by omega)
              rw [e]
              exact hI.2
          · exact absurd ⟨i, i1, by rw [r57]; exact i2, by rw [r58]; exact i3⟩ e2
          · exact absurd ⟨i, i1, by rw [r57]; exact i2, by rw [r58]; exact i3⟩ e2
    · refine xm_in (xb13_0 ⟨_, c14 x, ?_⟩)
      rintro _ rfl
      rw [decide_eq_true hx]
      refine xb13_4 ⟨fun h => absurd h (by decide), fun _ => ?_⟩
      rw [c2]
      refine pk_lt c 16 (fun h => absurd h hc16) (fun _ => ⟨-1, MI, ML, Q, rfl, ?_⟩)
      refine xm_in (xb116_0 ⟨_, c117 x, ?_⟩)
      rintro _ rfl
      rw [decide_eq_true hx]
      refine xb116_4 ⟨fun h => absurd h (by decide), fun _ => ?_⟩
      rw [c3]
      exact pk_eq c 16 (fun _ => ⟨MI, ML, Q, rfl, hI⟩) (fun h => absurd (by omega) h)
  · refine xm_in (xb13_0 ⟨_, c14 x, ?_⟩)
    rintro _ rfl
    rw [decide_eq_false hx]
    refine xb13_4 ⟨fun _ => ⟨-1, MI, ML, Q, rfl, ?_⟩, fun h => absurd rfl h⟩
    refine xm_in (xb116_0 ⟨_, c117 x, ?_⟩)
    rintro _ rfl
    rw [decide_eq_false hx]
    exact xb116_4 ⟨fun _ => ⟨MI, ML, Q, rfl, hI⟩, fun h => absurd rfl h⟩
