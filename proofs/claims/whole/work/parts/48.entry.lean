section EN
variable {MI : Nat → Nat → Int32} {ML : Nat → Nat → Int64} {Q : Nat → Nat} {b : Nat → Nat} {n s : Nat} {T : Nat → Ent}
theorem c26 (hb : ∀ i, b i < 256) (hD : Dr n (bBy b) MI) (hs : MI 4 5 = nI s) (h64 : s ≤ 64) {a0 : Nat} (hS : SS n (.ok a0) MI) {k : Nat} (h1 : 1 ≤ k) (h2 : k < s) : xm_Ev xz 26 [.ref 1, .int (nI k)] (xM MI ML Q) (fun r => ∃ M, r = (none, xM M ML Q) ∧ RE k MI M ∧ SS n (enS b n s k (.ok a0)) M ∧ ∀ a, enS b n s k (.ok a0) = .ok a → M 5 k = nI (enE b n (.ok a0)).kd ∧ M 6 k = nI (enE b n (.ok a0)).pl ∧ M 9 k = 0 ∧ ((enE b n (.ok a0)).kd = 1 ∨ 7 ≤ (enE b n (.ok a0)).kd → M 7 k = nI (enE b n (.ok a0)).f ∧ M 8 k = nI (enE b n (.ok a0)).s)) := by
  obtain ⟨P, eP⟩ : ∃ P, P = (fun r : xm_R => ∃ M, r = (none, xM M ML Q) ∧ RE k MI M ∧ SS n (enS b n s k (.ok a0)) M ∧ ∀ a, enS b n s k (.ok a0) = .ok a → M 5 k = nI (enE b n (.ok a0)).kd ∧ M 6 k = nI (enE b n (.ok a0)).pl ∧ M 9 k = 0 ∧ ((enE b n (.ok a0)).kd = 1 ∨ 7 ≤ (enE b n (.ok a0)).kd → M 7 k = nI (enE b n (.ok a0)).f ∧ M 8 k = nI (enE b n (.ok a0)).s)) := ⟨_, rfl⟩
  rw [← eP]
  have hn := hD.1
  obtain ⟨l1, l2, l3⟩ := hS.le
  obtain ⟨kd, ekd⟩ : ∃ kd, kd = vl b n 1 (.ok a0) := ⟨_, rfl⟩
  have hkd : kd < 256 := by rw [ekd]; exact vl_lt hb n 1 _
  obtain ⟨st2, est⟩ : ∃ st2, st2 = dmd (!(wd kd) || decide (k + 1 < s)) a0 (itm n 1 (.ok a0)) := ⟨_, rfl⟩
  have st1 : ∀ c, st2 = .ok c → itm n 1 (.ok a0) = .ok c := fun c h => by rw [est] at h; exact (dmd_ok h).1
  have eK : (enE b n (.ok a0)).kd = kd := ekd.symm
  have eP' : (enE b n (.ok a0)).pl = a0 := rfl
  have fin : ∀ M, RE k MI M → SS n (enS b n s k (.ok a0)) M → M 5 k = nI kd → M 6 k = nI a0 → M 9 k = 0 → (∀ a, enS b n s k (.ok a0) = .ok a → kd = 1 ∨ 7 ≤ kd → M 7 k = nI (enE b n (.ok a0)).f ∧ M 8 k = nI (enE b n (.ok a0)).s) → P (none, xM M ML Q) := by
    intro M g1 g2 g3 g4 g5 g6
    rw [eP]
    refine ⟨M, rfl, g1, g2, fun a ha => ?_⟩
    rw [eK, eP']
    exact ⟨g3, g4, g5, g6 a ha⟩
  have g51 : ∀ M, RE k MI M → SS n st2 M → M 5 k = nI kd → M 6 k = nI a0 → M 9 k = 0 → xq26 P (51, [some (.ref 1), some (.int (nI k)), some (.int (nI a0)), some (.int (nI kd))], [], xM M ML Q, 0, 0) := by
    intro M g1 g2 g3 g4 g5
    have hD' := g1.dr hD
    have hs' : M 4 5 = nI s := (g1 4 5 (by decide) (by omega)).trans hs
    have bad : (¬ kd = 1) → (¬ (kd = 3 ∨ kd = 4)) → (¬ (kd = 5 ∨ kd = 6)) → (¬ (kd = 7 ∨ kd = 8)) → (¬ (9 ≤ kd ∧ kd ≤ 12)) → ∃ P0 : xm_R → Prop, xm_Ev xz 19 [.ref 1, .int 0, .int (nI a0)] (xM M ML Q) P0 ∧ ∀ r, P0 r → xq26 P (xm_bk 192 [none, none, none, none] [] 0 0 r) := by
      intro q1 q2 q3 q4 q5
      refine ⟨_, c19 (r := false) (p := a0) g2 (fun _ _ _ => ⟨rfl, by omega⟩), ?_⟩
      rintro _ ⟨M2, rfl, k1, k2⟩
      have e : enS b n s k (.ok a0) = dmd false a0 st2 := by unfold enS; rw [← ekd, if_neg q1, if_neg q2, if_neg q3, if_neg q4, if_neg q5, est]; rfl
      refine xb26_192 (fin M2 (g1.tr k1.re) (by rw [e]; exact k2) (by rw [k1 5 k (by omega)]; exact g3) (by rw [k1 6 k (by omega)]; exact g4) (by rw [k1 9 k (by omega)]; exact g5) (fun a ha _ => ?_))
      rw [e] at ha
      exact absurd (dmd_ok ha).2 (by decide)
    have i4 : (kd = 3 ∨ kd = 4) → ∃ P0 : xm_R → Prop, xm_Ev xz 17 [.ref 1, .int 4] (xM M ML Q) P0 ∧ ∀ r, P0 r → xq26 P (xm_bk 129 [none, none, none, none] [] 0 0 r) := by
      intro q2
      refine ⟨_, c17 hb hD' g2 (k := 4) (by decide), ?_⟩
      rintro _ ⟨M2, rfl, k1, k2⟩
      have e : enS b n s k (.ok a0) = itm n 4 st2 := by unfold enS; rw [← ekd, if_neg (by omega), if_pos q2, est]; rfl
      exact xb26_129 (xb26_192 (fin M2 (g1.tr k1.re) (by rw [e]; exact k2) (by rw [k1 5 k (by omega)]; exact g3) (by rw [k1 6 k (by omega)]; exact g4) (by rw [k1 9 k (by omega)]; exact g5) (fun a ha q => by omega)))
    have i8 : (kd = 5 ∨ kd = 6) → ∃ P0 : xm_R → Prop, xm_Ev xz 17 [.ref 1, .int 4] (xM M ML Q) P0 ∧ ∀ r, P0 r → xq26 P (xm_bk 138 [some (.ref 1), none, none, none] [] 0 0 r) := by
      intro q2
      refine ⟨_, c17 hb hD' g2 (k := 4) (by decide), ?_⟩
      rintro _ ⟨M2, rfl, k1, k2⟩
      refine xb26_138 ⟨_, c17 hb (k1.dr hD') k2 (k := 4) (by decide), ?_⟩
      rintro _ ⟨M3, rfl, k3, k4⟩
      have k5 := k1.tr k3
      have e : enS b n s k (.ok a0) = itm n 4 (itm n 4 st2) := by unfold enS; rw [← ekd, if_neg (by omega), if_neg (by omega), if_pos q2, est]; rfl
      exact xb26_144 (xb26_192 (fin M3 (g1.tr k5.re) (by rw [e]; exact k4) (by rw [k5 5 k (by omega)]; exact g3) (by rw [k5 6 k (by omega)]; exact g4) (by rw [k5 9 k (by omega)]; exact g5) (fun a ha q => by omega)))
    have j2 : (kd = 7 ∨ kd = 8) → ∃ P0 : xm_R → Prop, xm_Ev xz 17 [.ref 1, .int 2] (xM M ML Q) P0 ∧ ∀ r, P0 r → xq26 P (xm_bk 158 [none, none, none, none] [.int (nI k), .ref 4] 0 0 r) := by
      intro q2
      refine ⟨_, c17 hb hD' g2 (k := 2) (by decide), ?_⟩
      rintro _ ⟨M2, rfl, k1, k2⟩
      refine xb26_158 ⟨_, c29 ((k1 4 5 (by decide)).trans hs') h64 h1 h2 _ _, ?_⟩
      rintro _ rfl
      have e : enS b n s k (.ok a0) = itm n 2 st2 := by unfold enS; rw [← ekd, if_neg (by omega), if_neg (by omega), if_neg (by omega), if_pos q2, est]; rfl
      have up : ∀ x y a j, ¬ (7 ≤ a ∧ a ≤ 8 ∧ j = k) → xm_up (xm_up M2 7 k x) 8 k y a j = M2 a j := fun x y a j q => by rw [up_n (by omega), up_n (by omega)]
      refine xb26_162 (xb26_192 (fin _ (g1.tr (k1.re.tr (fun a j q q' => up _ _ a j (by omega)))) ?_ ?_ ?_ ?_ (fun a ha _ => ?_)))
      · rw [e]
        exact k2.cg (up _ _ 1 1 (by omega)) (up _ _ 1 2 (by omega))
      · rw [up _ _ 5 k (by omega), k1 5 k (by omega)]; exact g3
      · rw [up _ _ 6 k (by omega), k1 6 k (by omega)]; exact g4
      · rw [up _ _ 9 k (by omega), k1 9 k (by omega)]; exact g5
      · rw [e] at ha
        obtain ⟨c, t1, t2, t3⟩ := itm_ok ha
        rw [up_n (by omega), up_s, up_s, t1]
        unfold enE Ent.f Ent.s
        rw [← ekd]
        show nI _ = nI (if kd = 1 then _ else _) ∧ (0 : Int32) = nI (if kd = 1 then _ else if 9 ≤ kd then _ else 0)
        rw [if_neg (by omega), if_neg (by omega), if_neg (by omega), st1 c t1]
        exact ⟨rfl, rfl⟩
    have j4 : (9 ≤ kd ∧ kd ≤ 12) → ∃ P0 : xm_R → Prop, xm_Ev xz 17 [.ref 1, .int 2] (xM M ML Q) P0 ∧ ∀ r, P0 r → xq26 P (xm_bk 175 [some (.ref 1), none, none, none] [.int (nI k), .ref 4] 0 0 r) := by
      intro q2
      refine ⟨_, c17 hb hD' g2 (k := 2) (by decide), ?_⟩
      rintro _ ⟨M1, rfl, k3, k4⟩
      refine xb26_175 ⟨_, c17 hb (k3.dr hD') k4 (k := 2) (by decide), ?_⟩
      rintro _ ⟨M2, rfl, k5, k2⟩
      have k1 := k3.tr k5
      refine xb26_180 ⟨_, c29 ((k1 4 5 (by decide)).trans hs') h64 h1 h2 _ _, ?_⟩
      rintro _ rfl
      have e : enS b n s k (.ok a0) = itm n 2 (itm n 2 st2) := by unfold enS; rw [← ekd, if_neg (by omega), if_neg (by omega), if_neg (by omega), if_neg (by omega), if_pos q2, est]; rfl
      have up : ∀ x y a j, ¬ (7 ≤ a ∧ a ≤ 8 ∧ j = k) → xm_up (xm_up M2 7 k x) 8 k y a j = M2 a j := fun x y a j q => by rw [up_n (by omega), up_n (by omega)]
      refine xb26_183 (xb26_192 (fin _ (g1.tr (k1.re.tr (fun a j q q' => up _ _ a j (by omega)))) ?_ ?_ ?_ ?_ (fun a ha _ => ?_)))
      · rw [e]
        exact k2.cg (up _ _ 1 1 (by omega)) (up _ _ 1 2 (by omega))
      · rw [up _ _ 5 k (by omega), k1 5 k (by omega)]; exact g3
      · rw [up _ _ 6 k (by omega), k1 6 k (by omega)]; exact g4
      · rw [up _ _ 9 k (by omega), k1 9 k (by omega)]; exact g5
      · rw [e] at ha
        obtain ⟨c', t1', t2', t3'⟩ := itm_ok ha
        obtain ⟨c, t1, t2, t3⟩ := itm_ok t1'
        rw [up_n (by omega), up_s, up_s, t1]
        unfold enE Ent.f Ent.s
        rw [← ekd]
        show nI _ = nI (if kd = 1 then _ else _) ∧ nI _ = nI (if kd = 1 then _ else if 9 ≤ kd then _ else 0)
        rw [if_neg (by omega), if_neg (by omega), if_pos q2.1, st1 c t1]
        exact ⟨rfl, rfl⟩
    have tx : kd = 1 → ∃ P0 : xm_R → Prop, xm_Ev xz 28 [.ref 1, .int (nI k)] (xM M ML Q) P0 ∧ ∀ r, P0 r → xq26 P (xm_bk 121 [none, none, none, none] [] 0 0 r) := by
      intro q2
      refine ⟨_, c28 hb hD' hs' h64 g2 h1 h2, ?_⟩
      rintro _ ⟨M2, rfl, k1, k2, k3⟩
      have e : enS b n s k (.ok a0) = txt b n st2 := by unfold enS; rw [← ekd, if_pos q2, est]; rfl
      refine xb26_121 (xb26_192 (fin M2 (g1.tr (fun a j q q' => k1 a j q (by omega))) (by rw [e]; exact k2) (by rw [k1 5 k (by omega) (by omega)]; exact g3) (by rw [k1 6 k (by omega) (by omega)]; exact g4) (by rw [k1 9 k (by omega) (by omega)]; exact g5) (fun a ha _ => ?_)))
      rw [e] at ha
      obtain ⟨k4, k5⟩ := k3 a ha
      obtain ⟨c, t1, t2, t3⟩ := txt_ok ha
      rw [k4, k5]
      unfold enE Ent.f Ent.s
      rw [← ekd]
      show nI _ = nI (if kd = 1 then _ else _) ∧ nI _ = nI (if kd = 1 then _ else if 9 ≤ kd then _ else 0)
      rw [if_pos q2, if_pos q2, st1 c t1, ← t1, t3, t2]
      exact ⟨rfl, rfl⟩
    refine xb26_51 (pk_eq kd 1 (fun q1 => tx q1) (fun q1 => pk_eq kd 2 (fun q2 => bad q1 (by omega) (by omega) (by omega) (by omega)) (fun q2 => pk_eq kd 3 (fun q3 => i4 (Or.inl q3)) (fun q3 => pk_eq kd 4 (fun q4 => i4 (Or.inr q4)) (fun q4 => pk_eq kd 5 (fun q5 => i8 (Or.inl q5)) (fun q5 => pk_eq kd 6 (fun q6 => i8 (Or.inr q6)) (fun q6 => pk_eq kd 7 (fun q7 => j2 (Or.inl q7)) (fun q7 => pk_eq kd 8 (fun q8 => j2 (Or.inr q8)) (fun q8 => pk_eq kd 9 (fun q9 => j4 (by omega)) (fun q9 => pk_eq kd 10 (fun q10 => j4 (by omega)) (fun q10 => pk_eq kd 11 (fun q11 => j4 (by omega)) (fun q11 => pk_eq kd 12 (fun q12 => j4 (by omega)) (fun q12 => bad q1 (by omega) (by omega) (by omega) (by omega))))))))))))))
  have g41 : ∀ M, R1 MI M → SS n st2 M → xq26 P (41, [some (.ref 1), some (.int (nI k)), some (.int (nI a0)), some (.int (nI kd))], [], xM M ML Q, 0, 0) := by
    intro M m1 m2
    refine xb26_41 ⟨_, c27 ((m1 4 5 (by decide)).trans hs) h64 h1 h2 _ _, ?_⟩
    rintro _ rfl
    have up : ∀ x y z a j, ¬ (5 ≤ a ∧ a ≤ 9 ∧ j = k) → xm_up (xm_up (xm_up M 5 k x) 6 k y) 9 k z a j = M a j := fun x y z a j q => by rw [up_n (by omega), up_n (by omega), up_n (by omega)]
    refine g51 _ (m1.re.tr (fun a j q q' => up _ _ _ a j q')) (m2.cg (up _ _ _ 1 1 (by omega)) (up _ _ _ 1 2 (by omega))) ?_ ?_ ?_
    · rw [up_n (by omega), up_n (by omega), up_s]
    · rw [up_n (by omega), up_s]
    · rw [up_s]
  refine xm_in (xb26_0 ⟨_, c17 hb hD hS (k := 1) (by decide), ?_⟩)
  rintro _ ⟨M1, rfl, m1, m2⟩
  rw [l2, ← ekd]
  refine xb26_10 ⟨_, c25 (by omega), ?_⟩
  rintro _ rfl
  refine xb26_16 ⟨fun h => ⟨_, c19 (r := true) (p := a0) m2 (fun _ _ q => by cases q), ?_⟩, fun h => ?_⟩
  · rintro _ ⟨M2, rfl, k1, k2⟩
    rw [bI_0] at h
    refine g41 M2 (m1.tr k1) ?_
    rw [est, h]
    exact k2
  · rw [bI_ne] at h
    rw [nI_1]
    refine ⟨_, c24 ((m1 4 5 (by decide)).trans hs) h64 (by omega), ?_⟩
    rintro _ rfl
    refine xb26_29 ⟨fun q => ⟨_, c19 (r := false) (p := a0) m2 (fun _ _ _ => ⟨rfl, by omega⟩), ?_⟩, fun q => ⟨_, c19 (r := true) (p := a0) m2 (fun _ _ q => by cases q), ?_⟩⟩
    · rintro _ ⟨M2, rfl, k1, k2⟩
      rw [bI_0] at q
      refine g41 M2 (m1.tr k1) ?_
      have q := of_decide_eq_false q
      rw [est, h, decide_eq_false (by omega)]
      exact k2
    · rintro _ ⟨M2, rfl, k1, k2⟩
      rw [bI_ne] at q
      refine g41 M2 (m1.tr k1) ?_
      have q := of_decide_eq_true q
      rw [est, h, decide_eq_true (by omega)]
      exact k2
end EN
