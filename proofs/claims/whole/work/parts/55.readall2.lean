section RA
variable {MI : Nat → Nat → Int32} {ML : Nat → Nat → Int64} {Q : Nat → Nat} {b : Nat → Nat} {n : Nat}
theorem c16 (hb : ∀ i, b i < 256) (hD : Dr n (bBy b) MI) (hS : SS n (.ok 0) MI) : xm_Ev xz 16 [.ref 1] (xM MI ML Q) (fun r => ∃ M, r = (none, xM M ML Q) ∧ R1 MI M ∧ SS n (hdS b n) M) := by
  have hn := hD.1
  have v4 := vl_lt hb n 4 (.ok 0)
  have v2 := vl_lt hb n 2 (hd1 b n)
  refine xm_in (xb16_0 ⟨_, c17 hb hD hS (k := 4) (by decide), ?_⟩)
  rintro _ ⟨M1, rfl, m1, m2⟩
  have tail : ∀ M2, R1 MI M2 → SS n (hd0 b n) M2 → xq16 (fun r => ∃ M, r = (none, xM M ML Q) ∧ R1 MI M ∧ SS n (hdS b n) M) (20, [some (.ref 1), none, none], [], xM M2 ML Q, 0, 0) := by
    intro M2 g1 g2
    refine xb16_20 ⟨_, c17 hb (g1.dr hD) g2 (k := 2) (by decide), ?_⟩
    rintro _ ⟨M3, rfl, k1, k2⟩
    have k2 : SS n (hd1 b n) M3 := k2
    have r3 := g1.tr k1
    refine xb16_25 ⟨_, c17 hb (r3.dr hD) k2 (k := 2) (by decide), ?_⟩
    rintro _ ⟨M4, rfl, k3, k4⟩
    have r4 := r3.tr k3
    have go : ∀ z : Bool, z = decide (45 ≤ vl b n 2 (hd1 b n) ∧ vl b n 2 (hd1 b n) ≤ 65) → ∃ P0 : xm_R → Prop, xm_Ev xz 19 [.ref 1, .int (bI z), .int (M3 1 1)] (xM M4 ML Q) P0 ∧ ∀ r, P0 r → xq16 (fun r => ∃ M, r = (none, xM M ML Q) ∧ R1 MI M ∧ SS n (hdS b n) M) (xm_bk 59 [none, none, none] [] 0 0 r) := by
      intro z hz
      refine ⟨_, c19 (p := atS (hd1 b n)) k4 (fun c hc _ => pl_ok hn k2 hc), ?_⟩
      rintro _ ⟨M5, rfl, k5, k6⟩
      refine xb16_59 ⟨M5, rfl, r4.tr k5, ?_⟩
      rw [hz] at k6
      exact k6
    refine xb16_36 (pk_lt (vl b n 2 (hd1 b n)) 45 (fun h => go false ?_) (fun h => pk_lt 65 (vl b n 2 (hd1 b n)) (fun h2 => go false ?_) (fun h2 => go true ?_)))
    · rw [decide_eq_false (by omega)]
    · rw [decide_eq_false (by omega)]
    · rw [decide_eq_true ⟨h, h2⟩]
  have em : (-889275714 : Int32) = nI 3405691582 := by decide
  refine xb16_6 ⟨fun h => ⟨_, c19 (r := true) (p := 0) m2 (fun _ _ q => by cases q), ?_⟩, fun h => ⟨_, c19 (r := false) (p := 0) m2 (fun _ _ _ => ⟨rfl, by decide⟩), ?_⟩⟩
  · rintro _ ⟨M2, rfl, k1, k2⟩
    refine tail M2 (m1.tr k1) ?_
    unfold hd0
    rw [em] at h
    rw [decide_eq_true (nI_inj (by omega) (by decide) h)]
    exact k2
  · rintro _ ⟨M2, rfl, k1, k2⟩
    refine tail M2 (m1.tr k1) ?_
    unfold hd0
    rw [em] at h
    rw [decide_eq_false (fun q => h (by rw [q]))]
    exact k2
theorem fn_fw {a : Nat} (h : fnS b n = .ok a) : a = n ∧ alS b n = .ok a ∧ (∃ c, (meS b n).1 = .ok c) ∧ (∃ c, (fiS b n).1 = .ok c) ∧ (∃ c, clS b n = .ok c) ∧ (∃ c, ckS b n = .ok c) ∧ (∃ c, poS b n = .ok c) := by
  obtain ⟨h1, h2⟩ := dmd_ok h
  obtain ⟨c1, h3⟩ := ra_fw h1
  obtain ⟨c2, h4⟩ := rm_fw h3
  obtain ⟨c3, h5, -⟩ := itm_ok h4
  obtain ⟨c4, h6⟩ := rm_fw h5
  obtain ⟨c5, h7, -⟩ := itm_ok h6
  obtain ⟨⟨c6, h8⟩, -⟩ := cl_fw h7
  obtain ⟨c7, h9⟩ := ck_fw h8
  rw [h1] at h2
  have h2 := of_decide_eq_true h2
  exact ⟨h2, h1, ⟨_, h3⟩, ⟨_, h5⟩, ⟨_, h7⟩, ⟨_, h8⟩, ⟨_, h9⟩⟩
theorem c15 (hb : ∀ i, b i < 256) (hD : Dr n (bBy b) MI) : xm_Ev xz 15 [.ref 1] (xM MI ML Q) (fun r => ∃ M, r = (some (.int (M 1 2)), xM M ML Q) ∧ (∀ a j, a ≠ 1 → ¬ (4 ≤ a ∧ a ≤ 11) → M a j = MI a j) ∧ SS n (fnS b n) M ∧ ∀ a, fnS b n = .ok a → SD b n M) := by
  have hn := hD.1
  have h64 : poZ b n ≤ 64 := szo_le _
  have drc : ∀ {M : Nat → Nat → Int32}, (∀ a j, a ≠ 1 → ¬ (4 ≤ a ∧ a ≤ 11) → M a j = MI a j) → Dr n (bBy b) M := fun w => ⟨hn, (w 2 1 (by decide) (by decide)).trans hD.2.1, fun i hi => (w 3 i (by decide) (by decide)).trans (hD.2.2 i hi)⟩
  have a0 : ∀ a j, a ≠ 1 → ¬ (4 ≤ a ∧ a ≤ 11) → xm_up (xm_up (xm_up MI 1 1 0) 1 2 (-1)) 1 10 0 a j = MI a j := fun a j q _ => by rw [up_n (by omega), up_n (by omega), up_n (by omega)]
  have z0 : xm_up (xm_up (xm_up MI 1 1 0) 1 2 (-1)) 1 10 0 1 10 = nI 0 := up_s _ _ _ _
  refine xm_in (xb15_0 ⟨_, c16 hb (drc a0) ⟨0, ?_, Nat.zero_le _, rfl, ?_⟩, ?_⟩)
  · rw [up_n (by decide), up_n (by decide), up_s]; rfl
  · rw [up_n (by decide), up_s]
  rintro _ ⟨M1, rfl, m1, m2⟩
  have a1 : ∀ a j, a ≠ 1 → ¬ (4 ≤ a ∧ a ≤ 11) → M1 a j = MI a j := fun a j q q' => by rw [m1 a j (by omega)]; exact a0 a j q q'
  have z1 : M1 1 10 = nI 0 := (m1 1 10 (by decide)).trans z0
  refine xb15_19 ⟨_, c20 hb (drc a1) m2, ?_⟩
  rintro _ ⟨M2, rfl, m3, m4, m5, m6⟩
  have m4 : SS n (poS b n) M2 := m4
  have m5 : M2 4 5 = nI (poZ b n) := m5
  have m6 : ∀ a, poS b n = .ok a → PD (poZ b n) (poT b n) M2 := m6
  have a2 : ∀ a j, a ≠ 1 → ¬ (4 ≤ a ∧ a ≤ 11) → M2 a j = MI a j := fun a j q q' => by rw [m3 a j (by omega) (by omega)]; exact a1 a j q q'
  have z2 : M2 1 10 = nI 0 := (m3 1 10 (by decide) (by decide)).trans z1
  -- from the check on
  have tail : ∀ M3, (∀ a j, a ≠ 1 → ¬ (4 ≤ a ∧ a ≤ 11) → M3 a j = MI a j) → SS n (poS b n) M3 → M3 1 10 = nI 0 → M3 4 5 = nI (poZ b n) → (∀ a, poS b n = .ok a → PW b n (poZ b n) (poT b n) M3) → xq15 (fun r => ∃ M, r = (some (.int (M 1 2)), xM M ML Q) ∧ (∀ a j, a ≠ 1 → ¬ (4 ≤ a ∧ a ≤ 11) → M a j = MI a j) ∧ SS n (fnS b n) M ∧ ∀ a, fnS b n = .ok a → SD b n M) (42, [some (.ref 1)], [], xM M3 ML Q, 0, 0) := by
    intro M3 a3 s3 z3 p3 w3
    refine xb15_42 ⟨_, c37 (b := b) (T := poT b n) p3 h64 hn w3 s3, ?_⟩
    rintro _ ⟨M4, rfl, k1, k2⟩
    have k2 : SS n (ckS b n) M4 := k2
    have a4 : ∀ a j, a ≠ 1 → ¬ (4 ≤ a ∧ a ≤ 11) → M4 a j = MI a j := fun a j q q' => by rw [k1 a j (by omega)]; exact a3 a j q q'
    have w4 : ∀ a, ckS b n = .ok a → PW b n (poZ b n) (poT b n) M4 := fun a ha => by
      obtain ⟨c, hc⟩ := ck_fw ha
      exact k1.pw (w3 c hc)
    refine xb15_46 ⟨_, c45 (T := poT b n) hb (drc a4) k2 ((k1 4 5 (by decide)).trans p3) h64 w4, ?_⟩
    rintro _ ⟨M5, rfl, k3, k4, f4, f5, f6, f7, f8⟩
    have k4 : SS n (clS b n) M5 := k4
    have a5 : ∀ a j, a ≠ 1 → ¬ (4 ≤ a ∧ a ≤ 11) → M5 a j = MI a j := fun a j q q' => by rw [k3 a j (by omega)]; exact a4 a j q q'
    have w5 : ∀ a, clS b n = .ok a → PW b n (poZ b n) (poT b n) M5 ∧ MD 0 G0 M5 ∧ 8 * 0 ≤ a := fun a ha => by
      obtain ⟨⟨c, hc⟩, -⟩ := cl_fw ha
      refine ⟨(w4 c hc).cg (fun a j q1 q2 => k3 a j (by omega)), ⟨?_, fun i hi => absurd hi (Nat.not_lt_zero i)⟩, Nat.zero_le _⟩
      rw [k3 1 10 (by decide), k1 1 10 (by decide)]
      exact z3
    refine xb15_50 ⟨_, c47 (wc := 2) (w := isY b (poT b n) (poZ b n)) hb (fun M x h1 h2 => c42y h1 h2) (drc a5) k4 w5, ?_⟩
    rintro _ ⟨M6, rfl, k5, k6, k7⟩
    have k6 : SS n (fiS b n).1 M6 := k6
    have k7 : ∀ a, (fiS b n).1 = .ok a → MD (fiS b n).2.1 (fiS b n).2.2 M6 ∧ 8 * (fiS b n).2.1 ≤ a := k7
    have up : ∀ x a j, ¬ (a = 1 ∧ j = 9) → xm_up M6 1 9 x a j = M6 a j := fun x a j q => up_n q
    have a6 : ∀ x a j, a ≠ 1 → ¬ (4 ≤ a ∧ a ≤ 11) → xm_up M6 1 9 x a j = MI a j := fun x a j q q' => by rw [up _ a j (by omega), k5 a j (by omega) (by omega) (by omega)]; exact a5 a j q q'
    have w6 : ∀ x a, (fiS b n).1 = .ok a → PW b n (poZ b n) (poT b n) (xm_up M6 1 9 x) ∧ MD (fiS b n).2.1 (fiS b n).2.2 (xm_up M6 1 9 x) ∧ 8 * (fiS b n).2.1 ≤ a := fun x a ha => by
      obtain ⟨c, hc⟩ := rm_fw ha
      obtain ⟨c2, hc2, -⟩ := itm_ok hc
      obtain ⟨g1, g2⟩ := k7 a ha
      refine ⟨(k5.pw (w5 c2 hc2).1).cg (fun a j q1 q2 => up _ a j (by omega)), ⟨?_, fun i hi => ?_⟩, g2⟩
      · rw [up _ 1 10 (by decide)]; exact g1.1
      · rw [up _ 10 i (by omega), up _ 11 i (by omega)]; exact g1.2 i hi
    refine xb15_55 ⟨_, c47 (wc := 8) (w := isM b (poT b n) (poZ b n)) hb (fun M x h1 h2 => c42m h1 h2) (drc (a6 _)) (k6.cg (up _ 1 1 (by decide)) (up _ 1 2 (by decide))) (w6 _), ?_⟩
    rintro _ ⟨M7, rfl, k8, k9, k10⟩
    have k9 : SS n (meS b n).1 M7 := k9
    have k10 : ∀ a, (meS b n).1 = .ok a → MD (meS b n).2.1 (meS b n).2.2 M7 ∧ 8 * (meS b n).2.1 ≤ a := k10
    have a7 : ∀ a j, a ≠ 1 → ¬ (4 ≤ a ∧ a ≤ 11) → M7 a j = MI a j := fun a j q q' => by rw [k8 a j (by omega) (by omega) (by omega)]; exact a6 _ a j q q'
    have w7 : ∀ a, (meS b n).1 = .ok a → PW b n (poZ b n) (poT b n) M7 := fun a ha => by
      obtain ⟨c, hc⟩ := rm_fw ha
      obtain ⟨c2, hc2, -⟩ := itm_ok hc
      exact k8.pw (w6 _ c2 hc2).1
    refine xb15_69 ⟨_, c49 (T := poT b n) (s := poZ b n) hb (drc a7) k9 w7, ?_⟩
    rintro _ ⟨M8, rfl, k11, k12⟩
    have k12 : SS n (alS b n) M8 := k12
    have a8 : ∀ a j, a ≠ 1 → ¬ (4 ≤ a ∧ a ≤ 11) → M8 a j = MI a j := fun a j q q' => by rw [k11 a j (by omega)]; exact a7 a j q q'
    have l8 : M8 2 1 = nI n := (a8 2 1 (by decide) (by decide)).trans hD.2.1
    have go : ∀ z : Bool, (∀ a, alS b n = .ok a → z = decide (a = n)) → ∃ P0 : xm_R → Prop, xm_Ev xz 19 [.ref 1, .int (bI z), .int (M8 1 1)] (xM M8 ML Q) P0 ∧ ∀ r, P0 r → xq15 (fun r => ∃ M, r = (some (.int (M 1 2)), xM M ML Q) ∧ (∀ a j, a ≠ 1 → ¬ (4 ≤ a ∧ a ≤ 11) → M a j = MI a j) ∧ SS n (fnS b n) M ∧ ∀ a, fnS b n = .ok a → SD b n M) (xm_bk 100 [some (.ref 1)] [] 0 0 r) := by
      intro z hz
      refine ⟨_, c19 (p := atS (alS b n)) k12 (fun a ha _ => ?_), ?_⟩
      · rw [ha] at k12 ⊢
        exact ⟨k12.le.2.1, by have := k12.le.1; show a ≤ 500; omega⟩
      · rintro _ ⟨M9, rfl, k13, k14⟩
        have ez : dmd z (atS (alS b n)) (alS b n) = fnS b n := by
          unfold fnS
          cases hal : alS b n with
          | error p => rfl
          | ok a => rw [hz a hal]; rfl
        rw [ez] at k14
        refine xb15_100 ⟨M9, rfl, fun a j q q' => by rw [k13 a j (by omega)]; exact a8 a j q q', k14, fun a ha => ?_⟩
        obtain ⟨-, -, ⟨cm, hm⟩, ⟨cf, hf⟩, ⟨cc, hc⟩, -, -⟩ := fn_fw ha
        obtain ⟨g1, g2⟩ := k10 cm hm
        have r9 := k11.tr k13
        have o9 : ∀ j, 3 ≤ j → j ≤ 8 → M9 1 j = M5 1 j := fun j q1 q2 => by rw [r9 1 j (by omega), k8 1 j (by omega) (by decide) (by decide), up _ 1 j (by omega), k5 1 j (by omega) (by decide) (by decide)]
        refine ⟨r9.pw (w7 cm hm), ?_, ?_, ?_, ?_, ?_, ?_, r9.md g1⟩
        · rw [o9 4 (by decide) (by decide)]; exact f4
        · rw [o9 5 (by decide) (by decide)]; exact f5
        · rw [o9 6 (by decide) (by decide)]; exact f6
        · rw [o9 7 (by decide) (by decide)]; exact f7
        · rw [o9 8 (by decide) (by decide)]; exact f8 cc hc
        · rw [r9 1 9 (by decide), k8 1 9 (by decide) (by decide) (by decide), up_s]
          exact (k7 cf hf).1.1
    obtain ⟨at8, x1, x2, x3⟩ := k12
    refine xb15_73 ?_
    rw [l8]
    have go' := go
    rw [x1] at go' ⊢
    refine pk_eq at8 n (fun h => go' true (fun a ha => ?_)) (fun h => go' false (fun a ha => ?_))
    · rw [ha] at x3
      obtain ⟨y1, -⟩ := x3.ok
      rw [decide_eq_true (by omega)]
    · rw [ha] at x3
      obtain ⟨y1, -⟩ := x3.ok
      rw [decide_eq_false (by omega)]
  cases hpo : poS b n with
  | error p =>
    have s2 := m4
    rw [hpo] at m4
    exact xb15_23 ⟨fun h => absurd h m4.er, fun _ => tail M2 a2 s2 z2 m5 (fun a ha => by rw [hpo] at ha; cases ha)⟩
  | ok a =>
    have s2 := m4
    rw [hpo] at m4
    have hT := (po_tg hb hn hpo).1
    have hPD := m6 a hpo
    refine xb15_23 ⟨fun _ => ⟨_, c30 (drc a2) m5 h64 hT hPD, ?_⟩, fun h => absurd m4.le.2.2 h⟩
    rintro _ ⟨M3, rfl, k1, k2⟩
    refine tail M3 (fun a j q q' => by rw [k1 a j (by omega)]; exact a2 a j q q') (s2.cg (k1 1 1 (by decide)) (k1 1 2 (by decide))) ((k1 1 10 (by decide)).trans z2) ((k1 4 5 (by decide)).trans m5) (fun _ _ => ⟨(k1 4 5 (by decide)).trans m5, h64, hT, fun j q1 q2 => ?_⟩)
    obtain ⟨p1, p2, p3⟩ := hPD j q1 q2
    rw [k1 5 j (by decide), k1 6 j (by decide), k1 7 j (by decide), k1 8 j (by decide)]
    exact ⟨p1, fun h => (p2 h).1, p3, k2 j q1 q2⟩
end RA
