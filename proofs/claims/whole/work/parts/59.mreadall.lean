/-- what the reference has read -/
def SDm (b : Nat → Nat) (n : Nat) (MI : Nat → Nat → Int32) : Prop := QW n (poZ b n) (poT b n) MI ∧ MI 45 10 = nI (rFl b n) ∧ MI 45 11 = nI (rSe b n) ∧ MI 45 12 = nI (rPa b n) ∧ MI 45 13 = nI (rIf b n) ∧ (∀ i, i < rIf b n → MI 52 i = nI (num b 2 (rIa b n + 2 * i))) ∧ MI 45 16 = nI (rMf b n) ∧ MDm (rMm b n) (rMG b n) MI
theorem rm_cnt {b : Nat → Nat} {n : Nat} {T : Nat → Ent} {s : Nat} {w : Nat → Bool} : ∀ {d : Nat} {st : St} {m : Nat} {G : Nat → Nat × Nat} {a : Nat}, (rm b n T s w d st m G).1 = .ok a → (rm b n T s w d st m G).2.1 = m + d
  | 0, st, m, G, a, h => rfl
  | d + 1, .error p, m, G, a, h => by cases h
  | d + 1, .ok c, m, G, a, h => by
    have := rm_cnt (d := d) h
    show (rm b n T s w d _ (m + 1) _).2.1 = _
    rw [this]
    omega
theorem hd1_6 {b : Nat → Nat} {n a : Nat} (h : hd1 b n = .ok a) : a = 6 := by
  obtain ⟨c, h1, h2, -⟩ := itm_ok h
  obtain ⟨c2, h3, h4, -⟩ := itm_ok (dmd_ok h1).1
  cases h3
  omega
theorem hdS_8 {b : Nat → Nat} {n a : Nat} (h : hdS b n = .ok a) : a = 8 := by
  obtain ⟨c, h1, h2, -⟩ := itm_ok (dmd_ok h).1
  have := hd1_6 h1
  omega
theorem dmd_pl {r : Bool} {p q : Nat} {st : St} (h : ∀ a, st = .ok a → p = q) : dmd r p st = dmd r q st := by
  cases st with
  | error e => rfl
  | ok a => rw [h a rfl]
/-- off what the reference writes when it reads -/
def MR (MI M : Nat → Nat → Int32) : Prop := ∀ a j, ¬ (a = 45 ∧ 2 ≤ j ∧ j ≤ 16) → ¬ (47 ≤ a ∧ a ≤ 54) → M a j = MI a j
theorem MR.tr {A B C : Nat → Nat → Int32} (h : MR A B) (h' : MR B C) : MR A C := fun a j q q' => (h' a j q q').trans (h a j q q')
theorem M1.mr {A B : Nat → Nat → Int32} (h : M1 A B) : MR A B := fun a j q _ => h a j (by omega)
theorem MQo.mr {A B : Nat → Nat → Int32} (h : MQo A B) : MR A B := fun a j q q' => h a j (by omega) (by omega)
theorem MN.mr {A B : Nat → Nat → Int32} (h : MN A B) : MR A B := fun a j q q' => h a j (by omega) (by omega) (by omega)
theorem MR.dm {A B : Nat → Nat → Int32} (h : MR A B) {n : Nat} {c : Nat → Int32} (hD : Dm n c A) : Dm n c B := ⟨hD.1, (h 45 1 (by decide) (by decide)).trans hD.2.1, fun i hi => (h 46 i (by omega) (by omega)).trans (hD.2.2 i hi)⟩
theorem upMR {MI : Nat → Nat → Int32} {k : Nat} {x : Int32} (h : 2 ≤ k) (h' : k ≤ 16) : MR MI (xm_up MI 45 k x) := fun a j q _ => up_n (by omega)
section MA
variable {MI : Nat → Nat → Int32} {ML : Nat → Nat → Int64} {Q : Nat → Nat} {b : Nat → Nat} {n : Nat}
theorem c122 (hb : ∀ i, b i < 256) {s : Nat} (hD : Dm n (bBy b) MI) {st : St} (hS : SM n st MI) (hP : ∀ a, st = .ok a → MI 45 4 = nI s ∧ s ≤ 64 ∧ 1 ≤ s) (hz : ∀ a, st = .ok a → ∀ j, j < 65 → MI 47 j = 0) : xm_Ev xz 122 [.ref 45] (xM MI ML Q) (fun r => ∃ M, r = (none, xM M ML Q) ∧ MQo MI M ∧ SM n (rp b n s (s - 1) 1 st T0).1 M ∧ ∀ a, (rp b n s (s - 1) 1 st T0).1 = .ok a → QD (rp b n s (s - 1) 1 st T0).2 M) := by
  refine xm_in (xb122_0 (l122 (s := s) hb (s - 1 + 1) (s - 1) (by omega) 1 st T0 MI (by omega) (by omega) hD hS (fun a ha => ?_) (fun M g1 g2 g3 => ⟨M, rfl, g1, g2, g3⟩)))
  obtain ⟨q1, q2, q3⟩ := hP a ha
  refine ⟨q1, q2, Or.inl (by omega), fun j _ => rfl, ?_, fun j j1 j2 => QE0 rfl (hz a ha j j2)⟩
  show wd (kdo T0 s 0) = false
  unfold kdo
  rw [if_neg (by omega)]
  rfl
theorem c118 (hb : ∀ i, b i < 256) (hD : Dm n (bBy b) MI) : xm_Ev xz 118 [.ref 45] (xM MI ML Q) (fun r => ∃ M, r = (none, xM M ML Q) ∧ MR MI M ∧ SM n (fnS b n) M ∧ ∀ a, fnS b n = .ok a → SDm b n M) := by
  have hn := hD.1
  obtain ⟨P, eP⟩ : ∃ P, P = (fun r : xm_R => ∃ M, r = (none, xM M ML Q) ∧ MR MI M ∧ SM n (fnS b n) M ∧ ∀ a, fnS b n = .ok a → SDm b n M) := ⟨_, rfl⟩
  rw [← eP]
  have txY : txB b (poT b n) (poZ b n) 2 = isY b (poT b n) (poZ b n) := rfl
  have txM : txB b (poT b n) (poZ b n) 3 = isM b (poT b n) (poZ b n) := rfl
  -- from the fields on
  have g181 : ∀ M0, MR MI M0 → SM n (clS b n) M0 → (∀ a, clS b n = .ok a → QW n (poZ b n) (poT b n) M0 ∧ M0 45 15 = nI 0 ∧ M0 45 10 = nI (rFl b n) ∧ M0 45 11 = nI (rSe b n) ∧ M0 45 12 = nI (rPa b n) ∧ M0 45 13 = nI (rIf b n) ∧ (∀ i, i < rIf b n → M0 52 i = nI (num b 2 (rIa b n + 2 * i)))) → ∃ P0 : xm_R → Prop, xm_Ev xz 135 [.ref 45, .int 2] (xM M0 ML Q) P0 ∧ ∀ r, P0 r → xq118 P (xm_bk 232 [some (.ref 45), none, none, none, none, none, none] [.ref 45] 0 0 r) := by
    intro M0 r0 s0 d0
    refine ⟨_, c135 (T := poT b n) (s := poZ b n) (m := 0) (G := G0) hb (so := 2) (by decide) (r0.dm hD) s0 (fun a ha => ?_), ?_⟩
    · obtain ⟨q1, q2, -⟩ := d0 a ha
      exact ⟨q1, ⟨q2, fun i hi => absurd hi (Nat.not_lt_zero i)⟩, by omega⟩
    rintro _ ⟨M1', rfl, m1, m2, m3⟩
    rw [txY] at m2 m3
    have m2 : SM n (fiS b n).1 M1' := m2
    have m3 : ∀ a, (fiS b n).1 = .ok a → MDm (fiS b n).2.1 (fiS b n).2.2 M1' ∧ 8 * (fiS b n).2.1 ≤ a := m3
    have up : ∀ x a j, ¬ (a = 45 ∧ j = 16) → xm_up M1' 45 16 x a j = M1' a j := fun x a j q => up_n q
    have r1 : ∀ x, MR MI (xm_up M1' 45 16 x) := fun x => (r0.tr m1.mr).tr (upMR (by decide) (by decide))
    refine xb118_232 ⟨_, c135 (T := poT b n) (s := poZ b n) (m := (fiS b n).2.1) (G := (fiS b n).2.2) hb (so := 3) (by decide) ((r1 _).dm hD) (m2.cg (up _ 45 2 (by decide)) (up _ 45 3 (by decide))) (fun a ha => ?_), ?_⟩
    · obtain ⟨c, hc⟩ := rm_fw ha
      obtain ⟨c2, hc2, -⟩ := itm_ok hc
      obtain ⟨q1, q2⟩ := m3 a ha
      refine ⟨(m1.qw (d0 c2 hc2).1).cg (up _ 45 4 (by decide)) (fun a j z1 z2 => up _ a j (by omega)), ⟨?_, fun i hi => ?_⟩, q2⟩
      · rw [up _ 45 15 (by decide)]; exact q1.1
      · rw [up _ 53 i (by omega), up _ 54 i (by omega)]; exact q1.2 i hi
    rintro _ ⟨M2, rfl, m4, m5, m6⟩
    rw [txM] at m5 m6
    have m5 : SM n (meS b n).1 M2 := m5
    have m6 : ∀ a, (meS b n).1 = .ok a → MDm (meS b n).2.1 (meS b n).2.2 M2 ∧ 8 * (meS b n).2.1 ≤ a := m6
    have r2 := (r1 _).tr m4.mr
    have q2 : ∀ a, (meS b n).1 = .ok a → QW n (poZ b n) (poT b n) M2 := fun a ha => by
      obtain ⟨c, hc⟩ := rm_fw ha
      obtain ⟨c2, hc2, -⟩ := itm_ok hc
      obtain ⟨c3, hc3⟩ := rm_fw hc2
      obtain ⟨c4, hc4, -⟩ := itm_ok hc3
      exact m4.qw ((m1.qw (d0 c4 hc4).1).cg (up _ 45 4 (by decide)) (fun a j z1 z2 => up _ a j (by omega)))
    refine xb118_240 ⟨_, c137 (T := poT b n) (s := poZ b n) hb (r2.dm hD) m5 q2, ?_⟩
    rintro _ ⟨M3, rfl, m7, m8⟩
    have m8 : SM n (alS b n) M3 := m8
    have r3 := r2.tr m7.mr
    have l3 : M3 45 1 = nI n := (r3.dm hD).2.1
    have vm := vl_lt hb n 2 (fiS b n).1
    have go : ∀ z : Bool, (∀ a, alS b n = .ok a → (!z) = decide (a = n)) → ∃ P0 : xm_R → Prop, xm_Ev xz 120 [.ref 45, .int (M3 45 2), .int (bI z)] (xM M3 ML Q) P0 ∧ ∀ r, P0 r → xq118 P (xm_bk 275 [none, none, none, none, none, none, none] [] 0 0 r) := by
      intro z hz
      refine ⟨_, c120 (p := atS (alS b n)) m8 (fun a ha _ => ?_), ?_⟩
      · rw [ha] at m8 ⊢
        exact ⟨m8.le.2.1, by have := m8.le.1; show a ≤ 500; omega⟩
      · rintro _ ⟨M4, rfl, k1, k2⟩
        have ez : dmd (!z) (atS (alS b n)) (alS b n) = fnS b n := by
          unfold fnS
          cases hal : alS b n with
          | error p => rfl
          | ok a => rw [hz a hal]; rfl
        rw [ez] at k2
        refine xb118_275 ?_
        rw [eP]
        refine ⟨M4, rfl, r3.tr k1.mr, k2, fun a ha => ?_⟩
        obtain ⟨-, -, ⟨cm, hm⟩, ⟨cf, hf⟩, ⟨cc, hc⟩, -, -⟩ := fn_fw ha
        obtain ⟨d1, d2, d3, d4, d5, d6, d7⟩ := d0 cc hc
        have k3 := m7.tr k1
        have o : ∀ j, 10 ≤ j → j ≤ 13 → M4 45 j = M0 45 j := fun j z1 z2 => by rw [k3 45 j (by omega), m4 45 j (by omega) (by decide) (by decide), up _ 45 j (by omega), m1 45 j (by omega) (by decide) (by decide)]
        have o52 : ∀ j, M4 52 j = M0 52 j := fun j => by rw [k3 52 j (by omega), m4 52 j (by omega) (by decide) (by decide), up _ 52 j (by omega), m1 52 j (by omega) (by decide) (by decide)]
        refine ⟨k3.qw (q2 cm hm), ?_, ?_, ?_, ?_, fun i hi => ?_, ?_, k3.md (m6 cm hm).1⟩
        · rw [o 10 (by decide) (by decide)]; exact d3
        · rw [o 11 (by decide) (by decide)]; exact d4
        · rw [o 12 (by decide) (by decide)]; exact d5
        · rw [o 13 (by decide) (by decide)]; exact d6
        · rw [o52]; exact d7 i hi
        · rw [k3 45 16 (by decide), m4 45 16 (by decide) (by decide) (by decide), up_s]
          have : rMf b n = 0 + vl b n 2 (clS b n) := rm_cnt hf
          rw [this, Nat.zero_add]
    obtain ⟨at3, x1, x2, x3⟩ := m8
    refine xb118_246 ⟨fun h => absurd h (nI_pos (by omega)), fun _ => ?_⟩
    rw [l3]
    have go' := go
    rw [x1] at go' ⊢
    refine pk_le n at3 (fun h => go' false (fun a ha => ?_)) (fun h => go' true (fun a ha => ?_))
    · rw [ha] at x3
      obtain ⟨y1, -⟩ := x3.ok
      rw [decide_eq_true (by omega)]; rfl
    · rw [ha] at x3
      obtain ⟨y1, -⟩ := x3.ok
      rw [decide_eq_false (by omega)]; rfl
  -- the interfaces
  have lp : ∀ (c : Nat), c < 65536 → c = rIf b n → ∀ (d i : Nat) (st : St) (M : Nat → Nat → Int32), i + d = c → MR MI M → SM n st M → M 45 13 = nI c → il b n (poT b n) (poZ b n) d st = clS b n → (∀ a, st = .ok a → QW n (poZ b n) (poT b n) M ∧ CKd b (poT b n) (poZ b n) ∧ a = rIa b n + 2 * i ∧ M 45 15 = nI 0 ∧ M 45 10 = nI (rFl b n) ∧ M 45 11 = nI (rSe b n) ∧ M 45 12 = nI (rPa b n) ∧ ∀ j, j < i → M 52 j = nI (num b 2 (rIa b n + 2 * j))) → xq118 P (181, [some (.ref 45), none, none, none, none, some (.int (nI i)), none], [], xM M ML Q, 0, 0) := by
    intro c hc hcr d
    induction d with
    | zero =>
      intro i st M hi r0 s0 h13 hil hd
      refine xb118_181 ?_
      rw [h13]
      have hil : st = clS b n := hil
      subst hil
      refine pk_le c i (fun _ => g181 M r0 s0 (fun a ha => ?_)) (fun h => absurd h (by omega))
      obtain ⟨q1, q2, q3, q4, q5, q6, q7, q8⟩ := hd a ha
      exact ⟨q1, q4, q5, q6, q7, by rw [h13, hcr], fun j hj => q8 j (by omega)⟩
    | succ d ih =>
      intro i st M hi r0 s0 h13 hil hd
      refine xb118_181 ?_
      rw [h13]
      refine pk_le c i (fun h => absurd h (by omega)) (fun _ => ?_)
      cases st with
      | error p =>
        have hil : Except.error p = clS b n := hil
        refine ⟨fun _ => g181 M r0 (by rw [← hil]; exact s0) (fun a ha => by rw [← hil] at ha; cases ha), fun h => absurd s0.er h⟩
      | ok a =>
        obtain ⟨q1, q2, q3, q4, q5, q6, q7, q8⟩ := hd a rfl
        refine ⟨fun h => absurd h s0.ner, fun _ => ⟨_, c133 (T := poT b n) (s := poZ b n) hb (r0.dm hD) s0 (fun _ _ => ⟨q1, q2⟩) false, ?_⟩⟩
        rintro _ ⟨M2, rfl, m1, m2⟩
        have m2 : SM n (dmd (nmd b (poT b n) (poZ b n) (vl b n 2 (.ok a))) a (itm n 2 (.ok a))) M2 := m2
        have hil : il b n (poT b n) (poZ b n) d (dmd (nmd b (poT b n) (poZ b n) (vl b n 2 (.ok a))) a (itm n 2 (.ok a))) = clS b n := hil
        cases hst : dmd (nmd b (poT b n) (poZ b n) (vl b n 2 (.ok a))) a (itm n 2 (.ok a)) with
        | error p =>
          rw [hst] at m2 hil
          refine xb118_202 ⟨fun _ => ?_, fun h => absurd m2.er h⟩
          rw [nI_1]
          exact ih (i + 1) (.error p) M2 (by omega) (r0.tr m1.mr) m2 ((m1 45 13 (by decide)).trans h13) hil (fun a h => by cases h)
        | ok a' =>
          rw [hst] at m2 hil
          obtain ⟨u1, u2⟩ := dmd_ok hst
          obtain ⟨u3, u4, u5, u6⟩ := itm_ok u1
          cases u4
          have ev : vl b n 2 (.ok a) = num b 2 a := by rw [vl, if_pos (by omega)]
          refine xb118_202 ⟨fun h => absurd h m2.ner, fun _ => ⟨vp_in_nI (by omega) (by decide), ?_⟩⟩
          rw [nI_1, nI_clamp (by omega), ev]
          have up : ∀ x a j, ¬ (a = 52 ∧ j = i) → xm_up M2 52 i x a j = M2 a j := fun x a j q => up_n q
          refine ih (i + 1) (.ok a') _ (by omega) ((r0.tr m1.mr).tr (fun a j z1 z2 => up _ a j (by omega))) (m2.cg (up _ 45 2 (by omega)) (up _ 45 3 (by omega))) ?_ hil (fun a'' ha => ?_)
          · rw [up _ 45 13 (by omega), m1 45 13 (by decide)]; exact h13
          · cases ha
            refine ⟨(m1.qw q1).cg (up _ 45 4 (by omega)) (fun a j z1 z2 => up _ a j (by omega)), q2, by omega, ?_, ?_, ?_, ?_, fun j hj => ?_⟩
            · rw [up _ 45 15 (by omega), m1 45 15 (by decide)]; exact q4
            · rw [up _ 45 10 (by omega), m1 45 10 (by decide)]; exact q5
            · rw [up _ 45 11 (by omega), m1 45 11 (by decide)]; exact q6
            · rw [up _ 45 12 (by omega), m1 45 12 (by decide)]; exact q7
            · by_cases hji : j = i
              · subst hji
                rw [up_s, ← q3]
              · rw [up _ 52 j (by omega), m1 52 j (by omega)]
                exact q8 j (by omega)
  -- from the class on
  have g144 : ∀ M0, MR MI M0 → SM n (ckS b n) M0 → M0 45 15 = nI 0 → (∀ a, ckS b n = .ok a → QW n (poZ b n) (poT b n) M0) → xq118 P (144, [some (.ref 45), none, none, none, none, none, none], [], xM M0 ML Q, 0, 0) := by
    intro M0 r0 s0 z0 q0
    have ckd : ∀ a, ckS b n = .ok a → CKd b (poT b n) (poZ b n) := fun a ha => ck_CKd ha
    refine xb118_144 ⟨_, c121 hb (r0.dm hD) s0, ?_⟩
    rintro _ ⟨M1', rfl, m1, m2⟩
    have m2 : SM n (cl1 n (ckS b n)) M1' := m2
    have u1 : ∀ x a j, ¬ (a = 45 ∧ j = 10) → xm_up M1' 45 10 x a j = M1' a j := fun x a j q => up_n q
    have r1 : ∀ x, MR MI (xm_up M1' 45 10 x) := fun x => (r0.tr m1.mr).tr (upMR (by decide) (by decide))
    have w1 : ∀ x a, ckS b n = .ok a → QW n (poZ b n) (poT b n) (xm_up M1' 45 10 x) := fun x a ha => (m1.qw (q0 a ha)).cg (u1 _ 45 4 (by decide)) (fun a j z1 z2 => u1 _ a j (by omega))
    refine xb118_149 ⟨_, c133 (T := poT b n) (s := poZ b n) (st := cl1 n (ckS b n)) hb ((r1 _).dm hD) (m2.cg (u1 _ 45 2 (by decide)) (u1 _ 45 3 (by decide))) (fun a ha => ?_) false, ?_⟩
    · obtain ⟨c, hc, -⟩ := itm_ok ha
      exact ⟨w1 _ c hc, ckd c hc⟩
    rintro _ ⟨M2, rfl, m3, m4⟩
    have m4 : SM n (cl2 b n (poT b n) (poZ b n) (ckS b n)) M2 := m4
    have u2 : ∀ x a j, ¬ (a = 45 ∧ j = 11) → xm_up M2 45 11 x a j = M2 a j := fun x a j q => up_n q
    have r2 : ∀ x, MR MI (xm_up M2 45 11 x) := fun x => ((r1 _).tr m3.mr).tr (upMR (by decide) (by decide))
    have w2 : ∀ x a, ckS b n = .ok a → QW n (poZ b n) (poT b n) (xm_up M2 45 11 x) := fun x a ha => (m3.qw (w1 _ a ha)).cg (u2 _ 45 4 (by decide)) (fun a j z1 z2 => u2 _ a j (by omega))
    refine xb118_158 ⟨_, c133 (T := poT b n) (s := poZ b n) (st := cl2 b n (poT b n) (poZ b n) (ckS b n)) hb ((r2 _).dm hD) (m4.cg (u2 _ 45 2 (by decide)) (u2 _ 45 3 (by decide))) (fun a ha => ?_) true, ?_⟩
    · obtain ⟨c1, h1, -⟩ := itm_ok (dmd_ok ha).1
      obtain ⟨c, hc, -⟩ := itm_ok h1
      exact ⟨w2 _ c hc, ckd c hc⟩
    rintro _ ⟨M3, rfl, m5, m6⟩
    have m6 : SM n (cl3 b n (poT b n) (poZ b n) (ckS b n)) M3 := m6
    have u3 : ∀ x a j, ¬ (a = 45 ∧ j = 12) → xm_up M3 45 12 x a j = M3 a j := fun x a j q => up_n q
    have r3 : ∀ x, MR MI (xm_up M3 45 12 x) := fun x => ((r2 _).tr m5.mr).tr (upMR (by decide) (by decide))
    refine xb118_167 ⟨_, c121 hb ((r3 _).dm hD) (m6.cg (u3 _ 45 2 (by decide)) (u3 _ 45 3 (by decide))), ?_⟩
    rintro _ ⟨M4, rfl, m7, m8⟩
    have m8 : SM n (cl4 b n (poT b n) (poZ b n) (ckS b n)) M4 := m8
    have u4 : ∀ x a j, ¬ (a = 45 ∧ j = 13) → xm_up M4 45 13 x a j = M4 a j := fun x a j q => up_n q
    have r4 : ∀ x, MR MI (xm_up M4 45 13 x) := fun x => ((r3 _).tr m7.mr).tr (upMR (by decide) (by decide))
    have v3 := vl_lt hb n 2 (cl3 b n (poT b n) (poZ b n) (ckS b n))
    refine xb118_175 (lp (rIf b n) v3 rfl (rIf b n) 0 _ _ (by omega) (r4 _) (m8.cg (u4 _ 45 2 (by decide)) (u4 _ 45 3 (by decide))) (up_s _ _ _ _) rfl (fun a ha => ?_))
    have ha' := ha
    obtain ⟨c3, h3, -⟩ := itm_ok ha
    obtain ⟨c2, h2, -⟩ := itm_ok (dmd_ok h3).1
    obtain ⟨c1, h1, -⟩ := itm_ok (dmd_ok h2).1
    obtain ⟨c, hc, -⟩ := itm_ok h1
    refine ⟨(m7.qw ((m5.qw (w2 _ c hc)).cg (u3 _ 45 4 (by decide)) (fun a j z1 z2 => u3 _ a j (by omega)))).cg (u4 _ 45 4 (by decide)) (fun a j z1 z2 => u4 _ a j (by omega)), ckd c hc, ?_, ?_, ?_, ?_, ?_, fun j hj => absurd hj (Nat.not_lt_zero j)⟩
    · show a = atS (cl4 b n (poT b n) (poZ b n) (ckS b n)) + 2 * 0
      rw [ha']
      rfl
    · rw [u4 _ 45 15 (by decide), m7 45 15 (by decide), u3 _ 45 15 (by decide), m5 45 15 (by decide), u2 _ 45 15 (by decide), m3 45 15 (by decide), u1 _ 45 15 (by decide), m1 45 15 (by decide)]
      exact z0
    · rw [u4 _ 45 10 (by decide), m7 45 10 (by decide), u3 _ 45 10 (by decide), m5 45 10 (by decide), u2 _ 45 10 (by decide), m3 45 10 (by decide), up_s]
      rfl
    · rw [u4 _ 45 11 (by decide), m7 45 11 (by decide), u3 _ 45 11 (by decide), m5 45 11 (by decide), up_s]
      rfl
    · rw [u4 _ 45 12 (by decide), m7 45 12 (by decide), up_s]
      rfl
  -- the pool
  have g100 : ∀ M0, MR MI M0 → SM n (hdS b n) M0 → M0 45 15 = nI 0 → (∀ j, j < 65 → M0 47 j = 0) → xq118 P (100, [some (.ref 45), none, none, none, none, none, none], [], xM M0 ML Q, 0, 0) := by
    intro M0 r0 s0 z0 k0
    have v := vl_lt hb n 2 (hdS b n)
    obtain ⟨e, he⟩ : ∃ e, e = vl b n 2 (hdS b n) := ⟨_, rfl⟩
    rw [← he] at v
    refine xb118_100 ⟨_, c121 hb (r0.dm hD) s0, ?_⟩
    rintro _ ⟨M1', rfl, m1, m2⟩
    rw [← he]
    have u1 : ∀ x a j, ¬ (a = 45 ∧ j = 4) → xm_up M1' 45 4 x a j = M1' a j := fun x a j q => up_n q
    have r1 : ∀ x, MR MI (xm_up M1' 45 4 x) := fun x => (r0.tr m1.mr).tr (upMR (by decide) (by decide))
    have go : ∀ z : Bool, (!z) = decide (1 ≤ e ∧ e ≤ 64) → ∃ P0 : xm_R → Prop, xm_Ev xz 120 [.ref 45, .int 8, .int (bI z)] (xM (xm_up M1' 45 4 (nI e)) ML Q) P0 ∧ ∀ r, P0 r → xq118 P (xm_bk 136 [some (.ref 45), none, none, none, none, none, none] [] 0 0 r) := by
      intro z hz
      refine ⟨_, c120 (p := 8) (st := itm n 2 (hdS b n)) (m2.cg (u1 _ 45 2 (by decide)) (u1 _ 45 3 (by decide))) (fun _ _ _ => ⟨rfl, by decide⟩), ?_⟩
      rintro _ ⟨M2, rfl, k1, k2⟩
      obtain ⟨st, est⟩ : ∃ st, st = dmd (decide (1 ≤ e ∧ e ≤ 64)) (atS (hdS b n)) (itm n 2 (hdS b n)) := ⟨_, rfl⟩
      have e8 : dmd (!z) 8 (itm n 2 (hdS b n)) = st := by
        rw [est, hz]
        refine dmd_pl (fun a ha => ?_)
        obtain ⟨c, hc, -⟩ := itm_ok ha
        rw [hc]
        exact (hdS_8 hc).symm
      rw [e8] at k2
      have ok : ∀ a, st = .ok a → szo e = e ∧ 1 ≤ e ∧ e ≤ 64 := fun a ha => by
        rw [est] at ha
        have := of_decide_eq_true (dmd_ok ha).2
        refine ⟨?_, this⟩
        unfold szo
        rw [if_pos this.2]
      have r2 := (r1 _).tr k1.mr
      refine xb118_136 ⟨_, c122 (s := szo e) hb (r2.dm hD) k2 (fun a ha => ?_) (fun a ha j hj => ?_), ?_⟩
      · obtain ⟨o1, o2, o3⟩ := ok a ha
        refine ⟨?_, by omega, by omega⟩
        rw [k1 45 4 (by decide), up_s, o1]
      · rw [k1 47 j (by omega), u1 _ 47 j (by omega), m1 47 j (by omega)]
        exact k0 j hj
      · rintro _ ⟨M3, rfl, k3, k4, k5⟩
        have ep : rp b n (szo e) (szo e - 1) 1 st T0 = rpS b n (hdS b n) := by
          unfold rpS
          rw [est, he]
        rw [ep] at k4 k5
        have k4 : SM n (poS b n) M3 := k4
        have k5 : ∀ a, poS b n = .ok a → QD (poT b n) M3 := k5
        have ez : poZ b n = szo e := by unfold poZ; rw [he]
        have r3 := r2.tr k3.mr
        have q3 : ∀ a, poS b n = .ok a → QW n (poZ b n) (poT b n) M3 := fun a ha => by
          have ha2 := ha
          unfold poS at ha2
          rw [← ep] at ha2
          obtain ⟨c, hc⟩ := rp_fw ha2
          obtain ⟨o1, o2, o3⟩ := ok c hc
          refine ⟨?_, szo_le _, (po_tg hb hn ha).1, k5 a ha⟩
          rw [k3 45 4 (by decide) (by decide), k1 45 4 (by decide), up_s, ez, o1]
        refine xb118_140 ⟨_, c124 (b := b) (s := poZ b n) (T := poT b n) (r3.dm hD) q3 k4, ?_⟩
        rintro _ ⟨M4, rfl, k6, k7⟩
        refine g144 M4 (r3.tr k6.mr) k7 ?_ (fun a ha => ?_)
        · rw [k6 45 15 (by decide), k3 45 15 (by decide) (by decide), k1 45 15 (by decide), u1 _ 45 15 (by decide), m1 45 15 (by decide)]
          exact z0
        · obtain ⟨c, hc⟩ := ck_fw ha
          exact k6.qw (q3 c hc)
    refine xb118_105 (pk_lt e 1 (fun h => go true ?_) (fun h => pk_le e 64 (fun h2 => go false ?_) (fun h2 => go true ?_)))
    · rw [decide_eq_false (by omega)]; rfl
    · rw [decide_eq_true ⟨h, h2⟩]; rfl
    · rw [decide_eq_false (by omega)]; rfl
  -- the head
  have g41 : ∀ M0, MR MI M0 → SM n (.ok 0) M0 → M0 45 15 = nI 0 → (∀ j, j < 65 → M0 47 j = 0) → ∃ P0 : xm_R → Prop, xm_Ev xz 119 [.ref 45, .int 4] (xM M0 ML Q) P0 ∧ ∀ r, P0 r → xq118 P (xm_bk 41 [some (.ref 45), none, none, none, none, none, none] [] 0 0 r) := by
    intro M0 r0 s0 z0 k0
    have v4 := vl_lt hb n 4 (.ok 0)
    refine ⟨_, c119 hb (r0.dm hD) s0 (k := 4) (by decide), ?_⟩
    rintro _ ⟨M1', rfl, m1, m2⟩
    have v := vl_lt hb n 2 (hd0 b n)
    have v' := vl_lt hb n 2 (hd1 b n)
    have rest : ∀ M2, M1 M0 M2 → SM n (hd0 b n) M2 → xq118 P (60, [some (.ref 45), none, none, none, none, none, none], [], xM M2 ML Q, 0, 0) := by
      intro M2 g1 g2
      have r2 := r0.tr g1.mr
      refine xb118_60 ⟨_, c121 hb (r2.dm hD) g2, ?_⟩
      rintro _ ⟨M3, rfl, m3, m4⟩
      have m4 : SM n (hd1 b n) M3 := m4
      have r3 := r2.tr m3.mr
      refine xb118_64 ⟨_, c121 hb (r3.dm hD) m4, ?_⟩
      rintro _ ⟨M4, rfl, m5, m6⟩
      have go : ∀ z : Bool, (!z) = decide (45 ≤ vl b n 2 (hd1 b n) ∧ vl b n 2 (hd1 b n) ≤ 65) → ∃ P0 : xm_R → Prop, xm_Ev xz 120 [.ref 45, .int 6, .int (bI z)] (xM M4 ML Q) P0 ∧ ∀ r, P0 r → xq118 P (xm_bk 100 [some (.ref 45), none, none, none, none, none, none] [] 0 0 r) := by
        intro z hz
        refine ⟨_, c120 (p := 6) m6 (fun _ _ _ => ⟨rfl, by decide⟩), ?_⟩
        rintro _ ⟨M5, rfl, k1, k2⟩
        have e6 : dmd (!z) 6 (itm n 2 (hd1 b n)) = hdS b n := by
          unfold hdS
          rw [hz]
          refine dmd_pl (fun a ha => ?_)
          obtain ⟨c, hc, -⟩ := itm_ok ha
          rw [hc]
          exact (hd1_6 hc).symm
        rw [e6] at k2
        have r5 := (g1.tr m3).tr (m5.tr k1)
        exact g100 M5 (r0.tr r5.mr) k2 (by rw [r5 45 15 (by decide)]; exact z0) (fun j hj => by rw [r5 47 j (by omega)]; exact k0 j hj)
      refine xb118_69 (pk_lt (vl b n 2 (hd1 b n)) 45 (fun h => go true ?_) (fun h => pk_lt 65 (vl b n 2 (hd1 b n)) (fun h2 => go true ?_) (fun h2 => ⟨fun _ => go false ?_, fun h => absurd (nI_pos' (by omega)) h⟩)))
      · rw [decide_eq_false (by omega)]; rfl
      · rw [decide_eq_false (by omega)]; rfl
      · rw [decide_eq_true ⟨h, h2⟩]; rfl
    refine xb118_41 ?_
    have em : (3405691582 : Int64) = lN 3405691582 := by decide
    rw [lg_cmp_eq, em, pk_lEQ (by omega) (by decide)]
    refine ⟨fun h => ⟨_, c120 (r := false) (p := 0) m2 (fun _ _ q => by cases q), ?_⟩, fun h => ⟨_, c120 (r := true) (p := 0) m2 (fun _ _ _ => ⟨rfl, by decide⟩), ?_⟩⟩
    · rintro _ ⟨M2, rfl, k1, k2⟩
      refine rest M2 (m1.tr k1) ?_
      unfold hd0
      rw [decide_eq_true h]
      exact k2
    · rintro _ ⟨M2, rfl, k1, k2⟩
      refine rest M2 (m1.tr k1) ?_
      unfold hd0
      rw [decide_eq_false h]
      exact k2
  -- the kinds are wiped
  have l17 : ∀ (d i : Nat) (M : Nat → Nat → Int32), i + d = 65 → MR MI M → SM n (.ok 0) M → M 45 15 = nI 0 → (∀ j, j < i → M 47 j = 0) → xq118 P (17, [some (.ref 45), some (.int (nI i)), none, none, none, none, none], [], xM M ML Q, 0, 0) := by
    intro d
    induction d with
    | zero =>
      intro i M hi r0 s0 z0 k0
      exact xb118_17 (pk_le 65 i (fun _ => g41 M r0 s0 z0 (fun j hj => k0 j (by omega))) (fun h => absurd h (by omega)))
    | succ d ih =>
      intro i M hi r0 s0 z0 k0
      refine xb118_17 (pk_le 65 i (fun h => absurd h (by omega)) (fun _ => ⟨vp_in_nI (by omega) (by decide), ?_⟩))
      rw [nI_clamp (by omega), nI_1]
      have up : ∀ x a j, ¬ (a = 47 ∧ j = i) → xm_up M 47 i x a j = M a j := fun x a j q => up_n q
      refine ih (i + 1) _ (by omega) (r0.tr (fun a j q1 q2 => up _ a j (by omega))) (s0.cg (up _ 45 2 (by omega)) (up _ 45 3 (by omega))) ((up _ 45 15 (by omega)).trans z0) (fun j hj => ?_)
      by_cases hji : j = i
      · subst hji; rw [up_s]
      · rw [up _ 47 j (by omega)]; exact k0 j (by omega)
  refine xm_in (xb118_0 (l17 65 0 _ (by omega) (fun a j q1 q2 => ?_) ⟨0, ?_, Nat.zero_le _, rfl, ?_⟩ (up_s _ _ _ _) (fun j hj => absurd hj (Nat.not_lt_zero j))))
  · rw [up_n (by omega), up_n (by omega), up_n (by omega)]
  · rw [up_n (by decide), up_n (by decide), up_s]; rfl
  · rw [up_n (by decide), up_s]
end MA
