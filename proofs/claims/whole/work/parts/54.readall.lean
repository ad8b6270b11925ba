theorem nI_inj {x y : Nat} (hx : x < 2 ^ 32) (hy : y < 2 ^ 32) (h : nI x = nI y) : x = y := by
  rw [← pk_tn hx, ← pk_tn hy, h]
/-- the head -/
def hd0 (b : Nat → Nat) (n : Nat) : St := dmd (decide (vl b n 4 (.ok 0) = 3405691582)) 0 (itm n 4 (.ok 0))
def hd1 (b : Nat → Nat) (n : Nat) : St := itm n 2 (hd0 b n)
def hdS (b : Nat → Nat) (n : Nat) : St := dmd (decide (45 ≤ vl b n 2 (hd1 b n) ∧ vl b n 2 (hd1 b n) ≤ 65)) (atS (hd1 b n)) (itm n 2 (hd1 b n))
/-- the class behind the pool -/
def cl1 (n : Nat) (st : St) : St := itm n 2 st
def cl2 (b : Nat → Nat) (n : Nat) (T : Nat → Ent) (s : Nat) (st : St) : St := dmd (nmd b T s (vl b n 2 (cl1 n st))) (atS (cl1 n st)) (itm n 2 (cl1 n st))
def cl3 (b : Nat → Nat) (n : Nat) (T : Nat → Ent) (s : Nat) (st : St) : St := dmd (decide (vl b n 2 (cl2 b n T s st) = 0) || nmd b T s (vl b n 2 (cl2 b n T s st))) (atS (cl2 b n T s st)) (itm n 2 (cl2 b n T s st))
def cl4 (b : Nat → Nat) (n : Nat) (T : Nat → Ent) (s : Nat) (st : St) : St := itm n 2 (cl3 b n T s st)
def cl5 (b : Nat → Nat) (n : Nat) (T : Nat → Ent) (s : Nat) (st : St) : St := il b n T s (vl b n 2 (cl3 b n T s st)) (cl4 b n T s st)
/-- the whole reading -/
def poS (b : Nat → Nat) (n : Nat) : St := (rpS b n (hdS b n)).1
def poT (b : Nat → Nat) (n : Nat) : Nat → Ent := (rpS b n (hdS b n)).2
def poZ (b : Nat → Nat) (n : Nat) : Nat := szo (vl b n 2 (hdS b n))
def ckS (b : Nat → Nat) (n : Nat) : St := ck b (poT b n) (poZ b n) (poZ b n - 1) 1 (poS b n)
def clS (b : Nat → Nat) (n : Nat) : St := cl5 b n (poT b n) (poZ b n) (ckS b n)
def G0 : Nat → Nat × Nat := fun _ => (0, 0)
def fiS (b : Nat → Nat) (n : Nat) : St × Nat × (Nat → Nat × Nat) := rmS b n (poT b n) (poZ b n) (isY b (poT b n) (poZ b n)) (clS b n) 0 G0
def meS (b : Nat → Nat) (n : Nat) : St × Nat × (Nat → Nat × Nat) := rmS b n (poT b n) (poZ b n) (isM b (poT b n) (poZ b n)) (fiS b n).1 (fiS b n).2.1 (fiS b n).2.2
def alS (b : Nat → Nat) (n : Nat) : St := raS b n (poT b n) (poZ b n) (meS b n).1
def fnS (b : Nat → Nat) (n : Nat) : St := dmd (decide (atS (alS b n) = n)) (atS (alS b n)) (alS b n)
def rFl (b : Nat → Nat) (n : Nat) : Nat := vl b n 2 (ckS b n)
def rSe (b : Nat → Nat) (n : Nat) : Nat := vl b n 2 (cl1 n (ckS b n))
def rPa (b : Nat → Nat) (n : Nat) : Nat := vl b n 2 (cl2 b n (poT b n) (poZ b n) (ckS b n))
def rIf (b : Nat → Nat) (n : Nat) : Nat := vl b n 2 (cl3 b n (poT b n) (poZ b n) (ckS b n))
def rIa (b : Nat → Nat) (n : Nat) : Nat := atS (cl4 b n (poT b n) (poZ b n) (ckS b n))
def rMf (b : Nat → Nat) (n : Nat) : Nat := (fiS b n).2.1
def rMm (b : Nat → Nat) (n : Nat) : Nat := (meS b n).2.1
def rMG (b : Nat → Nat) (n : Nat) : Nat → Nat × Nat := (meS b n).2.2
/-- what the scanner has read -/
def SD (b : Nat → Nat) (n : Nat) (MI : Nat → Nat → Int32) : Prop := PW b n (poZ b n) (poT b n) MI ∧ MI 1 4 = nI (rFl b n) ∧ MI 1 5 = nI (rSe b n) ∧ MI 1 6 = nI (rPa b n) ∧ MI 1 7 = nI (rIf b n) ∧ MI 1 8 = nI (rIa b n) ∧ MI 1 9 = nI (rMf b n) ∧ MD (rMm b n) (rMG b n) MI
theorem ra_fw {b : Nat → Nat} {n : Nat} {T : Nat → Ent} {s a : Nat} {st : St} (h : raS b n T s st = .ok a) : ∃ c, st = .ok c := by
  obtain ⟨c, h1, -⟩ := ra_ok h
  obtain ⟨c, h2, -⟩ := itm_ok h1
  exact ⟨c, h2⟩
theorem rm_fw {b : Nat → Nat} {n : Nat} {T : Nat → Ent} {s : Nat} {w : Nat → Bool} : ∀ {d : Nat} {st : St} {m : Nat} {G : Nat → Nat × Nat} {a : Nat}, (rm b n T s w d st m G).1 = .ok a → ∃ c, st = .ok c
  | 0, st, m, G, a, h => ⟨a, h⟩
  | d + 1, .error p, m, G, a, h => by cases h
  | d + 1, .ok c, m, G, a, h => ⟨c, rfl⟩
theorem il_fw {b : Nat → Nat} {n : Nat} {T : Nat → Ent} {s : Nat} : ∀ {d : Nat} {st : St} {a : Nat}, il b n T s d st = .ok a → ∃ c, st = .ok c
  | 0, st, a, h => ⟨a, h⟩
  | d + 1, .error p, a, h => by cases h
  | d + 1, .ok c, a, h => ⟨c, rfl⟩
theorem ck_fw {b : Nat → Nat} {T : Nat → Ent} {s : Nat} : ∀ {d k : Nat} {st : St} {a : Nat}, ck b T s d k st = .ok a → ∃ c, st = .ok c
  | 0, k, st, a, h => ⟨a, h⟩
  | d + 1, k, .error p, a, h => by cases h
  | d + 1, k, .ok c, a, h => ⟨c, rfl⟩
theorem rp_fw {b : Nat → Nat} {n s : Nat} : ∀ {d k : Nat} {st : St} {T : Nat → Ent} {a : Nat}, (rp b n s d k st T).1 = .ok a → ∃ c, st = .ok c
  | 0, k, st, T, a, h => ⟨a, h⟩
  | d + 1, k, .error p, T, a, h => by cases h
  | d + 1, k, .ok c, T, a, h => ⟨c, rfl⟩
theorem cl_fw {b : Nat → Nat} {n : Nat} {T : Nat → Ent} {s a : Nat} {st : St} (h : cl5 b n T s st = .ok a) : (∃ c, st = .ok c) ∧ (∃ c, cl1 n st = .ok c) ∧ (∃ c, cl2 b n T s st = .ok c) ∧ (∃ c, cl3 b n T s st = .ok c) ∧ (∃ c, cl4 b n T s st = .ok c) := by
  obtain ⟨c4, h4⟩ := il_fw h
  obtain ⟨c3, h3, -⟩ := itm_ok h4
  obtain ⟨c2, h2, -⟩ := itm_ok (dmd_ok h3).1
  obtain ⟨c1, h1, -⟩ := itm_ok (dmd_ok h2).1
  obtain ⟨c0, h0, -⟩ := itm_ok h1
  exact ⟨⟨_, h0⟩, ⟨_, h1⟩, ⟨_, h2⟩, ⟨_, h3⟩, ⟨_, h4⟩⟩
theorem po_tg {b : Nat → Nat} (hb : ∀ i, b i < 256) {n a : Nat} (hn : n ≤ 400) (h : poS b n = .ok a) : TG n (poT b n) ∧ a ≤ n := by
  refine rp_tg hb hn h (fun j => ⟨by show 0 < _; decide, by show 0 < _; decide, by show 0 < _; decide, Nat.zero_le _, fun q => ?_⟩) (fun c hc => ?_)
  · exact absurd q (by show ¬ 0 = 1; decide)
  · obtain ⟨g, -, -, t⟩ := itm_ok (dmd_ok hc).1
    exact t
section CL
variable {MI : Nat → Nat → Int32} {ML : Nat → Nat → Int64} {Q : Nat → Nat} {b : Nat → Nat} {n s : Nat} {T : Nat → Ent}
theorem c46' (hs : MI 4 5 = nI s) (h64 : s ≤ 64) {x : Nat} (hx : x < 65536) (hP : PW b n s T MI ∨ x = 0) : xm_Ev xz 46 [.ref 4, .int (nI x)] (xM MI ML Q) (fun r => r = (some (.int (bI (nmd b T s x))), xM MI ML Q)) := by
  rcases hP with hP | rfl
  · exact c46 hP hx
  · have e : nmd b T s 0 = false := by
      unfold nmd kdo
      rw [if_neg (by omega)]
      rfl
    rw [e]
    have k0 : xm_Ev xz 23 [.ref 4, .int (nI 0)] (xM MI ML Q) (fun r => r = (some (.int 0), xM MI ML Q)) := by
      refine xm_in (xb23_0 ⟨_, c24 hs h64 (k := 0) (by decide), ?_⟩)
      rintro _ rfl
      rw [decide_eq_false (by omega)]
      exact xb23_5 ⟨fun _ => rfl, fun h => absurd rfl h⟩
    refine xm_in (xb46_0 ⟨_, k0, ?_⟩)
    rintro _ rfl
    exact xb46_5 ⟨fun h => absurd h (by decide), fun _ => ⟨Or.inl rfl, rfl⟩⟩
/-- a place behind which an item was read -/
theorem pl_ok {k : Nat} {st : St} {M : Nat → Nat → Int32} (hn : n ≤ 400) (hS : SS n st M) {a : Nat} (h : itm n k st = .ok a) : M 1 1 = nI (atS st) ∧ atS st ≤ 500 := by
  obtain ⟨g, t1, t2, t3⟩ := itm_ok h
  rw [t1] at hS ⊢
  exact ⟨hS.le.2.1, by have := hS.le.1; show g ≤ 500; omega⟩
theorem c45 (hb : ∀ i, b i < 256) (hD : Dr n (bBy b) MI) {st : St} (hS : SS n st MI) (hs : MI 4 5 = nI s) (h64 : s ≤ 64) (hP : ∀ a, st = .ok a → PW b n s T MI) : xm_Ev xz 45 [.ref 1] (xM MI ML Q) (fun r => ∃ M, r = (none, xM M ML Q) ∧ (∀ a j, ¬ (a = 1 ∧ j ≤ 8) → M a j = MI a j) ∧ SS n (cl5 b n T s st) M ∧ M 1 4 = nI (vl b n 2 st) ∧ M 1 5 = nI (vl b n 2 (cl1 n st)) ∧ M 1 6 = nI (vl b n 2 (cl2 b n T s st)) ∧ M 1 7 = nI (vl b n 2 (cl3 b n T s st)) ∧ ∀ a, cl5 b n T s st = .ok a → M 1 8 = nI (atS (cl4 b n T s st))) := by
  have hn := hD.1
  have hX : ∀ (M : Nat → Nat → Int32) (f : St → St), (∀ p, f (.error p) = .error p) → (∀ a j, 4 ≤ a → a ≤ 9 → M a j = MI a j) → PW b n s T M ∨ vl b n 2 (f st) = 0 := by
    intro M f hf hM
    cases st with
    | ok a => exact Or.inl ((hP a rfl).cg hM)
    | error p => exact Or.inr (by rw [hf]; rfl)
  have v0 := vl_lt hb n 2 st
  have v1 := vl_lt hb n 2 (cl1 n st)
  have v2 := vl_lt hb n 2 (cl2 b n T s st)
  have v3 := vl_lt hb n 2 (cl3 b n T s st)
  have drc : ∀ {M : Nat → Nat → Int32}, (∀ a j, ¬ (a = 1 ∧ j ≤ 8) → M a j = MI a j) → Dr n (bBy b) M := fun w => ⟨hn, (w 2 1 (by decide)).trans hD.2.1, fun i hi => (w 3 i (by omega)).trans (hD.2.2 i hi)⟩
  refine xm_in (xb45_0 ⟨_, c17 hb hD hS (k := 2) (by decide), ?_⟩)
  rintro _ ⟨M1, rfl, m1, m2⟩
  have a1 : ∀ x a j, ¬ (a = 1 ∧ j ≤ 8) → xm_up M1 1 4 x a j = MI a j := fun x a j q => by rw [up_n (by omega)]; exact m1 a j (by omega)
  have s1 : ∀ x, SS n (cl1 n st) (xm_up M1 1 4 x) := fun x => SS.cg m2 (up_n (by decide)) (up_n (by decide))
  refine xb45_6 ⟨_, c17 hb (drc (a1 _)) (s1 _) (k := 2) (by decide), ?_⟩
  rintro _ ⟨M2, rfl, m3, m4⟩
  have hl1 : M1 1 1 = xm_up M1 1 4 (nI (vl b n 2 st)) 1 1 := (up_n (by decide)).symm
  have a2 : ∀ x a j, ¬ (a = 1 ∧ j ≤ 8) → xm_up M2 1 5 x a j = MI a j := fun x a j q => by rw [up_n (by omega), m3 a j (by omega)]; exact a1 _ a j q
  refine xb45_20 ⟨_, c46' (T := T) (n := n) (b := b) ((a2 _ 4 5 (by decide)).trans hs) h64 v1 (hX _ (cl1 n) (fun _ => rfl) (fun a j q1 q2 => a2 _ a j (by omega))), ?_⟩
  rintro _ rfl
  have s2 : ∀ x, SS n (itm n 2 (cl1 n st)) (xm_up M2 1 5 x) := fun x => SS.cg m4 (up_n (by decide)) (up_n (by decide))
  refine xb45_35 ⟨_, c19 (p := atS (cl1 n st)) (s2 _) (fun c hc _ => ?_), ?_⟩
  · rw [hl1]
    exact pl_ok hn (s1 _) hc
  rintro _ ⟨M3, rfl, m5, m6⟩
  have m6 : SS n (cl2 b n T s st) M3 := m6
  have a3 : ∀ a j, ¬ (a = 1 ∧ j ≤ 8) → M3 a j = MI a j := fun a j q => by rw [m5 a j (by omega)]; exact a2 _ a j q
  have f4 : M3 1 4 = nI (vl b n 2 st) := by rw [m5 1 4 (by decide), up_n (by decide), m3 1 4 (by decide), up_s]
  have f5 : M3 1 5 = nI (vl b n 2 (cl1 n st)) := by rw [m5 1 5 (by decide), up_s]
  refine xb45_39 ⟨_, c17 hb (drc a3) m6 (k := 2) (by decide), ?_⟩
  rintro _ ⟨M4, rfl, m7, m8⟩
  have a4 : ∀ x a j, ¬ (a = 1 ∧ j ≤ 8) → xm_up M4 1 6 x a j = MI a j := fun x a j q => by rw [up_n (by omega), m7 a j (by omega)]; exact a3 a j q
  have s4 : ∀ x, SS n (itm n 2 (cl2 b n T s st)) (xm_up M4 1 6 x) := fun x => SS.cg m8 (up_n (by decide)) (up_n (by decide))
  have F4 : ∀ x, xm_up M4 1 6 x 1 4 = nI (vl b n 2 st) := fun x => by rw [up_n (by decide), m7 1 4 (by decide)]; exact f4
  have F5 : ∀ x, xm_up M4 1 6 x 1 5 = nI (vl b n 2 (cl1 n st)) := fun x => by rw [up_n (by decide), m7 1 5 (by decide)]; exact f5
  -- the loop
  have lp : ∀ (P : xm_R → Prop) (c : Nat), c < 65536 → ∀ (d i : Nat) (st : St) (M : Nat → Nat → Int32), i + d = c → Dr n (bBy b) M → SS n st M → M 1 7 = nI c → (∀ a, st = .ok a → PW b n s T M) → (∀ M', R1 M M' → SS n (il b n T s d st) M' → P (none, xM M' ML Q)) → xq45 P (103, [some (.ref 1), none, some (.int (nI i))], [], xM M ML Q, 0, 0) := by
    intro P c hc d
    induction d with
    | zero =>
      intro i st M hi hD hS h7 hP hF
      refine xb45_103 ?_
      rw [h7]
      exact pk_le c i (fun _ => hF M (R1.rf M) hS) (fun h => absurd h (by omega))
    | succ d ih =>
      intro i st M hi hD hS h7 hP hF
      refine xb45_103 ?_
      rw [h7]
      refine pk_le c i (fun h => absurd h (by omega)) (fun _ => ?_)
      cases st with
      | error p => exact ⟨fun h => absurd h hS.er, fun _ => hF M (R1.rf M) hS⟩
      | ok a =>
        obtain ⟨l1, l2, l3⟩ := hS.le
        have v := vl_lt hb n 2 (.ok a)
        refine ⟨fun _ => ⟨_, c17 hb hD hS (k := 2) (by decide), ?_⟩, fun h => absurd l3 h⟩
        rintro _ ⟨M1, rfl, k1, k2⟩
        refine xb45_134 ⟨_, c46 (k1.pw (hP a rfl)) v, ?_⟩
        rintro _ rfl
        refine xb45_137 ⟨_, c19 (p := a) k2 (fun _ _ _ => ⟨l2, by omega⟩), ?_⟩
        rintro _ ⟨M2, rfl, k3, k4⟩
        have r := k1.tr k3
        refine xb45_141 ?_
        rw [nI_1]
        exact ih (i + 1) _ M2 (by omega) (r.dr hD) k4 ((r 1 7 (by decide)).trans h7) (fun _ _ => r.pw (hP a rfl)) (fun M3 g1 g2 => hF M3 (r.tr g1) g2)
  -- behind the parent
  have tail : ∀ M5, (∀ a j, ¬ (a = 1 ∧ j ≤ 8) → M5 a j = MI a j) → SS n (cl3 b n T s st) M5 → M5 1 4 = nI (vl b n 2 st) → M5 1 5 = nI (vl b n 2 (cl1 n st)) → M5 1 6 = nI (vl b n 2 (cl2 b n T s st)) → xq45 (fun r => ∃ M, r = (none, xM M ML Q) ∧ (∀ a j, ¬ (a = 1 ∧ j ≤ 8) → M a j = MI a j) ∧ SS n (cl5 b n T s st) M ∧ M 1 4 = nI (vl b n 2 st) ∧ M 1 5 = nI (vl b n 2 (cl1 n st)) ∧ M 1 6 = nI (vl b n 2 (cl2 b n T s st)) ∧ M 1 7 = nI (vl b n 2 (cl3 b n T s st)) ∧ ∀ a, cl5 b n T s st = .ok a → M 1 8 = nI (atS (cl4 b n T s st))) (84, [some (.ref 1), none, none], [], xM M5 ML Q, 0, 0) := by
    intro M5 g1 g2 g3 g4 g5
    refine xb45_84 ⟨_, c17 hb (drc g1) g2 (k := 2) (by decide), ?_⟩
    rintro _ ⟨M6, rfl, k1, k2⟩
    have k2 : SS n (cl4 b n T s st) M6 := k2
    have up : ∀ x y a j, ¬ (a = 1 ∧ 7 ≤ j ∧ j ≤ 8) → xm_up (xm_up M6 1 7 x) 1 8 y a j = M6 a j := fun x y a j q => by rw [up_n (by omega), up_n (by omega)]
    have al : ∀ x y a j, ¬ (a = 1 ∧ j ≤ 8) → xm_up (xm_up M6 1 7 x) 1 8 y a j = MI a j := fun x y a j q => by rw [up _ _ a j (by omega), k1 a j (by omega)]; exact g1 a j q
    refine xb45_90 (lp _ (vl b n 2 (cl3 b n T s st)) v3 _ 0 (cl4 b n T s st) _ (by omega) (drc (al _ _)) (k2.cg (up _ _ 1 1 (by decide)) (up _ _ 1 2 (by decide))) (by rw [up_n (by decide), up_s]) (fun a ha => ?_) (fun M7 q1 q2 => ⟨M7, rfl, fun a j q => by rw [q1 a j (by omega)]; exact al _ _ a j q, q2, ?_, ?_, ?_, ?_, fun a ha => ?_⟩))
    · obtain ⟨c3, h3, -⟩ := itm_ok ha
      obtain ⟨c2, h2, -⟩ := itm_ok (dmd_ok h3).1
      obtain ⟨c1, h1, -⟩ := itm_ok (dmd_ok h2).1
      obtain ⟨c0, h0, -⟩ := itm_ok h1
      exact (hP c0 h0).cg (fun a j z1 z2 => al _ _ a j (by omega))
    · rw [q1 1 4 (by decide), up _ _ 1 4 (by decide), k1 1 4 (by decide)]; exact g3
    · rw [q1 1 5 (by decide), up _ _ 1 5 (by decide), k1 1 5 (by decide)]; exact g4
    · rw [q1 1 6 (by decide), up _ _ 1 6 (by decide), k1 1 6 (by decide)]; exact g5
    · rw [q1 1 7 (by decide), up_n (by decide), up_s]
    · obtain ⟨-, -, -, -, c, h4⟩ := cl_fw ha
      rw [q1 1 8 (by decide), up_s]
      rw [h4] at k2 ⊢
      exact k2.le.2.1
  have plc : ∀ (x a : Nat), itm n 2 (cl2 b n T s st) = .ok a → M3 1 1 = nI (atS (cl2 b n T s st)) ∧ atS (cl2 b n T s st) ≤ 500 := fun _ a h => pl_ok hn m6 h
  refine xb45_50 (pk_eq (vl b n 2 (cl2 b n T s st)) 0 (fun h0 => ⟨_, c19 (r := true) (p := atS (cl2 b n T s st)) (s4 _) (fun _ _ q => by cases q), ?_⟩) (fun h0 => ⟨_, c46' (T := T) (n := n) (b := b) ((a4 _ 4 5 (by decide)).trans hs) h64 v2 (hX _ (cl2 b n T s) (fun _ => rfl) (fun a j q1 q2 => a4 _ a j (by omega))), ?_⟩))
  · rintro _ ⟨M5, rfl, k1, k2⟩
    refine tail M5 (fun a j q => by rw [k1 a j (by omega)]; exact a4 _ a j q) ?_ (by rw [k1 1 4 (by decide)]; exact F4 _) (by rw [k1 1 5 (by decide)]; exact F5 _) (by rw [k1 1 6 (by decide), up_s])
    unfold cl3
    rw [decide_eq_true h0, Bool.true_or]
    exact k2
  · rintro _ rfl
    refine xb45_72 ⟨fun q => ⟨_, c19 (r := false) (p := atS (cl2 b n T s st)) (s4 _) (fun c hc _ => plc 0 c hc), ?_⟩, fun q => ⟨_, c19 (r := true) (p := atS (cl2 b n T s st)) (s4 _) (fun _ _ q => by cases q), ?_⟩⟩
    · rintro _ ⟨M5, rfl, k1, k2⟩
      rw [bI_0] at q
      refine tail M5 (fun a j q => by rw [k1 a j (by omega)]; exact a4 _ a j q) ?_ (by rw [k1 1 4 (by decide)]; exact F4 _) (by rw [k1 1 5 (by decide)]; exact F5 _) (by rw [k1 1 6 (by decide), up_s])
      unfold cl3
      rw [q, decide_eq_false h0]
      exact k2
    · rintro _ ⟨M5, rfl, k1, k2⟩
      rw [bI_ne] at q
      refine tail M5 (fun a j q => by rw [k1 a j (by omega)]; exact a4 _ a j q) ?_ (by rw [k1 1 4 (by decide)]; exact F4 _) (by rw [k1 1 5 (by decide)]; exact F5 _) (by rw [k1 1 6 (by decide), up_s])
      unfold cl3
      rw [q, Bool.or_true]
      exact k2
end CL
