def adv (m : Nat) : St → St
  | .ok a => .ok (a + m)
  | .error p => .error p
/-- attributes -/
def raT (b : Nat → Nat) (n : Nat) (T : Nat → Ent) (s : Nat) (a : Nat) : St := dmd (isT T s (vl b n 2 (.ok a))) a (itm n 2 (.ok a))
def raN (b : Nat → Nat) (n : Nat) (st1 : St) : St := adv (vl b n 4 st1) (dmd (decide (vl b n 4 st1 ≤ n - atS (itm n 4 st1))) (atS st1) (itm n 4 st1))
def ra (b : Nat → Nat) (n : Nat) (T : Nat → Ent) (s : Nat) : Nat → St → St
  | 0, st => st
  | _ + 1, .error p => .error p
  | d + 1, .ok a => ra b n T s d (raN b n (raT b n T s a))
def raS (b : Nat → Nat) (n : Nat) (T : Nat → Ent) (s : Nat) (st : St) : St := ra b n T s (vl b n 2 st) (itm n 2 st)
theorem ra_er (b : Nat → Nat) (n : Nat) (T : Nat → Ent) (s d p : Nat) : ra b n T s d (.error p) = .error p := by cases d <;> rfl
/-- members -/
def rm1 (b : Nat → Nat) (n : Nat) (T : Nat → Ent) (s : Nat) (a : Nat) : St := dmd (isT T s (vl b n 2 (itm n 2 (.ok a)))) (atS (itm n 2 (.ok a))) (itm n 2 (itm n 2 (.ok a)))
def rm2 (b : Nat → Nat) (n : Nat) (w : Nat → Bool) (st2 : St) : St := dmd (w (vl b n 2 st2)) (atS st2) (itm n 2 st2)
def updG (G : Nat → Nat × Nat) (m : Nat) (v : Nat × Nat) : Nat → Nat × Nat := fun i => if i = m then v else G i
def rm (b : Nat → Nat) (n : Nat) (T : Nat → Ent) (s : Nat) (w : Nat → Bool) : Nat → St → Nat → (Nat → Nat × Nat) → St × Nat × (Nat → Nat × Nat)
  | 0, st, m, G => (st, m, G)
  | _ + 1, .error p, m, G => (.error p, m, G)
  | d + 1, .ok a, m, G => rm b n T s w d (raS b n T s (rm2 b n w (rm1 b n T s a))) (m + 1) (updG G m (vl b n 2 (.ok a), vl b n 2 (rm1 b n T s a)))
def rmS (b : Nat → Nat) (n : Nat) (T : Nat → Ent) (s : Nat) (w : Nat → Bool) (st : St) (m : Nat) (G : Nat → Nat × Nat) : St × Nat × (Nat → Nat × Nat) := rm b n T s w (vl b n 2 st) (itm n 2 st) m G
theorem rm_er (b : Nat → Nat) (n : Nat) (T : Nat → Ent) (s : Nat) (w : Nat → Bool) (d p m : Nat) (G : Nat → Nat × Nat) : rm b n T s w d (.error p) m G = (.error p, m, G) := by cases d <;> rfl
/-- interfaces -/
def il (b : Nat → Nat) (n : Nat) (T : Nat → Ent) (s : Nat) : Nat → St → St
  | 0, st => st
  | _ + 1, .error p => .error p
  | d + 1, .ok a => il b n T s d (dmd (nmd b T s (vl b n 2 (.ok a))) a (itm n 2 (.ok a)))
theorem il_er (b : Nat → Nat) (n : Nat) (T : Nat → Ent) (s d p : Nat) : il b n T s d (.error p) = .error p := by cases d <;> rfl
theorem adv_ok {m a : Nat} {st : St} (h : adv m st = .ok a) : ∃ c, st = .ok c ∧ a = c + m := by
  cases st with
  | error q => cases h
  | ok c => cases h; exact ⟨c, rfl, rfl⟩
theorem raN_ok {b : Nat → Nat} {n a : Nat} {st : St} (h : raN b n st = .ok a) : ∃ c, st = .ok c ∧ c + 4 ≤ a ∧ a ≤ n := by
  obtain ⟨c, h1, h2⟩ := adv_ok h
  obtain ⟨h3, h4⟩ := dmd_ok h1
  obtain ⟨g, h5, h6, h7⟩ := itm_ok h3
  have h4 := of_decide_eq_true h4
  rw [h3] at h4
  have h4 : vl b n 4 st ≤ n - c := h4
  exact ⟨g, h5, by omega, by omega⟩
theorem ra_ok {b : Nat → Nat} {n : Nat} {T : Nat → Ent} {s : Nat} : ∀ {d : Nat} {st : St} {a : Nat}, ra b n T s d st = .ok a → ∃ c, st = .ok c ∧ c ≤ a
  | 0, st, a, h => ⟨a, h, Nat.le_refl a⟩
  | d + 1, .error p, a, h => by cases h
  | d + 1, .ok c, a, h => by
    obtain ⟨e, h1, h2⟩ := ra_ok (d := d) h
    obtain ⟨g, h3, h4, -⟩ := raN_ok h1
    obtain ⟨h5, -⟩ := dmd_ok h3
    obtain ⟨k, h6, h7, -⟩ := itm_ok h5
    cases h6
    exact ⟨c, rfl, by omega⟩
theorem nI_neg {v : Nat} (h1 : 2 ^ 31 ≤ v) (h2 : v < 2 ^ 32) : nI v < 0 := by
  rw [Int32.lt_iff_toInt_lt]
  show (BitVec.ofNat 32 v).toInt < 0
  rw [BitVec.toInt_eq_toNat_cond, BitVec.toNat_ofNat, Nat.mod_eq_of_lt h2]
  split <;> omega
section MB
variable {MI : Nat → Nat → Int32} {ML : Nat → Nat → Int64} {Q : Nat → Nat} {b : Nat → Nat} {n s : Nat} {T : Nat → Ent}
theorem l49 (hb : ∀ i, b i < 256) {P : xm_R → Prop} {c : Nat} (hc : c < 65536) : ∀ (d i : Nat) (st : St) (MI : Nat → Nat → Int32), i + d = c → Dr n (bBy b) MI → SS n st MI → (∀ a, st = .ok a → PW b n s T MI) → (∀ M, R1 MI M → SS n (ra b n T s d st) M → P (none, xM M ML Q)) → xq49 P (8, [some (.ref 1), some (.int (nI c)), some (.int (nI i)), none, none], [], xM MI ML Q, 0, 0) := by
  intro d
  induction d with
  | zero =>
    intro i st MI hi hD hS hP hF
    exact xb49_8 (pk_le c i (fun _ => hF MI (R1.rf MI) hS) (fun h => absurd h (by omega)))
  | succ d ih =>
    intro i st MI hi hD hS hP hF
    refine xb49_8 (pk_le c i (fun h => absurd h (by omega)) (fun _ => ?_))
    cases st with
    | error p => exact ⟨fun h => absurd h hS.er, fun _ => hF MI (R1.rf MI) hS⟩
    | ok a =>
      have hn := hD.1
      have hPW := hP a rfl
      obtain ⟨l1, l2, l3⟩ := hS.le
      have v2 := vl_lt hb n 2 (.ok a)
      refine ⟨fun _ => ⟨_, c17 hb hD hS (k := 2) (by decide), ?_⟩, fun h => absurd l3 h⟩
      rintro _ ⟨M, rfl, m1, m2⟩
      refine xb49_36 ⟨_, c43 (m1.pw hPW) v2, ?_⟩
      rintro _ rfl
      refine xb49_39 ⟨_, c19 (p := a) m2 (fun _ _ _ => ⟨l2, by omega⟩), ?_⟩
      rintro _ ⟨M2, rfl, k1, k2⟩
      have k2 : SS n (raT b n T s a) M2 := k2
      have r2 := m1.tr k1
      have hD2 := r2.dr hD
      obtain ⟨st1, e1⟩ : ∃ st1, st1 = raT b n T s a := ⟨_, rfl⟩
      have eR : ra b n T s (d + 1) (.ok a) = ra b n T s d (raN b n st1) := by rw [e1]; rfl
      rw [← e1] at k2
      rw [eR] at hF
      refine xb49_43 ⟨_, c17 hb hD2 k2 (k := 4) (by decide), ?_⟩
      rintro _ ⟨M3, rfl, k3, k4⟩
      have r3 := r2.tr k3
      have v4 := vl_lt hb n 4 st1
      -- the last steps
      have go : ∀ z : Bool, (∀ c, itm n 4 st1 = .ok c → z = decide (vl b n 4 st1 ≤ n - c)) → ∃ P0 : xm_R → Prop, xm_Ev xz 19 [.ref 1, .int (bI z), .int (M2 1 1)] (xM M3 ML Q) P0 ∧ ∀ r, P0 r → xq49 P (xm_bk 87 [some (.ref 1), some (.int (nI c)), some (.int (nI i)), none, some (.int (nI (vl b n 4 st1)))] [] 0 0 r) := by
        intro z hz
        refine ⟨_, c19 (p := atS st1) k4 (fun c hc' _ => ?_), ?_⟩
        · obtain ⟨g, t1, t2, t3⟩ := itm_ok hc'
          rw [t1] at k2 ⊢
          exact ⟨k2.le.2.1, by have := k2.le.1; show g ≤ 500; omega⟩
        · rintro _ ⟨M4, rfl, k5, k6⟩
          have r4 := r3.tr k5
          have ez : dmd z (atS st1) (itm n 4 st1) = dmd (decide (vl b n 4 st1 ≤ n - atS (itm n 4 st1))) (atS st1) (itm n 4 st1) := by
            cases hi4 : itm n 4 st1 with
            | error p => rfl
            | ok c => rw [hz c hi4]; rfl
          rw [ez] at k6
          have eN : raN b n st1 = adv (vl b n 4 st1) (dmd (decide (vl b n 4 st1 ≤ n - atS (itm n 4 st1))) (atS st1) (itm n 4 st1)) := rfl
          cases hd : dmd (decide (vl b n 4 st1 ≤ n - atS (itm n 4 st1))) (atS st1) (itm n 4 st1) with
          | error p =>
            rw [hd] at k6 eN
            refine xb49_87 ⟨fun h => absurd h k6.er, fun _ => ?_⟩
            rw [nI_1]
            rw [eN] at hF
            exact ih (i + 1) _ M4 (by omega) (r4.dr hD) k6 (fun a' h => by cases h) (fun M5 g1 g2 => hF M5 (r4.tr g1) g2)
          | ok c' =>
            rw [hd] at k6 eN
            obtain ⟨w1, w2, w3⟩ := k6.le
            obtain ⟨u1, u2⟩ := dmd_ok hd
            rw [u1] at u2
            have u2 : vl b n 4 st1 ≤ n - c' := of_decide_eq_true u2
            refine xb49_87 ⟨fun _ => ?_, fun h => absurd w3 h⟩
            rw [nI_1, w2, nI_add]
            rw [eN] at hF
            have r5 : R1 M4 (xm_up M4 1 1 (nI (c' + vl b n 4 st1))) := fun a j q => up_n (by omega)
            have r6 := r4.tr r5
            refine ih (i + 1) (.ok (c' + vl b n 4 st1)) _ (by omega) (r6.dr hD) ⟨c' + vl b n 4 st1, up_s _ _ _ _, by omega, rfl, ?_⟩ (fun _ _ => r6.pw hPW) (fun M5 g1 g2 => hF M5 (r6.tr g1) g2)
            rw [up_n (by decide)]
            exact w3
      have hlen : M3 2 1 = nI n := (r3 2 1 (by decide)).trans hD.2.1
      obtain ⟨at3, x1, x2, x3⟩ := k4
      by_cases hbig : vl b n 4 st1 < 2 ^ 31
      · refine xb49_53 ⟨fun h => absurd h (nI_pos hbig), fun _ => ?_⟩
        rw [hlen, x1, pk_sub x2]
        refine pk_lt (n - at3) (vl b n 4 st1) (fun h => go false (fun c hc' => ?_)) (fun h => go true (fun c hc' => ?_))
        · rw [hc'] at x3
          obtain ⟨y1, -⟩ := x3.ok
          rw [decide_eq_false (by omega)]
        · rw [hc'] at x3
          obtain ⟨y1, -⟩ := x3.ok
          rw [decide_eq_true (by omega)]
      · refine xb49_53 ⟨fun _ => go false (fun c hc' => ?_), fun h => absurd (nI_neg (by omega) (by omega)) h⟩
        rw [decide_eq_false (by omega)]
theorem c49 (hb : ∀ i, b i < 256) (hD : Dr n (bBy b) MI) {st : St} (hS : SS n st MI) (hP : ∀ a, st = .ok a → PW b n s T MI) : xm_Ev xz 49 [.ref 1] (xM MI ML Q) (fun r => ∃ M, r = (none, xM M ML Q) ∧ R1 MI M ∧ SS n (raS b n T s st) M) := by
  have v2 := vl_lt hb n 2 st
  refine xm_in (xb49_0 ⟨_, c17 hb hD hS (k := 2) (by decide), ?_⟩)
  rintro _ ⟨M, rfl, m1, m2⟩
  refine xb49_5 (l49 (s := s) (T := T) hb v2 (vl b n 2 st) 0 _ M (by omega) (m1.dr hD) m2 (fun a ha => ?_) (fun M2 g1 g2 => ⟨M2, rfl, m1.tr g1, g2⟩))
  obtain ⟨c, t1, -⟩ := itm_ok ha
  exact m1.pw (hP c t1)
/-- off the members' rows -/
def RM (MI M : Nat → Nat → Int32) : Prop := ∀ a j, ¬ (a = 1 ∧ (j ≤ 2 ∨ j = 10)) → a ≠ 10 → a ≠ 11 → M a j = MI a j
theorem RM.tr {A B C : Nat → Nat → Int32} (h : RM A B) (h' : RM B C) : RM A C := fun a j q q' q'' => (h' a j q q' q'').trans (h a j q q' q'')
theorem R1.rm {A B : Nat → Nat → Int32} (h : R1 A B) : RM A B := fun a j q _ _ => h a j (by omega)
theorem RM.dr {A B : Nat → Nat → Int32} (h : RM A B) {n : Nat} {c : Nat → Int32} (hD : Dr n c A) : Dr n c B := ⟨hD.1, (h 2 1 (by decide) (by decide) (by decide)).trans hD.2.1, fun i hi => (h 3 i (by omega) (by omega) (by omega)).trans (hD.2.2 i hi)⟩
theorem RM.pw {A B : Nat → Nat → Int32} (h : RM A B) {b : Nat → Nat} {n s : Nat} {T : Nat → Ent} (hp : PW b n s T A) : PW b n s T B := hp.cg (fun a j q1 q2 => h a j (by omega) (by omega) (by omega))
/-- the members that were kept -/
def MD (m : Nat) (G : Nat → Nat × Nat) (MI : Nat → Nat → Int32) : Prop := MI 1 10 = nI m ∧ ∀ i, i < m → MI 10 i = nI (G i).1 ∧ MI 11 i = nI (G i).2
theorem R1.md {A B : Nat → Nat → Int32} (h : R1 A B) {m : Nat} {G : Nat → Nat × Nat} (hm : MD m G A) : MD m G B := ⟨(h 1 10 (by decide)).trans hm.1, fun i hi => by rw [h 10 i (by omega), h 11 i (by omega)]; exact hm.2 i hi⟩
theorem rm2_ok {w : Nat → Bool} {a a' : Nat} (h : rm2 b n w (rm1 b n T s a) = .ok a') : a' = a + 6 ∧ a' ≤ n ∧ isT T s (vl b n 2 (itm n 2 (.ok a))) = true ∧ w (vl b n 2 (rm1 b n T s a)) = true := by
  obtain ⟨h1, h2⟩ := dmd_ok h
  obtain ⟨c, h3, h4, h5⟩ := itm_ok h1
  obtain ⟨h6, h7⟩ := dmd_ok h3
  obtain ⟨c2, h8, h9, -⟩ := itm_ok h6
  obtain ⟨c3, h10, h11, -⟩ := itm_ok h8
  cases h10
  exact ⟨by omega, h5, h7, h2⟩
theorem l47 (hb : ∀ i, b i < 256) {P : xm_R → Prop} {wc : Int32} {w : Nat → Bool} (hw : ∀ (MI : Nat → Nat → Int32) x, PW b n s T MI → x < 65536 → xm_Ev xz 42 [.ref 4, .int (nI x), .int wc] (xM MI ML Q) (fun r => r = (some (.int (bI (w x))), xM MI ML Q))) {c : Nat} (hc : c < 65536) : ∀ (d i : Nat) (st : St) (m : Nat) (G : Nat → Nat × Nat) (MI : Nat → Nat → Int32), i + d = c → Dr n (bBy b) MI → SS n st MI → (∀ a, st = .ok a → PW b n s T MI ∧ MD m G MI ∧ 8 * m ≤ a) → (∀ M, RM MI M → SS n (rm b n T s w d st m G).1 M → (∀ a, (rm b n T s w d st m G).1 = .ok a → MD (rm b n T s w d st m G).2.1 (rm b n T s w d st m G).2.2 M ∧ 8 * (rm b n T s w d st m G).2.1 ≤ a) → P (none, xM M ML Q)) → xq47 P (8, [some (.ref 1), some (.int wc), some (.int (nI c)), some (.int (nI i)), none, none, none], [], xM MI ML Q, 0, 0) := by
  intro d
  induction d with
  | zero =>
    intro i st m G MI hi hD hS hP hF
    exact xb47_8 (pk_le c i (fun _ => hF MI (fun _ _ _ _ _ => rfl) hS (fun a ha => (hP a ha).2)) (fun h => absurd h (by omega)))
  | succ d ih =>
    intro i st m G MI hi hD hS hP hF
    refine xb47_8 (pk_le c i (fun h => absurd h (by omega)) (fun _ => ?_))
    cases st with
    | error p => exact ⟨fun h => absurd h hS.er, fun _ => hF MI (fun _ _ _ _ _ => rfl) hS (fun a ha => by cases ha)⟩
    | ok a =>
      have hn := hD.1
      obtain ⟨hPW, hMD, h8⟩ := hP a rfl
      obtain ⟨l1, l2, l3⟩ := hS.le
      have v1 := vl_lt hb n 2 (itm n 2 (.ok a))
      have v2 := vl_lt hb n 2 (rm1 b n T s a)
      refine ⟨fun _ => ⟨_, c17 hb hD hS (k := 2) (by decide), ?_⟩, fun h => absurd l3 h⟩
      rintro _ ⟨M1, rfl, m1, m2⟩
      refine xb47_26 ⟨_, c17 hb (m1.dr hD) m2 (k := 2) (by decide), ?_⟩
      rintro _ ⟨M2, rfl, m3, m4⟩
      have r2 := m1.tr m3
      refine xb47_44 ⟨_, c43 (r2.pw hPW) v1, ?_⟩
      rintro _ rfl
      refine xb47_47 ⟨_, c19 (p := atS (itm n 2 (.ok a))) m4 (fun c' hc' _ => ?_), ?_⟩
      · obtain ⟨g, t1, t2, t3⟩ := itm_ok hc'
        rw [t1] at m2 ⊢
        exact ⟨m2.le.2.1, by have := m2.le.1; show g ≤ 500; omega⟩
      rintro _ ⟨M3, rfl, m5, m6⟩
      have m6 : SS n (rm1 b n T s a) M3 := m6
      have r3 := r2.tr m5
      refine xb47_52 ⟨_, c17 hb (r3.dr hD) m6 (k := 2) (by decide), ?_⟩
      rintro _ ⟨M4, rfl, m7, m8⟩
      have r4 := r3.tr m7
      refine xb47_63 ⟨_, hw M4 _ (r4.pw hPW) v2, ?_⟩
      rintro _ rfl
      refine xb47_76 ⟨_, c19 (p := atS (rm1 b n T s a)) m8 (fun c' hc' _ => ?_), ?_⟩
      · obtain ⟨g, t1, t2, t3⟩ := itm_ok hc'
        rw [t1] at m6 ⊢
        exact ⟨m6.le.2.1, by have := m6.le.1; show g ≤ 500; omega⟩
      rintro _ ⟨M5, rfl, m9, m10⟩
      have m10 : SS n (rm2 b n w (rm1 b n T s a)) M5 := m10
      have r5 := r4.tr m9
      have eR : rm b n T s w (d + 1) (.ok a) m G = rm b n T s w d (raS b n T s (rm2 b n w (rm1 b n T s a))) (m + 1) (updG G m (vl b n 2 (.ok a), vl b n 2 (rm1 b n T s a))) := rfl
      rw [eR] at hF
      -- keeping
      have keep : ∃ M6, xm_Ev xz 48 [.ref 1, .int (nI (vl b n 2 (.ok a))), .int (nI (vl b n 2 (rm1 b n T s a)))] (xM M5 ML Q) (fun r => r = (none, xM M6 ML Q)) ∧ RM M5 M6 ∧ M6 1 1 = M5 1 1 ∧ M6 1 2 = M5 1 2 ∧ ∀ a', rm2 b n w (rm1 b n T s a) = .ok a' → MD (m + 1) (updG G m (vl b n 2 (.ok a), vl b n 2 (rm1 b n T s a))) M6 := by
        cases hst : rm2 b n w (rm1 b n T s a) with
        | error p =>
          rw [hst] at m10
          exact ⟨M5, xm_in (xb48_0 ⟨fun h => absurd h m10.er, fun _ => rfl⟩), fun _ _ _ _ _ => rfl, rfl, rfl, fun a' h => by cases h⟩
        | ok a' =>
          obtain ⟨q1, q2, -⟩ := rm2_ok hst
          rw [hst] at m10
          have hm := (r5.md hMD)
          have cl : (nI m).toNatClampNeg = m := nI_clamp (by omega)
          refine ⟨xm_up (xm_up (xm_up M5 10 m (nI (vl b n 2 (.ok a)))) 11 m (nI (vl b n 2 (rm1 b n T s a)))) 1 10 (nI (m + 1)), xm_in (xb48_0 ⟨fun _ => ?_, fun h => absurd m10.le.2.2 h⟩), fun a j q q' q'' => ?_, ?_, ?_, fun a'' _ => ⟨up_s _ _ _ _, fun i hi => ?_⟩⟩
          · rw [hm.1, cl, nI_1]
            exact pk_le 50 m (fun h => absurd h (by omega)) (fun _ => ⟨vp_in_nI (by omega) (by decide), vp_in_nI (by omega) (by decide), rfl⟩)
          · rw [up_n (by omega), up_n (by omega), up_n (by omega)]
          · rw [up_n (by omega), up_n (by omega), up_n (by omega)]
          · rw [up_n (by omega), up_n (by omega), up_n (by omega)]
          · unfold updG
            by_cases him : i = m
            · subst him
              rw [if_pos rfl, up_n (by omega), up_n (by omega), up_s, up_n (by omega), up_s]
              exact ⟨rfl, rfl⟩
            · rw [if_neg him, up_n (by omega), up_n (by omega), up_n (by omega), up_n (by omega), up_n (by omega), up_n (by omega)]
              exact hm.2 i (by omega)
      obtain ⟨M6, k1, k2, k3, k4, k5⟩ := keep
      refine xb47_81 ⟨_, k1, ?_⟩
      rintro _ rfl
      have r6 : RM MI M6 := r5.rm.tr k2
      refine xb47_89 ⟨_, c49 hb (r6.dr hD) (m10.cg k3 k4) (fun _ _ => r6.pw hPW), ?_⟩
      rintro _ ⟨M7, rfl, k6, k7⟩
      have r7 := r6.tr k6.rm
      refine xb47_93 ?_
      rw [nI_1]
      refine ih (i + 1) _ (m + 1) _ M7 (by omega) (r7.dr hD) k7 (fun a' ha => ⟨r7.pw hPW, ?_⟩) (fun M8 g1 g2 g3 => hF M8 (r7.tr g1) g2 g3)
      obtain ⟨c1, t1, t2⟩ := ra_ok ha
      obtain ⟨c2, t3, t4, -⟩ := itm_ok t1
      obtain ⟨q1, q2, -⟩ := rm2_ok t3
      exact ⟨k6.md (k5 c2 t3), by omega⟩
theorem c47 (hb : ∀ i, b i < 256) {wc : Int32} {w : Nat → Bool} (hw : ∀ (MI : Nat → Nat → Int32) x, PW b n s T MI → x < 65536 → xm_Ev xz 42 [.ref 4, .int (nI x), .int wc] (xM MI ML Q) (fun r => r = (some (.int (bI (w x))), xM MI ML Q))) (hD : Dr n (bBy b) MI) {st : St} {m : Nat} {G : Nat → Nat × Nat} (hS : SS n st MI) (hP : ∀ a, st = .ok a → PW b n s T MI ∧ MD m G MI ∧ 8 * m ≤ a) : xm_Ev xz 47 [.ref 1, .int wc] (xM MI ML Q) (fun r => ∃ M, r = (none, xM M ML Q) ∧ RM MI M ∧ SS n (rmS b n T s w st m G).1 M ∧ (∀ a, (rmS b n T s w st m G).1 = .ok a → MD (rmS b n T s w st m G).2.1 (rmS b n T s w st m G).2.2 M ∧ 8 * (rmS b n T s w st m G).2.1 ≤ a)) := by
  have v2 := vl_lt hb n 2 st
  refine xm_in (xb47_0 ⟨_, c17 hb hD hS (k := 2) (by decide), ?_⟩)
  rintro _ ⟨M, rfl, m1, m2⟩
  refine xb47_5 (l47 hb hw v2 (vl b n 2 st) 0 _ m G M (by omega) (m1.dr hD) m2 (fun a ha => ?_) (fun M2 g1 g2 g3 => ⟨M2, rfl, m1.rm.tr g1, g2, g3⟩))
  obtain ⟨c, t1, t2, -⟩ := itm_ok ha
  obtain ⟨q1, q2, q3⟩ := hP c t1
  exact ⟨m1.pw q1, m1.md q2, by omega⟩
end MB
