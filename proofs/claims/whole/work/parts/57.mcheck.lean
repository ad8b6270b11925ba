/-- the reference's pool, read to its end -/
def QW (n s : Nat) (T : Nat → Ent) (MI : Nat → Nat → Int32) : Prop := MI 45 4 = nI s ∧ s ≤ 64 ∧ TG n T ∧ QD T MI
theorem M1.qw {A B : Nat → Nat → Int32} (h : M1 A B) {n s : Nat} {T : Nat → Ent} (hq : QW n s T A) : QW n s T B := ⟨(h 45 4 (by decide)).trans hq.1, hq.2.1, hq.2.2.1, h.qd hq.2.2.2⟩
theorem QW.cg {n s : Nat} {T : Nat → Ent} {A B : Nat → Nat → Int32} (hq : QW n s T A) (h4 : B 45 4 = A 45 4) (h : ∀ a j, 47 ≤ a → a ≤ 51 → B a j = A a j) : QW n s T B := ⟨h4.trans hq.1, hq.2.1, hq.2.2.1, fun j q1 q2 => (hq.2.2.2 j q1 q2).cg (fun a z1 z2 => h a j z1 z2)⟩
/-- texts by the reference's sorts -/
def txB (b : Nat → Nat) (T : Nat → Ent) (s so x : Nat) : Bool := if so = 0 then isT T s x else if so = 1 then isF T s x else if so = 2 then isY b T s x else if so = 3 then isM b T s x else if so = 4 then (isY b T s x || isM b T s x) else (isC b T s x || isA b T s x)
theorem txB_no {b : Nat → Nat} {T : Nat → Ent} {s so x : Nat} (h : ¬ kdo T s x = 1) : txB b T s so x = false := by
  unfold txB isT isF isY isM isC isA
  rw [decide_eq_false h]
  split; rfl
  split; rfl
  split; rfl
  split; rfl
  split; rfl
  rfl
/-- the classes of a checked pool are names or arrays -/
def CKd (b : Nat → Nat) (T : Nat → Ent) (s : Nat) : Prop := ∀ j, 1 ≤ j → j < s → ckE b T s j (.ok 0) = .ok 0
theorem ckE_ok {b : Nat → Nat} {T : Nat → Ent} {s k a c : Nat} (h : ckE b T s k (.ok a) = .ok c) : c = a ∧ ckE b T s k (.ok 0) = .ok 0 := by
  unfold ckE at h ⊢
  split at h
  · rename_i q
    obtain ⟨h1, h2⟩ := dmd_ok h
    cases h1
    rw [if_pos q, h2]
    exact ⟨rfl, rfl⟩
  · rename_i q
    rw [if_neg q]
    split at h
    · rename_i q
      obtain ⟨h1, h2⟩ := dmd_ok h
      cases h1
      rw [if_pos q, h2]
      exact ⟨rfl, rfl⟩
    · rename_i q
      rw [if_neg q]
      split at h
      · rename_i q
        obtain ⟨h1, h2⟩ := dmd_ok h
        obtain ⟨h3, h4⟩ := dmd_ok h1
        cases h3
        rw [if_pos q, h2, h4]
        exact ⟨rfl, rfl⟩
      · rename_i q
        rw [if_neg q]
        split at h
        · rename_i q
          obtain ⟨h1, h2⟩ := dmd_ok h
          obtain ⟨h3, h4⟩ := dmd_ok h1
          cases h3
          rw [if_pos q, h2, h4]
          exact ⟨rfl, rfl⟩
        · rename_i q
          rw [if_neg q]
          cases h
          exact ⟨rfl, rfl⟩
theorem ck_all {b : Nat → Nat} {T : Nat → Ent} {s : Nat} : ∀ {d k : Nat} {st : St} {a : Nat}, ck b T s d k st = .ok a → st = .ok a ∧ ∀ j, k ≤ j → j < k + d → ckE b T s j (.ok 0) = .ok 0
  | 0, k, st, a, h => ⟨h, fun j q1 q2 => by omega⟩
  | d + 1, k, .error p, a, h => by cases h
  | d + 1, k, .ok c, a, h => by
    obtain ⟨h1, h2⟩ := ck_all (d := d) (k := k + 1) h
    obtain ⟨h3, h4⟩ := ckE_ok h1
    subst h3
    refine ⟨rfl, fun j q1 q2 => ?_⟩
    by_cases hj : j = k
    · subst hj; exact h4
    · exact h2 j (by omega) (by omega)
theorem ck_CKd {b : Nat → Nat} {T : Nat → Ent} {s a : Nat} {st : St} (h : ck b T s (s - 1) 1 st = .ok a) : CKd b T s := fun j q1 q2 => (ck_all h).2 j q1 (by omega)
theorem CKd.c7 {b : Nat → Nat} {T : Nat → Ent} {s j : Nat} (h : CKd b T s) (h1 : 1 ≤ j) (h2 : j < s) (h7 : (T j).kd = 7) : (isC b T s (T j).f || isA b T s (T j).f) = true := by
  have := h j h1 h2
  unfold ckE at this
  rw [if_pos h7] at this
  exact (dmd_ok this).2
theorem CKd.c12 {b : Nat → Nat} {T : Nat → Ent} {s j : Nat} (h : CKd b T s) (h1 : 1 ≤ j) (h2 : j < s) (h7 : (T j).kd = 12) : (isY b T s (T j).s || isM b T s (T j).s) = true := by
  have := h j h1 h2
  unfold ckE at this
  rw [if_neg (by omega), if_neg (by omega), if_neg (by omega), if_pos h7] at this
  exact (dmd_ok this).2
theorem isC_sp {b : Nat → Nat} {T : Nat → Ent} {s x : Nat} (h : isC b T s x = true) : 1 ≤ x ∧ x < s ∧ (T x).kd = 1 ∧ (T x).f < (T x).s ∧ ¬ bBy b (T x).f = 91 := by
  unfold isC at h
  rw [Bool.and_eq_true] at h
  obtain ⟨q1, q2, q3⟩ := kdo_in (of_decide_eq_true h.1) (by decide)
  have h2 := h.2
  unfold cE cn at h2
  rw [Bool.and_eq_true] at h2
  have h3 := h2.2
  refine ⟨q1, q2, q3, ?_⟩
  cases hd : (T x).s - (T x).f with
  | zero => rw [hd] at h3; cases h3
  | succ d =>
    refine ⟨by omega, fun q => ?_⟩
    rw [hd, cnF, if_neg (by rw [q]; decide), q] at h3
    cases h3
theorem isA_sp {b : Nat → Nat} {T : Nat → Ent} {s x : Nat} (h : isA b T s x = true) : 1 ≤ x ∧ x < s ∧ (T x).kd = 1 ∧ (T x).f < (T x).s ∧ bBy b (T x).f = 91 := by
  unfold isA at h
  rw [Bool.and_eq_true, Bool.and_eq_true] at h
  obtain ⟨q1, q2, q3⟩ := kdo_in (of_decide_eq_true h.1) (by decide)
  have h2 := te_bd (of_decide_eq_true h.2.1)
  exact ⟨q1, q2, q3, by omega, of_decide_eq_true h.2.2⟩
section MC
variable {MI : Nat → Nat → Int32} {ML : Nat → Nat → Int64} {Q : Nat → Nat} {b : Nat → Nat} {n s : Nat} {T : Nat → Ent}
theorem c126 (hQ : QW n s T MI) {x : Nat} (hx : x < 65536) : xm_Ev xz 126 [.ref 45, .int (nI x)] (xM MI ML Q) (fun r => r = (some (.int (nI (kdo T s x))), xM MI ML Q)) := by
  have h64 := hQ.2.1
  refine xm_in (xb126_0 ?_)
  rw [hQ.1]
  unfold kdo
  refine pk_lt x 1 (fun h => ?_) (fun h => pk_lt x s (fun h2 => ⟨vp_in_nI (by omega) (by decide), ?_⟩) (fun h2 => ?_))
  · rw [if_neg (by omega)]; rfl
  · rw [if_pos ⟨h, h2⟩, nI_clamp (by omega), (hQ.2.2.2 x h (by omega)).1]
  · rw [if_neg (by omega)]; rfl
theorem c125 (hD : Dm n (bBy b) MI) (hQ : QW n s T MI) {x so : Nat} (hx : x < 65536) (hso : so ≤ 5) : xm_Ev xz 125 [.ref 45, .int (nI x), .int (nI so)] (xM MI ML Q) (fun r => r = (some (.int (bI (txB b T s so x))), xM MI ML Q)) := by
  have h64 := hQ.2.1
  have hn := hD.1
  have kl := kdo_lt (s := s) hQ.2.2.1 x
  refine xm_in (xb125_0 ⟨_, c126 hQ hx, ?_⟩)
  rintro _ rfl
  refine xb125_5 (pk_eq (kdo T s x) 1 (fun h => ?_) (fun h => ⟨Or.inl rfl, by rw [txB_no h]; rfl⟩))
  obtain ⟨q1, q2, q3⟩ := kdo_in h (by decide)
  obtain ⟨t1, t2, t3, t4, t5⟩ := hQ.2.2.1 x
  obtain ⟨t6, t7⟩ := t5 q3
  obtain ⟨-, e1, -, -⟩ := hQ.2.2.2 x q1 (by omega)
  obtain ⟨e2, e3⟩ := e1 q3
  have es : nI (T x).f + nI ((T x).s - (T x).f) = nI (T x).s := by rw [nI_add]; congr 1; omega
  rw [nI_clamp (by omega), e2, e3, es]
  refine ⟨vp_in_nI (by omega) (by decide), vp_in_nI (by omega) (by decide), _, c127 hD t7 ((T x).s - (T x).f) (T x).f (by omega), ?_⟩
  rintro _ rfl
  have ko := oI_eq (o := te (bBy b) ((T x).s - (T x).f) (T x).f) (t := (T x).s) (by omega) (fun e he => by have := te_bd he; omega)
  have hk : decide (kdo T s x = 1) = true := decide_eq_true h
  have m3 : so = 3 → xm_Ev xz 132 [.ref 45, .int (nI (T x).f), .int (nI (T x).s)] (xM MI ML Q) (fun r => xq125 (fun r => r = (some (.int (bI (txB b T s so x))), xM MI ML Q)) (xm_bk 108 [none, none, none, none, none, none] [] 0 0 r)) := fun h3 => by
    refine (c132 hD t6 t7).imp ?_
    rintro _ rfl
    refine xb125_108 ⟨bI01 _, ?_⟩
    unfold txB isM mE
    rw [if_neg (by omega), if_neg (by omega), if_neg (by omega), if_pos h3, hk, Bool.true_and]
  refine xb125_35 ⟨fun q => ?_, fun q => ?_⟩
  · rw [ko] at q
    have q' : tE b (T x) = true := decide_eq_true q
    have bd := te_bd q
    refine pk_eq so 0 (fun h0 => ⟨Or.inr rfl, ?_⟩) (fun h0 => pk_eq so 1 (fun h1 => pk_le (T x).s (T x).f (fun g => by omega) (fun g => ⟨Or.inr rfl, ?_⟩)) (fun h1 => pk_eq so 2 (fun h2 => ⟨Or.inr rfl, ?_⟩) (fun h2 => pk_eq so 3 (fun h3 => ⟨_, m3 h3, fun _ z => z⟩) (fun h3 => pk_eq so 4 (fun h4 => ⟨fun g => absurd g (by decide), fun _ => ⟨Or.inr rfl, ?_⟩⟩) (fun h4 => ⟨_, c130 hD t6 t7, ?_⟩)))))
    · unfold txB isT
      rw [if_pos h0, hk]; rfl
    · unfold txB isF
      rw [if_neg h0, if_pos h1, hk, decide_eq_true g]; rfl
    · unfold txB isY
      rw [if_neg h0, if_neg h1, if_pos h2, hk, q']; rfl
    · unfold txB isY
      rw [if_neg h0, if_neg h1, if_neg h2, if_neg h3, if_pos h4, hk, q']; rfl
    · rintro _ rfl
      have et : txB b T s so x = (cE b (T x) || aE b (T x)) := by
        unfold txB isC isA
        rw [if_neg h0, if_neg h1, if_neg h2, if_neg h3, if_neg h4, hk, q', Bool.true_and, Bool.true_and, Bool.true_and]
      rw [et]
      refine xb125_137 ⟨fun g => ⟨fun g2 => absurd g2 (by decide), fun _ => ⟨vp_in_nI (by omega) (by decide), ?_⟩⟩, fun g => ⟨Or.inr rfl, ?_⟩⟩
      · rw [bI_0] at g
        have g : cE b (T x) = false := g
        rw [nI_clamp (by omega), hD.2.2 _ (by omega), g, Bool.false_or]
        refine ⟨fun w => ⟨Or.inr rfl, ?_⟩, fun w => ⟨Or.inl rfl, ?_⟩⟩
        · unfold aE; rw [decide_eq_true w]; rfl
        · unfold aE; rw [decide_eq_false w]; rfl
      · rw [bI_ne] at g
        have g : cE b (T x) = true := g
        rw [g]; rfl
  · rw [ko] at q
    have q' : tE b (T x) = false := decide_eq_false q
    refine pk_eq so 0 (fun h0 => ⟨Or.inr rfl, ?_⟩) (fun h0 => pk_eq so 1 (fun h1 => pk_le (T x).s (T x).f (fun g => ⟨Or.inl rfl, ?_⟩) (fun g => ⟨Or.inr rfl, ?_⟩)) (fun h1 => pk_eq so 2 (fun h2 => ⟨Or.inl rfl, ?_⟩) (fun h2 => pk_eq so 3 (fun h3 => ⟨_, m3 h3, fun _ z => z⟩) (fun h3 => pk_eq so 4 (fun h4 => ⟨fun _ => ⟨_, c132 hD t6 t7, ?_⟩, fun g => absurd rfl g⟩) (fun h4 => ⟨_, c130 hD t6 t7, ?_⟩)))))
    · unfold txB isT
      rw [if_pos h0, hk]; rfl
    · unfold txB isF
      rw [if_neg h0, if_pos h1, hk, decide_eq_false (by omega)]; rfl
    · unfold txB isF
      rw [if_neg h0, if_pos h1, hk, decide_eq_true g]; rfl
    · unfold txB isY
      rw [if_neg h0, if_neg h1, if_pos h2, hk, q']; rfl
    · rintro _ rfl
      have et : txB b T s so x = mtB (bBy b) (T x).f (T x).s := by
        unfold txB isY isM mE
        rw [if_neg h0, if_neg h1, if_neg h2, if_neg h3, if_pos h4, hk, q', Bool.true_and, Bool.true_and, Bool.false_or]
      rw [et]
      refine xb125_121 ⟨fun g => ⟨Or.inl rfl, ?_⟩, fun g => ⟨Or.inr rfl, ?_⟩⟩
      · rw [bI_0] at g; rw [g]; rfl
      · rw [bI_ne] at g; rw [g]; rfl
    · rintro _ rfl
      have et : txB b T s so x = cE b (T x) := by
        unfold txB isC isA
        rw [if_neg h0, if_neg h1, if_neg h2, if_neg h3, if_neg h4, hk, q', Bool.true_and, Bool.true_and, Bool.false_and, Bool.or_false]
      rw [et]
      refine xb125_137 ⟨fun g => ⟨fun _ => ⟨Or.inl rfl, ?_⟩, fun g2 => absurd rfl g2⟩, fun g => ⟨Or.inr rfl, ?_⟩⟩
      · rw [bI_0] at g
        have g : cE b (T x) = false := g
        rw [g]; rfl
      · rw [bI_ne] at g
        have g : cE b (T x) = true := g
        rw [g]; rfl
theorem c124 (hD : Dm n (bBy b) MI) {st : St} (hQ : ∀ a, st = .ok a → QW n s T MI) (hS : SM n st MI) : xm_Ev xz 124 [.ref 45] (xM MI ML Q) (fun r => ∃ M, r = (none, xM M ML Q) ∧ M1 MI M ∧ SM n (ck b T s (s - 1) 1 st) M) := by
  have lp : ∀ (P : xm_R → Prop) (d k : Nat) (st : St) (MI : Nat → Nat → Int32), (k + d = s ∨ (d = 0 ∧ s ≤ k)) ∨ (∃ p, st = .error p) → 1 ≤ k → (k ≤ 64 ∨ ∃ p, st = .error p) → Dm n (bBy b) MI → (∀ a, st = .ok a → QW n s T MI) → SM n st MI → (∀ M, M1 MI M → SM n (ck b T s d k st) M → P (none, xM M ML Q)) → xq124 P (2, [some (.ref 45), some (.int (nI k)), none], [], xM MI ML Q, 0, 0) := by
    intro P d
    induction d with
    | zero =>
      intro k st MI hk h1 h2 hD hQ hS hF
      cases st with
      | error p => exact xb124_2 ⟨fun _ => hF MI (M1.rf MI) hS, fun _ => ⟨fun _ => hF MI (M1.rf MI) hS, fun h => absurd hS.er h⟩⟩
      | ok a =>
        have hQW := hQ a rfl
        have h64 := hQW.2.1
        have hk : s ≤ k := by
          rcases hk with hk | ⟨p, hk⟩
          · omega
          · cases hk
        have h2 : k ≤ 64 := by
          rcases h2 with h2 | ⟨p, h2⟩
          · exact h2
          · cases h2
        refine xb124_2 ?_
        rw [hQW.1]
        exact pk_le s k (fun _ => hF MI (M1.rf MI) hS) (fun h => absurd h (by omega))
    | succ d ih =>
      intro k st MI hk h1 h2 hD hQ hS hF
      cases st with
      | error p => exact xb124_2 ⟨fun _ => hF MI (M1.rf MI) hS, fun _ => ⟨fun _ => hF MI (M1.rf MI) hS, fun h => absurd hS.er h⟩⟩
      | ok a =>
        have hn := hD.1
        have hQW := hQ a rfl
        have h64 := hQW.2.1
        have hk : k + (d + 1) = s := by
          rcases hk with hk | ⟨p, hk⟩
          · omega
          · cases hk
        have hlt : k < s := by omega
        obtain ⟨t1, t2, t3, t4, t5⟩ := hQW.2.2.1 k
        obtain ⟨e47, -, e7, e9⟩ := hQW.2.2.2 k h1 (by omega)
        have vk : vp_in (nI k) 65 := vp_in_nI (by omega) (by decide)
        have cl : (nI k).toNatClampNeg = k := nI_clamp (by omega)
        have nx : ∀ M, M1 MI M → SM n (ckE b T s k (.ok a)) M → xq124 P (217, [some (.ref 45), some (.int (nI k)), none], [], xM M ML Q, 0, 0) := by
          intro M m1 m2
          refine xb124_217 ?_
          rw [nI_1]
          exact ih (k + 1) _ M (Or.inl (by omega)) (by omega) (Or.inl (by omega)) (m1.dm hD) (fun _ _ => m1.qw hQW) m2 (fun M2 g1 g2 => hF M2 (m1.tr g1) g2)
        have e0 : ∀ q : ckE b T s k (.ok a) = .ok a, xq124 P (217, [some (.ref 45), some (.int (nI k)), none], [], xM MI ML Q, 0, 0) := fun q => nx MI (M1.rf MI) (by rw [q]; exact hS)
        refine xb124_2 ?_
        rw [hQW.1]
        refine pk_le s k (fun h => absurd h (by omega)) (fun _ => ⟨fun h => absurd h hS.ner, fun _ => ⟨vk, ?_⟩⟩)
        rw [cl, e47]
        have tx : ∀ so, so ≤ 5 → 7 ≤ (T k).kd → ckE b T s k (.ok a) = dmd (txB b T s so (T k).f) ((T k).pl + 1) (.ok a) → ∃ P0 : xm_R → Prop, xm_Ev xz 125 [.ref 45, .int (MI 48 k), .int (nI so)] (xM MI ML Q) P0 ∧ ∀ r, P0 r → xq124 P (xm_bk 64 [some (.ref 45), some (.int (nI k)), none] [.int (MI 50 k), .ref 45] 0 0 r) := by
          intro so hso h7 he
          obtain ⟨f1, f2⟩ := e7 h7
          rw [f1, f2]
          refine ⟨_, c125 hD hQW t2 hso, ?_⟩
          rintro _ rfl
          refine xb124_64 ⟨fun g => ⟨_, c120 (r := true) (p := (T k).pl + 1) hS (fun _ _ _ => ⟨rfl, by omega⟩), ?_⟩, fun g => ⟨_, c120 (r := false) (p := (T k).pl + 1) hS (fun _ _ q => by cases q), ?_⟩⟩
          · rintro _ ⟨M, rfl, m1, m2⟩
            rw [bI_0] at g
            refine xb124_75 (nx M m1 ?_)
            rw [he, g]
            exact m2
          · rintro _ ⟨M, rfl, m1, m2⟩
            rw [bI_ne] at g
            refine xb124_75 (nx M m1 ?_)
            rw [he, g]
            exact m2
        refine pk_eq (T k).kd 7 (fun h7 => ⟨vk, vk, pk_eq (T k).kd 7 (fun _ => tx 5 (by decide) (by omega) ?_) (fun q => absurd h7 q)⟩) (fun h7 => pk_eq (T k).kd 8 (fun h8 => ⟨vk, vk, pk_eq (T k).kd 7 (fun q => absurd q h7) (fun _ => tx 0 (by decide) (by omega) ?_)⟩) (fun h8 => pk_lt (T k).kd 9 (fun h9 => pk_eq (T k).kd 12 (fun q => by omega) (fun _ => e0 ?_)) (fun h9 => pk_lt 11 (T k).kd (fun h11 => pk_eq (T k).kd 12 (fun h12 => ⟨vk, vk, ?_⟩) (fun h12 => e0 ?_)) (fun h11 => ⟨vk, vk, ?_⟩))))
        · unfold ckE
          rw [if_pos h7]
          rfl
        · unfold ckE
          rw [if_neg h7, if_pos h8]
          rfl
        · unfold ckE
          rw [if_neg h7, if_neg h8, if_neg (by omega), if_neg (by omega)]
        · obtain ⟨f1, f2⟩ := e7 (by omega)
          obtain ⟨f3, f4⟩ := e9 (by omega)
          have he : ckE b T s k (.ok a) = dmd (txB b T s 4 (T k).s) ((T k).pl + 3) (dmd (txB b T s 1 (T k).f) ((T k).pl + 1) (.ok a)) := by
            unfold ckE
            rw [if_neg h7, if_neg h8, if_neg (by omega), if_pos h12]
            rfl
          have sec : ∀ M st', M1 MI M → SM n st' M → dmd (txB b T s 4 (T k).s) ((T k).pl + 3) st' = ckE b T s k (.ok a) → xq124 P (188, [some (.ref 45), some (.int (nI k)), none], [], xM M ML Q, 0, 0) := by
            intro M st' m1 m2 m3
            refine xb124_188 ⟨vk, vk, ?_⟩
            rw [cl, m1 49 k (by omega), m1 51 k (by omega), f3, f4]
            refine ⟨_, c125 (so := 4) (m1.dm hD) (m1.qw hQW) t3 (by decide), ?_⟩
            rintro _ rfl
            refine xb124_206 ⟨fun g => ⟨_, c120 (r := true) (p := (T k).pl + 3) m2 (fun _ _ _ => ⟨rfl, by omega⟩), ?_⟩, fun g => ⟨_, c120 (r := false) (p := (T k).pl + 3) m2 (fun _ _ q => by cases q), ?_⟩⟩
            · rintro _ ⟨M2, rfl, w1, w2⟩
              rw [bI_0] at g
              refine nx M2 (m1.tr w1) ?_
              rw [← m3, g]
              exact w2
            · rintro _ ⟨M2, rfl, w1, w2⟩
              rw [bI_ne] at g
              refine nx M2 (m1.tr w1) ?_
              rw [← m3, g]
              exact w2
          rw [f1, f2]
          refine ⟨_, c125 (so := 1) hD hQW t2 (by decide), ?_⟩
          rintro _ rfl
          refine xb124_177 ⟨fun g => ⟨_, c120 (r := true) (p := (T k).pl + 1) hS (fun _ _ _ => ⟨rfl, by omega⟩), ?_⟩, fun g => ⟨_, c120 (r := false) (p := (T k).pl + 1) hS (fun _ _ q => by cases q), ?_⟩⟩
          · rintro _ ⟨M, rfl, m1, m2⟩
            rw [bI_0] at g
            exact sec M _ m1 m2 (by rw [he, g]; rfl)
          · rintro _ ⟨M, rfl, m1, m2⟩
            rw [bI_ne] at g
            exact sec M _ m1 m2 (by rw [he, g]; rfl)
        · unfold ckE
          rw [if_neg h7, if_neg h8, if_neg (by omega), if_neg h12]
        · obtain ⟨f1, f2⟩ := e7 (by omega)
          obtain ⟨f3, f4⟩ := e9 (by omega)
          have kl1 := kdo_lt (s := s) hQW.2.2.1 (T k).f
          have kl2 := kdo_lt (s := s) hQW.2.2.1 (T k).s
          have he : ckE b T s k (.ok a) = dmd (decide (kdo T s (T k).s = 12)) ((T k).pl + 3) (dmd (decide (kdo T s (T k).f = 7)) ((T k).pl + 1) (.ok a)) := by
            unfold ckE
            rw [if_neg h7, if_neg h8, if_pos (by omega)]
          have sec : ∀ M st', M1 MI M → SM n st' M → dmd (decide (kdo T s (T k).s = 12)) ((T k).pl + 3) st' = ckE b T s k (.ok a) → xq124 P (120, [some (.ref 45), some (.int (nI k)), none], [], xM M ML Q, 0, 0) := by
            intro M st' m1 m2 m3
            refine xb124_120 ⟨vk, vk, ?_⟩
            rw [cl, m1 49 k (by omega), m1 51 k (by omega), f3, f4]
            refine ⟨_, c126 (m1.qw hQW) t3, ?_⟩
            rintro _ rfl
            refine xb124_137 (pk_eq (kdo T s (T k).s) 12 (fun g => ⟨_, c120 (r := false) (p := (T k).pl + 3) m2 (fun _ _ q => by cases q), ?_⟩) (fun g => ⟨_, c120 (r := true) (p := (T k).pl + 3) m2 (fun _ _ _ => ⟨rfl, by omega⟩), ?_⟩))
            · rintro _ ⟨M2, rfl, w1, w2⟩
              refine xb124_150 (nx M2 (m1.tr w1) ?_)
              rw [← m3, decide_eq_true g]
              exact w2
            · rintro _ ⟨M2, rfl, w1, w2⟩
              refine xb124_150 (nx M2 (m1.tr w1) ?_)
              rw [← m3, decide_eq_false g]
              exact w2
          rw [f1, f2]
          refine ⟨_, c126 hQW t2, ?_⟩
          rintro _ rfl
          refine xb124_107 (pk_eq (kdo T s (T k).f) 7 (fun g => ⟨_, c120 (r := false) (p := (T k).pl + 1) hS (fun _ _ q => by cases q), ?_⟩) (fun g => ⟨_, c120 (r := true) (p := (T k).pl + 1) hS (fun _ _ _ => ⟨rfl, by omega⟩), ?_⟩))
          · rintro _ ⟨M, rfl, m1, m2⟩
            exact sec M _ m1 m2 (by rw [he, decide_eq_true g]; rfl)
          · rintro _ ⟨M, rfl, m1, m2⟩
            exact sec M _ m1 m2 (by rw [he, decide_eq_false g]; rfl)
  refine xm_in (xb124_0 (lp _ (s - 1) 1 st MI ?_ (by omega) (Or.inl (by omega)) hD hQ hS (fun M g1 g2 => ⟨M, rfl, g1, g2⟩)))
  cases st with
  | error p => exact Or.inr ⟨p, rfl⟩
  | ok a => exact Or.inl (by omega)
end MC
