/-- the pool with its shapes, as the scanner keeps it -/
def PW (b : Nat → Nat) (n s : Nat) (T : Nat → Ent) (MI : Nat → Nat → Int32) : Prop := MI 4 5 = nI s ∧ s ≤ 64 ∧ TG n T ∧ ∀ j, 1 ≤ j → j < s → MI 5 j = nI (T j).kd ∧ ((T j).kd ≠ 0 → MI 6 j = nI (T j).pl) ∧ ((T j).kd = 1 ∨ 7 ≤ (T j).kd → MI 7 j = nI (T j).f ∧ MI 8 j = nI (T j).s) ∧ ((T j).kd = 1 → MI 9 j = shE b (T j))
theorem PW.cg {b : Nat → Nat} {n s : Nat} {T : Nat → Ent} {MI M : Nat → Nat → Int32} (h : PW b n s T MI) (h1 : ∀ a j, 4 ≤ a → a ≤ 9 → M a j = MI a j) : PW b n s T M := by
  obtain ⟨p1, p2, p3, p4⟩ := h
  refine ⟨by rw [h1 4 5 (by decide) (by decide)]; exact p1, p2, p3, fun j q1 q2 => ?_⟩
  rw [h1 5 j (by decide) (by decide), h1 6 j (by decide) (by decide), h1 7 j (by decide) (by decide), h1 8 j (by decide) (by decide), h1 9 j (by decide) (by decide)]
  exact p4 j q1 q2
theorem R1.pw {A B : Nat → Nat → Int32} (h : R1 A B) {b : Nat → Nat} {n s : Nat} {T : Nat → Ent} (hp : PW b n s T A) : PW b n s T B := hp.cg (fun a j q1 q2 => h a j (by omega))
/-- texts that are asked for -/
def isT (T : Nat → Ent) (s x : Nat) : Bool := decide (kdo T s x = 1)
def isF (T : Nat → Ent) (s x : Nat) : Bool := decide (kdo T s x = 1) && decide ((T x).f < (T x).s)
def isC (b : Nat → Nat) (T : Nat → Ent) (s x : Nat) : Bool := decide (kdo T s x = 1) && cE b (T x)
def isY (b : Nat → Nat) (T : Nat → Ent) (s x : Nat) : Bool := decide (kdo T s x = 1) && tE b (T x)
def isM (b : Nat → Nat) (T : Nat → Ent) (s x : Nat) : Bool := decide (kdo T s x = 1) && mE b (T x)
def isA (b : Nat → Nat) (T : Nat → Ent) (s x : Nat) : Bool := decide (kdo T s x = 1) && (tE b (T x) && aE b (T x))
def nmd (b : Nat → Nat) (T : Nat → Ent) (s x : Nat) : Bool := decide (kdo T s x = 7) && isC b T s (T x).f
def ckE (b : Nat → Nat) (T : Nat → Ent) (s k : Nat) (st : St) : St :=
  if (T k).kd = 7 then dmd (isC b T s (T k).f || isA b T s (T k).f) ((T k).pl + 1) st
  else if (T k).kd = 8 then dmd (isT T s (T k).f) ((T k).pl + 1) st
  else if 9 ≤ (T k).kd ∧ (T k).kd ≤ 11 then dmd (decide (kdo T s (T k).s = 12)) ((T k).pl + 3) (dmd (decide (kdo T s (T k).f = 7)) ((T k).pl + 1) st)
  else if (T k).kd = 12 then dmd (isY b T s (T k).s || isM b T s (T k).s) ((T k).pl + 3) (dmd (isF T s (T k).f) ((T k).pl + 1) st)
  else st
def ck (b : Nat → Nat) (T : Nat → Ent) (s : Nat) : Nat → Nat → St → St
  | 0, _, st => st
  | _ + 1, _, .error p => .error p
  | d + 1, k, .ok a => ck b T s d (k + 1) (ckE b T s k (.ok a))
theorem ck_er (b : Nat → Nat) (T : Nat → Ent) (s d k p : Nat) : ck b T s d k (.error p) = .error p := by cases d <;> rfl
theorem kdo_in {T : Nat → Ent} {s x v : Nat} (h : kdo T s x = v) (hv : v ≠ 0) : 1 ≤ x ∧ x < s ∧ (T x).kd = v := by
  unfold kdo at h
  split at h
  · rename_i q
    exact ⟨q.1, q.2, h⟩
  · exact absurd h.symm hv
theorem kdo_at {T : Nat → Ent} {s x : Nat} (h1 : 1 ≤ x) (h2 : x < s) : kdo T s x = (T x).kd := by
  unfold kdo
  rw [if_pos ⟨h1, h2⟩]
section CK
variable {MI : Nat → Nat → Int32} {ML : Nat → Nat → Int64} {Q : Nat → Nat} {b : Nat → Nat} {n s : Nat} {T : Nat → Ent}
theorem kdo_lt (hT : TG n T) (x : Nat) : kdo T s x < 256 := by unfold kdo; split; exact (hT x).1; decide
theorem k23 (hP : PW b n s T MI) {x : Nat} (hx : x < 65536) : xm_Ev xz 23 [.ref 4, .int (nI x)] (xM MI ML Q) (fun r => r = (some (.int (nI (kdo T s x))), xM MI ML Q)) := c23 hP.1 hP.2.1 (fun j q1 q2 => (hP.2.2.2 j q1 q2).1) (by omega)
theorem c39 (hP : PW b n s T MI) {x : Nat} (h1 : 1 ≤ x) (h2 : x < s) : xm_Ev xz 39 [.ref 4, .int (nI x)] (xM MI ML Q) (fun r => r = (some (.int (MI 7 x)), xM MI ML Q)) := by
  have := hP.2.1
  refine xm_in (xb39_0 ⟨_, c24 hP.1 hP.2.1 (k := x) (by omega), ?_⟩)
  rintro _ rfl
  rw [decide_eq_true ⟨h1, h2⟩]
  refine xb39_5 ⟨fun h => absurd h (by decide), fun _ => ⟨vp_in_nI (by omega) (by decide), ?_⟩⟩
  rw [nI_clamp (by omega)]
theorem c40 (hP : PW b n s T MI) {x : Nat} (h1 : 1 ≤ x) (h2 : x < s) : xm_Ev xz 40 [.ref 4, .int (nI x)] (xM MI ML Q) (fun r => r = (some (.int (MI 8 x)), xM MI ML Q)) := by
  have := hP.2.1
  refine xm_in (xb40_0 ⟨_, c24 hP.1 hP.2.1 (k := x) (by omega), ?_⟩)
  rintro _ rfl
  rw [decide_eq_true ⟨h1, h2⟩]
  refine xb40_5 ⟨fun h => absurd h (by decide), fun _ => ⟨vp_in_nI (by omega) (by decide), ?_⟩⟩
  rw [nI_clamp (by omega)]
theorem c41 (hP : PW b n s T MI) {x : Nat} (h1 : 1 ≤ x) (h2 : x < s) : xm_Ev xz 41 [.ref 4, .int (nI x)] (xM MI ML Q) (fun r => r = (some (.int (MI 6 x)), xM MI ML Q)) := by
  have := hP.2.1
  refine xm_in (xb41_0 ⟨_, c24 hP.1 hP.2.1 (k := x) (by omega), ?_⟩)
  rintro _ rfl
  rw [decide_eq_true ⟨h1, h2⟩]
  refine xb41_5 ⟨fun h => absurd h (by decide), fun _ => ⟨vp_in_nI (by omega) (by decide), ?_⟩⟩
  rw [nI_clamp (by omega)]
theorem c42 (hP : PW b n s T MI) {x : Nat} (hx : x < 65536) (w : Int32) : xm_Ev xz 42 [.ref 4, .int (nI x), .int w] (xM MI ML Q) (fun r => r = (some (.int (bI (decide (kdo T s x = 1) && decide (¬ shE b (T x) &&& w = 0)))), xM MI ML Q)) := by
  have h64 := hP.2.1
  have kl := kdo_lt (s := s) hP.2.2.1 x
  refine xm_in (xb42_0 ⟨_, k23 hP hx, ?_⟩)
  rintro _ rfl
  refine xb42_5 (pk_eq (kdo T s x) 1 (fun h => ?_) (fun h => ⟨Or.inl rfl, ?_⟩))
  · obtain ⟨q1, q2, q3⟩ := kdo_in h (by decide)
    rw [nI_clamp (by omega), (hP.2.2.2 x q1 q2).2.2.2 q3, decide_eq_true h, Bool.true_and]
    refine ⟨vp_in_nI (by omega) (by decide), fun g => ⟨Or.inl rfl, ?_⟩, fun g => ⟨Or.inr rfl, ?_⟩⟩
    · rw [decide_eq_false (fun z => z g)]; rfl
    · rw [decide_eq_true g]; rfl
  · rw [decide_eq_false h]; rfl
theorem c43 (hP : PW b n s T MI) {x : Nat} (hx : x < 65536) : xm_Ev xz 43 [.ref 4, .int (nI x)] (xM MI ML Q) (fun r => r = (some (.int (bI (isT T s x))), xM MI ML Q)) := by
  have kl := kdo_lt (s := s) hP.2.2.1 x
  refine xm_in (xb43_0 ⟨_, k23 hP hx, ?_⟩)
  rintro _ rfl
  unfold isT
  refine xb43_5 (pk_eq (kdo T s x) 1 (fun h => ⟨Or.inr rfl, ?_⟩) (fun h => ⟨Or.inl rfl, ?_⟩))
  · rw [decide_eq_true h]; rfl
  · rw [decide_eq_false h]; rfl
theorem c44 (hP : PW b n s T MI) {x : Nat} (hx : x < 65536) : xm_Ev xz 44 [.ref 4, .int (nI x)] (xM MI ML Q) (fun r => r = (some (.int (bI (isF T s x))), xM MI ML Q)) := by
  have h64 := hP.2.1
  have kl := kdo_lt (s := s) hP.2.2.1 x
  refine xm_in (xb44_0 ⟨_, k23 hP hx, ?_⟩)
  rintro _ rfl
  unfold isF
  refine xb44_5 (pk_eq (kdo T s x) 1 (fun h => ?_) (fun h => ⟨Or.inl rfl, ?_⟩))
  · obtain ⟨q1, q2, q3⟩ := kdo_in h (by decide)
    obtain ⟨p1, p2⟩ := (hP.2.2.2 x q1 q2).2.2.1 (Or.inl q3)
    obtain ⟨-, t2, t3, -⟩ := hP.2.2.1 x
    rw [nI_clamp (by omega), p1, p2, decide_eq_true h, Bool.true_and]
    refine ⟨vp_in_nI (by omega) (by decide), vp_in_nI (by omega) (by decide), pk_le (T x).s (T x).f (fun g => ⟨Or.inl rfl, ?_⟩) (fun g => ⟨Or.inr rfl, ?_⟩)⟩
    · rw [decide_eq_false (by omega)]; rfl
    · rw [decide_eq_true g]; rfl
  · rw [decide_eq_false h]; rfl
theorem w5 : ∀ c t a m, decide (¬ sh3 c t a m &&& 5 = 0) = (c || (t && a)) := by decide
theorem w1 : ∀ c t a m, decide (¬ sh3 c t a m &&& 1 = 0) = c := by decide
theorem w2 : ∀ c t a m, decide (¬ sh3 c t a m &&& 2 = 0) = t := by decide
theorem w8 : ∀ c t a m, decide (¬ sh3 c t a m &&& 8 = 0) = m := by decide
theorem w10 : ∀ c t a m, decide (¬ sh3 c t a m &&& 10 = 0) = (t || m) := by decide
theorem c42c (hP : PW b n s T MI) {x : Nat} (hx : x < 65536) : xm_Ev xz 42 [.ref 4, .int (nI x), .int 1] (xM MI ML Q) (fun r => r = (some (.int (bI (isC b T s x))), xM MI ML Q)) := by
  have := c42 (ML := ML) (Q := Q) hP hx 1
  unfold shE at this
  rw [w1] at this
  exact this
theorem c42y (hP : PW b n s T MI) {x : Nat} (hx : x < 65536) : xm_Ev xz 42 [.ref 4, .int (nI x), .int 2] (xM MI ML Q) (fun r => r = (some (.int (bI (isY b T s x))), xM MI ML Q)) := by
  have := c42 (ML := ML) (Q := Q) hP hx 2
  unfold shE at this
  rw [w2] at this
  exact this
theorem c42m (hP : PW b n s T MI) {x : Nat} (hx : x < 65536) : xm_Ev xz 42 [.ref 4, .int (nI x), .int 8] (xM MI ML Q) (fun r => r = (some (.int (bI (isM b T s x))), xM MI ML Q)) := by
  have := c42 (ML := ML) (Q := Q) hP hx 8
  unfold shE at this
  rw [w8] at this
  exact this
theorem c46 (hP : PW b n s T MI) {x : Nat} (hx : x < 65536) : xm_Ev xz 46 [.ref 4, .int (nI x)] (xM MI ML Q) (fun r => r = (some (.int (bI (nmd b T s x))), xM MI ML Q)) := by
  have h64 := hP.2.1
  have kl := kdo_lt (s := s) hP.2.2.1 x
  refine xm_in (xb46_0 ⟨_, k23 hP hx, ?_⟩)
  rintro _ rfl
  unfold nmd
  refine xb46_5 (pk_eq (kdo T s x) 7 (fun h => ?_) (fun h => ⟨Or.inl rfl, ?_⟩))
  · obtain ⟨q1, q2, q3⟩ := kdo_in h (by decide)
    obtain ⟨p1, p2⟩ := (hP.2.2.2 x q1 q2).2.2.1 (Or.inr (by omega))
    obtain ⟨-, t2, t3, -⟩ := hP.2.2.1 x
    rw [nI_clamp (by omega), p1, decide_eq_true h, Bool.true_and]
    refine ⟨vp_in_nI (by omega) (by decide), _, c42c hP t2, ?_⟩
    rintro _ rfl
    refine xb46_21 ⟨fun g => ⟨Or.inl rfl, ?_⟩, fun g => ⟨Or.inr rfl, ?_⟩⟩
    · rw [bI_0] at g; rw [g]; rfl
    · rw [bI_ne] at g; rw [g]; rfl
  · rw [decide_eq_false h]; rfl
theorem c38 (hP : PW b n s T MI) (hn : n ≤ 400) {a : Nat} (hS : SS n (.ok a) MI) {k : Nat} (h1 : 1 ≤ k) (h2 : k < s) : xm_Ev xz 38 [.ref 1, .int (nI k)] (xM MI ML Q) (fun r => ∃ M, r = (none, xM M ML Q) ∧ R1 MI M ∧ SS n (ckE b T s k (.ok a)) M) := by
  have h64 := hP.2.1
  obtain ⟨p1, p2, p3, -⟩ := hP.2.2.2 k h1 h2
  obtain ⟨t1, t2, t3, t4, -⟩ := hP.2.2.1 k
  refine xm_in (xb38_0 ⟨_, c39 hP h1 h2, ?_⟩)
  rintro _ rfl
  refine xb38_8 ⟨_, c40 hP h1 h2, ?_⟩
  rintro _ rfl
  refine xb38_17 ⟨_, c41 hP h1 h2, ?_⟩
  rintro _ rfl
  refine xb38_26 ⟨_, k23 hP (by omega), ?_⟩
  rintro _ rfl
  rw [kdo_at h1 h2]
  have pl2 : nI ((T k).pl + 1) + 2 = nI ((T k).pl + 3) := nI_add _ 2
  have tri : ∀ w, (w = 9 ∨ w = 10 ∨ w = 11) → (T k).kd = w → ∃ P0 : xm_R → Prop, xm_Ev xz 23 [.ref 4, .int (MI 7 k)] (xM MI ML Q) P0 ∧ ∀ r, P0 r → xq38 (fun r => ∃ M, r = (none, xM M ML Q) ∧ R1 MI M ∧ SS n (ckE b T s k (.ok a)) M) (xm_bk 128 [some (.ref 1), none, none, some (.int (MI 8 k)), some (.int (MI 6 k + 1)), some (.int ((MI 6 k + 1) + 2))] [.ref 1] 0 0 r) := by
    intro w hw he
    have e : ckE b T s k (.ok a) = dmd (decide (kdo T s (T k).s = 12)) ((T k).pl + 3) (dmd (decide (kdo T s (T k).f = 7)) ((T k).pl + 1) (.ok a)) := by
      unfold ckE
      rw [if_neg (by omega), if_neg (by omega), if_pos (by omega)]
    rw [e]
    obtain ⟨f1, f2⟩ := p3 (Or.inr (by omega))
    rw [f1, f2, p2 (by omega), nI_1, pl2]
    refine ⟨_, k23 hP t2, ?_⟩
    rintro _ rfl
    have kl := kdo_lt (s := s) hP.2.2.1 (T k).f
    have kl2 := kdo_lt (s := s) hP.2.2.1 (T k).s
    have snd : ∀ st' M, R1 MI M → SS n st' M → xq38 (fun r => ∃ M, r = (none, xM M ML Q) ∧ R1 MI M ∧ SS n (dmd (decide (kdo T s (T k).s = 12)) ((T k).pl + 3) st') M) (143, [some (.ref 1), none, none, some (.int (nI (T k).s)), none, some (.int (nI ((T k).pl + 3)))], [], xM M ML Q, 0, 0) := by
      intro st' M m1 m2
      refine xb38_143 ⟨_, k23 (m1.pw hP) t3, ?_⟩
      rintro _ rfl
      refine xb38_152 (pk_eq (kdo T s (T k).s) 12 (fun h => ⟨_, c19 (r := true) (p := (T k).pl + 3) m2 (fun _ _ q => by cases q), ?_⟩) (fun h => ⟨_, c19 (r := false) (p := (T k).pl + 3) m2 (fun _ _ _ => ⟨rfl, by omega⟩), ?_⟩))
      · rintro _ ⟨M2, rfl, k1, k2⟩
        rw [decide_eq_true h]
        exact xb38_167 ⟨M2, rfl, m1.tr k1, k2⟩
      · rintro _ ⟨M2, rfl, k1, k2⟩
        rw [decide_eq_false h]
        exact xb38_167 ⟨M2, rfl, m1.tr k1, k2⟩
    refine xb38_128 (pk_eq (kdo T s (T k).f) 7 (fun h => ⟨_, c19 (r := true) (p := (T k).pl + 1) hS (fun _ _ q => by cases q), ?_⟩) (fun h => ⟨_, c19 (r := false) (p := (T k).pl + 1) hS (fun _ _ _ => ⟨rfl, by omega⟩), ?_⟩))
    · rintro _ ⟨M2, rfl, k1, k2⟩
      rw [decide_eq_true h]
      exact snd _ M2 k1 k2
    · rintro _ ⟨M2, rfl, k1, k2⟩
      rw [decide_eq_false h]
      exact snd _ M2 k1 k2
  refine xb38_44 (pk_eq (T k).kd 7 (fun h7 => ?_) (fun h7 => pk_eq (T k).kd 8 (fun h8 => ?_) (fun h8 => pk_eq (T k).kd 9 (fun h => tri 9 (by omega) h) (fun h9 => pk_eq (T k).kd 10 (fun h => tri 10 (by omega) h) (fun h10 => pk_eq (T k).kd 11 (fun h => tri 11 (by omega) h) (fun h11 => pk_eq (T k).kd 12 (fun h12 => ?_) (fun h12 => ⟨MI, rfl, R1.rf MI, ?_⟩)))))))
  · have e : ckE b T s k (.ok a) = dmd (isC b T s (T k).f || isA b T s (T k).f) ((T k).pl + 1) (.ok a) := by
      unfold ckE
      rw [if_pos h7]
    obtain ⟨f1, f2⟩ := p3 (Or.inr (by omega))
    rw [e, f1, p2 (by omega), nI_1]
    refine ⟨_, c42 hP t2 5, ?_⟩
    rintro _ rfl
    have e5 : (decide (kdo T s (T k).f = 1) && decide (¬ shE b (T (T k).f) &&& 5 = 0)) = (isC b T s (T k).f || isA b T s (T k).f) := by
      unfold shE isC isA
      rw [w5]
      cases decide (kdo T s (T k).f = 1) <;> rfl
    rw [e5]
    refine xb38_94 ⟨_, c19 (p := (T k).pl + 1) hS (fun _ _ _ => ⟨rfl, by omega⟩), ?_⟩
    rintro _ ⟨M2, rfl, k1, k2⟩
    exact xb38_99 ⟨M2, rfl, k1, k2⟩
  · have e : ckE b T s k (.ok a) = dmd (isT T s (T k).f) ((T k).pl + 1) (.ok a) := by
      unfold ckE
      rw [if_neg h7, if_pos h8]
    obtain ⟨f1, f2⟩ := p3 (Or.inr (by omega))
    rw [e, f1, p2 (by omega), nI_1]
    refine ⟨_, c43 hP t2, ?_⟩
    rintro _ rfl
    refine xb38_111 ⟨_, c19 (p := (T k).pl + 1) hS (fun _ _ _ => ⟨rfl, by omega⟩), ?_⟩
    rintro _ ⟨M2, rfl, k1, k2⟩
    exact xb38_116 ⟨M2, rfl, k1, k2⟩
  · have e : ckE b T s k (.ok a) = dmd (isY b T s (T k).s || isM b T s (T k).s) ((T k).pl + 3) (dmd (isF T s (T k).f) ((T k).pl + 1) (.ok a)) := by
      unfold ckE
      rw [if_neg h7, if_neg h8, if_neg (by omega), if_pos h12]
    obtain ⟨f1, f2⟩ := p3 (Or.inr (by omega))
    rw [e, f1, f2, p2 (by omega), nI_1, pl2]
    refine ⟨_, c44 hP t2, ?_⟩
    rintro _ rfl
    refine xb38_179 ⟨_, c19 (p := (T k).pl + 1) hS (fun _ _ _ => ⟨rfl, by omega⟩), ?_⟩
    rintro _ ⟨M2, rfl, k1, k2⟩
    refine xb38_184 ⟨_, c42 (k1.pw hP) t3 10, ?_⟩
    rintro _ rfl
    have e10 : (decide (kdo T s (T k).s = 1) && decide (¬ shE b (T (T k).s) &&& 10 = 0)) = (isY b T s (T k).s || isM b T s (T k).s) := by
      unfold shE isY isM
      rw [w10]
      cases decide (kdo T s (T k).s = 1) <;> rfl
    rw [e10]
    refine xb38_195 ⟨_, c19 (p := (T k).pl + 3) k2 (fun _ _ _ => ⟨rfl, by omega⟩), ?_⟩
    rintro _ ⟨M3, rfl, k3, k4⟩
    exact xb38_200 ⟨M3, rfl, k1.tr k3, k4⟩
  · have e : ckE b T s k (.ok a) = .ok a := by
      unfold ckE
      rw [if_neg h7, if_neg h8, if_neg (by omega), if_neg h12]
    rw [e]
    exact hS
theorem c37 (hs : MI 4 5 = nI s) (h64 : s ≤ 64) (hn : n ≤ 400) {st : St} (hP : ∀ a, st = .ok a → PW b n s T MI) (hS : SS n st MI) : xm_Ev xz 37 [.ref 1] (xM MI ML Q) (fun r => ∃ M, r = (none, xM M ML Q) ∧ R1 MI M ∧ SS n (ck b T s (s - 1) 1 st) M) := by
  have lp : ∀ (P : xm_R → Prop) (d k : Nat) (st : St) (MI : Nat → Nat → Int32), (k + d = s ∨ (d = 0 ∧ s ≤ k)) → 1 ≤ k → k ≤ 64 → MI 4 5 = nI s → (∀ a, st = .ok a → PW b n s T MI) → SS n st MI → (∀ M, R1 MI M → SS n (ck b T s d k st) M → P (none, xM M ML Q)) → xq37 P (2, [some (.ref 1), some (.int (nI k))], [], xM MI ML Q, 0, 0) := by
    intro P d
    induction d with
    | zero =>
      intro k st MI hk h1 h2 hs hP hS hF
      refine xb37_2 ?_
      rw [hs]
      exact pk_le s k (fun _ => hF MI (R1.rf MI) hS) (fun h => absurd h (by omega))
    | succ d ih =>
      intro k st MI hk h1 h2 hs hP hS hF
      refine xb37_2 ?_
      rw [hs]
      refine pk_le s k (fun h => absurd h (by omega)) (fun hlt => ?_)
      cases st with
      | error p => exact ⟨fun h => absurd h hS.er, fun _ => hF MI (R1.rf MI) (by rw [ck_er]; exact hS)⟩
      | ok a =>
        have hPW := hP a rfl
        refine ⟨fun _ => ⟨_, c38 hPW hn hS h1 hlt, ?_⟩, fun h => absurd hS.le.2.2 h⟩
        rintro _ ⟨M, rfl, m1, m2⟩
        refine xb37_26 ?_
        rw [nI_1]
        exact ih (k + 1) _ M (by omega) (by omega) (by omega) ((m1 4 5 (by decide)).trans hs) (fun _ _ => m1.pw hPW) m2 (fun M2 g1 g2 => hF M2 (m1.tr g1) g2)
  exact xm_in (xb37_0 (lp _ (s - 1) 1 st MI (by omega) (by omega) (by omega) hs hP hS (fun M g1 g2 => ⟨M, rfl, g1, g2⟩)))
end CK
