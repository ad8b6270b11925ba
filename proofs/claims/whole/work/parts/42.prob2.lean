/-- Integer.bitCount, of a set of jars -/
theorem c109 {MI : Nat → Nat → Int32} {ML : Nat → Nat → Int64} {Q : Nat → Nat} {n : Nat} (h : n < 32) : xm_Ev xz 109 [.int (nI n)] (xM MI ML Q) (fun z => z = (some (.int (nI (pop 5 n))), xM MI ML Q)) := by
  refine xm_in (xb109_0 ?_)
  rcases n with _ | _ | _ | _ | _ | _ | _ | _ | _ | _ | _ | _ | _ | _ | _ | _ | _ | _ | _ | _ | _ | _ | _ | _ | _ | _ | _ | _ | _ | _ | _ | _ | n
  all_goals first
    | omega
    | rfl
theorem or1 : ∀ n, n < 32 → ∀ j, j < 5 → nI n ||| ((1 : Int32) <<< (nI j &&& (31 : Int32))) = nI (n ||| 2 ^ j) ∧ n ||| 2 ^ j < 32 := by decide +kernel
theorem JS.lt {J : Nat → Nat} {p : Nat → Prop} : ∀ {c : Nat} {v : Int32}, (∀ i, i < c → J i < 5) → JS (fun i => nI (J i)) p c v → ∃ n, n < 32 ∧ v = nI n
  | 0, _, _, h => ⟨0, by decide, h⟩
  | c + 1, v, hj, ⟨w, h1, h2⟩ => by
    obtain ⟨n, n1, n2⟩ := JS.lt (fun i hi => hj i (by omega)) h1
    subst n2
    rcases h2 with ⟨-, e⟩ | ⟨-, e⟩
    · obtain ⟨q1, q2⟩ := or1 n n1 (J c) (hj c (by omega))
      exact ⟨_, q2, e.trans q1⟩
    · exact ⟨n, n1, e⟩
theorem two : ∀ n, n < 32 → (nI (pop 5 n) ≤ 1 ↔ nI n &&& (nI n - (1 : Int32)) = 0) := by decide +kernel
section PROB
variable {MI : Nat → Nat → Int32} {ML : Nat → Nat → Int64} {Q : Nat → Nat} {k c : Nat} {N J : Nat → Nat}
/-- wanted by one that is found, and not found -/
def PM (c : Nat) (N J : Nat → Nat) (U : Nat → Int64) (n : Nat) : Prop := (∃ f, f < c ∧ FD c N J (N f) f ∧ hasB (U f) n = true) ∧ ¬ ∃ p, FD c N J n p
theorem c106 {U : Nat → Int64} (hV : VS k c MI ML Q N J U) (hP : PV c MI N J) : xm_Ev xz 106 [.ref 17] (xM MI ML Q) (fun z => ∃ w, z = (some (.long w), xM MI ML Q) ∧ ∀ n, hasB w n = true ↔ PM c N J U n) := by
  have hV0 := hV
  obtain ⟨a1, a2, a3, a4, a5⟩ := hV
  have lp : ∀ (d i : Nat), i + d = c → ∀ w v : Int64, (∀ n, hasB w n = true ↔ ∃ f, f < i ∧ FD c N J (N f) f ∧ hasB (U f) n = true) → (∀ n, hasB v n = true ↔ ∃ f, f < i ∧ FD c N J n f) → xq106 (fun z => ∃ w, z = (some (.long w), xM MI ML Q) ∧ ∀ n, hasB w n = true ↔ PM c N J U n) (7, [some (.ref 17), some (.long w), none, some (.long v), none, some (.int (nI i))], [], xM MI ML Q, 0, 0) := by
    intro d
    induction d with
    | zero =>
      intro i hi w v hw hv
      have : i = c := by omega
      subst this
      refine xb106_7 ⟨fun _ => ⟨_, rfl, fun n => ?_⟩, fun hl => ?_⟩
      · by_cases h64 : n < 64
        · rw [hasB_and, Bool.and_eq_true, hasB_not h64, hw n, Bool.not_eq_true']
          refine and_congr Iff.rfl ?_
          constructor
          · rintro q ⟨p, hp⟩
            rw [(hv n).mpr ⟨p, hp.1, hp⟩] at q
            cases q
          · intro q
            refine ts_nt fun q' => ?_
            obtain ⟨f, -, hf⟩ := (hv n).mp q'
            exact q ⟨f, hf⟩
        · rw [hasB_ge (by omega)]
          refine ⟨fun q => (by cases q), ?_⟩
          rintro ⟨⟨f, -, -, q⟩, -⟩
          exact absurd (hasB_lt q) h64
      · rw [a3] at hl
        exact absurd (nI_le (Nat.le_refl i) (by omega)) hl
    | succ d ih =>
      intro i hi w v hw hv
      have v1 : vp_in (nI i) 16 := vp_in_nI (by omega) (by decide)
      obtain ⟨q1, q2, -, -⟩ := a4.at (i := i) (by omega)
      obtain ⟨n1, n2, -, -, n5⟩ := a5 i (by omega)
      refine xb106_7 ⟨fun hl => ?_, fun _ => ⟨_, c71 hV0 hP (i := i) (by omega), ?_⟩⟩
      · rw [a3] at hl
        exact absurd hl (nI_ge (by omega) (by omega))
      · rintro _ ⟨b, rfl, hb⟩
        refine xb106_22 ⟨fun h => ?_, fun h => ⟨v1, Q i - 1, q1, q2, v1, Q i - 1, q1, q2, ?_⟩⟩
        · rw [bI_0] at h
          have hnf : ¬ FD c N J (N i) i := fun q => by rw [hb.mpr q] at h; cases h
          rw [nI_1]
          refine ih (i + 1) (by omega) w v (fun n => ?_) (fun n => ?_)
          · rw [hw n]
            constructor
            · rintro ⟨f, f1, f2⟩; exact ⟨f, by omega, f2⟩
            · rintro ⟨f, f1, f2, f3⟩
              by_cases e : f = i
              · subst e; exact absurd f2 hnf
              · exact ⟨f, by omega, f2, f3⟩
          · rw [hv n]
            constructor
            · rintro ⟨f, f1, f2⟩; exact ⟨f, by omega, f2⟩
            · rintro ⟨f, f1, f2⟩
              by_cases e : f = i
              · subst e; exact absurd (by rw [f2.2.1]; exact f2) hnf
              · exact ⟨f, by omega, f2⟩
        · rw [bI_ne] at h
          have hfd := hb.mp h
          rw [nI_1, n5, n1]
          refine ih (i + 1) (by omega) _ _ (fun n => ?_) (fun n => ?_)
          · rw [hasB_or, Bool.or_eq_true, hw n]
            constructor
            · rintro (⟨f, f1, f2⟩ | q)
              · exact ⟨f, by omega, f2⟩
              · exact ⟨i, by omega, hfd, q⟩
            · rintro ⟨f, f1, f2, f3⟩
              by_cases e : f = i
              · subst e; exact Or.inr f3
              · exact Or.inl ⟨f, by omega, f2, f3⟩
          · rw [hasB_or, Bool.or_eq_true, hv n]
            show _ ∨ hasB (one (N i)) n = true ↔ _
            rw [hasB_one (by omega), decide_eq_true_eq]
            constructor
            · rintro (⟨f, f1, f2⟩ | q)
              · exact ⟨f, by omega, f2⟩
              · subst q; exact ⟨i, by omega, hfd⟩
            · rintro ⟨f, f1, f2⟩
              by_cases e : f = i
              · subst e; exact Or.inr f2.2.1.symm
              · exact Or.inl ⟨f, by omega, f2⟩
  refine xm_in (xb106_0 (lp c 0 (by omega) 0 0 (fun n => ?_) (fun n => ?_)))
  · rw [hasB_0]
    refine ⟨fun q => (by cases q), ?_⟩
    rintro ⟨f, q, -⟩; exact absurd q (Nat.not_lt_zero f)
  · rw [hasB_0]
    refine ⟨fun q => (by cases q), ?_⟩
    rintro ⟨f, q, -⟩; exact absurd q (Nat.not_lt_zero f)
theorem c169 {n : Nat} (hV : VM k c MI ML N J) (hn : n < k) : xm_Ev xz 169 [.ref 45, .int (nI n)] (xM MI ML Q) (fun z => ∃ b : Bool, z = (some (.int (bI b)), xM MI ML Q) ∧ (b = true ↔ PM c N J (ML 64) n)) := by
  have hV0 := hV
  obtain ⟨a1, a2, a3, a4, a5⟩ := hV
  have lp : ∀ (d i : Nat), i + d = c → ∀ b : Bool, (b = true ↔ ∃ f, f < i ∧ FD c N J (N f) f ∧ hasB (ML 64 f) n = true) → xq169 (fun z => ∃ b : Bool, z = (some (.int (bI b)), xM MI ML Q) ∧ (b = true ↔ PM c N J (ML 64) n)) (4, [some (.ref 45), some (.int (nI n)), some (.int (bI b)), some (.int (nI i))], [], xM MI ML Q, 0, 0) := by
    intro d
    induction d with
    | zero =>
      intro i hi b hb
      have : i = c := by omega
      subst this
      refine xb169_4 ⟨fun _ => ⟨fun h => ⟨Or.inl rfl, false, rfl, fun q => (by cases q), fun q => ?_⟩, fun h => ⟨_, c150 a2 a4 (nI n), ?_⟩⟩, fun hl => ?_⟩
      · rw [bI_0] at h
        rw [hb.mpr q.1] at h
        cases h
      · rw [bI_ne] at h
        rintro _ ⟨v, rfl, hv⟩
        rcases isPr_FD hV0.pr (a := n) (by omega) hv with ⟨e, hno⟩ | ⟨p, p1, e⟩
        · subst e
          exact xb169_64 ⟨fun q => absurd q (by decide), fun _ => ⟨Or.inr rfl, true, rfl, fun _ => ⟨hb.mp h, fun ⟨p, q1, q2, _⟩ => hno p q1 q2⟩, fun _ => rfl⟩⟩
        · subst e
          have := p1.1
          exact xb169_64 ⟨fun _ => ⟨Or.inl rfl, false, rfl, fun q => (by cases q), fun q => absurd ⟨p, p1⟩ q.2⟩, fun q => absurd (nI_pos' (by omega)) q⟩
      · rw [a4] at hl
        exact absurd (nI_le (Nat.le_refl i) (by omega)) hl
    | succ d ih =>
      intro i hi b hb
      have ic : i < c := by omega
      have v1 : vp_in (nI i) 16 := vp_in_nI (by omega) (by decide)
      obtain ⟨n1, n2, -⟩ := a5 i ic
      have no : b = false → ¬ (FD c N J (N i) i ∧ hasB (ML 64 i) n = true) → xq169 (fun z => ∃ b : Bool, z = (some (.int (bI b)), xM MI ML Q) ∧ (b = true ↔ PM c N J (ML 64) n)) (4, [some (.ref 45), some (.int (nI n)), some (.int 0), some (.int (nI i + 1))], [], xM MI ML Q, 0, 0) := fun e hno => by
        subst e
        rw [nI_1]
        refine ih (i + 1) (by omega) false ?_
        rw [hb]
        constructor
        · rintro ⟨f, f1, f2⟩; exact ⟨f, by omega, f2⟩
        · rintro ⟨f, f1, f2⟩
          by_cases e : f = i
          · subst e; exact absurd f2 hno
          · exact ⟨f, by omega, f2⟩
      refine xb169_4 ⟨fun hl => ?_, fun _ => ⟨fun h => ⟨v1, ?_⟩, fun h => ?_⟩⟩
      · rw [a4] at hl
        exact absurd hl (nI_ge (by omega) (by omega))
      · rw [bI_0] at h
        rw [nI_clamp (by omega), n1]
        refine ⟨_, c150 a2 a4 (nI (N i)), ?_⟩
        rintro _ ⟨v, rfl, hv⟩
        rcases isPr_FD hV0.pr (a := N i) (by omega) hv with ⟨e, hno⟩ | ⟨p, p1, e⟩
        · exact absurd rfl (hno i ic)
        · subst e
          have pc := p1.1
          refine xb169_26 ⟨fun e => ⟨v1, ?_⟩, fun e => no h (fun q => e (by rw [p1.uniq q.1]))⟩
          have e := (nI_eq (by omega) (by omega)).mp e
          subst e
          rw [nI_clamp (by omega)]
          refine ⟨_, c155 _ (k := n) (by omega), ?_⟩
          rintro _ rfl
          refine xb169_40 ⟨fun q => no h (fun z => ?_), fun q => ?_⟩
          · rw [bI_0] at q
            rw [q] at z
            cases z.2
          · rw [bI_ne] at q
            rw [nI_1]
            exact ih (p + 1) (by omega) true ⟨fun _ => ⟨p, by omega, p1, q⟩, fun _ => rfl⟩
      · rw [bI_ne] at h
        rw [nI_1]
        obtain ⟨f, f1, f2⟩ := hb.mp h
        exact ih (i + 1) (by omega) true ⟨fun _ => ⟨f, by omega, f2⟩, fun _ => rfl⟩
  refine xm_in (xb169_0 (lp c 0 (by omega) false ?_))
  refine ⟨fun q => (by cases q), ?_⟩
  rintro ⟨f, q, -⟩; exact absurd q (Nat.not_lt_zero f)
/-- a package of more than one jar -/
def P1 (MI : Nat → Nat → Int32) (c : Nat) (N J : Nat → Nat) (n : Nat) : Prop := MI 16 n = nI n ∧ ∃ v, JS (fun i => nI (J i)) (fun i => SP MI (N i) n) c v ∧ v &&& (v - (1 : Int32)) ≠ 0
theorem c108 {U : Nat → Int64} (hV : VS k c MI ML Q N J U) (h12 : MI 12 4 = nI k) (hP : IP k MI) : xm_Ev xz 108 [.ref 0] (xM MI ML Q) (fun z => z = (some (.int (nI (cnt (P1 MI c N J) k))), xM MI ML Q)) := by
  have hV0 := hV
  obtain ⟨a1, a2, a3, a4, a5⟩ := hV
  have lp : ∀ (d n : Nat), n + d = k → xq108 (fun z => z = (some (.int (nI (cnt (P1 MI c N J) k))), xM MI ML Q)) (4, [some (.ref 0), some (.int (nI (cnt (P1 MI c N J) n))), some (.int (nI n))], [], xM MI ML Q, 0, 0) := by
    intro d
    induction d with
    | zero =>
      intro n hn
      have : n = k := by omega
      subst this
      refine xb108_4 ⟨fun _ => rfl, fun hl => ?_⟩
      rw [h12] at hl
      exact absurd (nI_le (Nat.le_refl n) (by omega)) hl
    | succ d ih =>
      intro n hn
      have nk : n < k := by omega
      have no : ¬ P1 MI c N J n → xq108 (fun z => z = (some (.int (nI (cnt (P1 MI c N J) k))), xM MI ML Q)) (4, [some (.ref 0), some (.int (nI (cnt (P1 MI c N J) n))), some (.int (nI n + 1))], [], xM MI ML Q, 0, 0) := fun h => by
        have := ih (n + 1) (by omega)
        rw [cnt_n h] at this
        rw [nI_1]
        exact this
      refine xb108_4 ⟨fun hl => ?_, fun _ => ⟨_, c97' a1 h12 nk, ?_⟩⟩
      · rw [h12] at hl
        exact absurd hl (nI_ge (by omega) (by omega))
      · rintro _ rfl
        refine xb108_23 ⟨fun e => ⟨_, c99 hV0 h12 (nI n), ?_⟩, fun e => no fun q => e q.1⟩
        rintro _ ⟨v, rfl, hv⟩
        have hv' : JS (fun i => nI (J i)) (fun i => SP MI (N i) n) c v := JS.cg (fun j hj => ⟨rfl, by rw [← e]; exact home_eq a1 hP (a5 j hj).2.1 nk⟩) hv
        obtain ⟨m, m1, m2⟩ := hv'.lt (fun i hi => (a5 i hi).2.2.2.1)
        subst m2
        refine xb108_32 ⟨_, c109 m1, ?_⟩
        rintro _ rfl
        refine xb108_35 ⟨fun q => no fun z => ?_, fun q => ?_⟩
        · obtain ⟨v', v1, v2⟩ := z.2
          rw [v1.uniq hv'] at v2
          exact v2 ((two m m1).mp q)
        · have hp : P1 MI c N J n := ⟨e, _, hv', fun z => q ((two m m1).mpr z)⟩
          have := ih (n + 1) (by omega)
          rw [cnt_s hp] at this
          rw [nI_1, nI_1]
          exact this
  exact xm_in (xb108_0 (lp k 0 (by omega)))
theorem c110 : xm_Ev xz 110 [.ref 39] (xM MI ML Q) (fun z => z = (some (.int (nI (cnt (fun j => hasI (sOut (MI 43) (MI 43 j) 5) j = true) 5))), xM MI ML Q)) := by
  have lp : ∀ (d n : Nat), n + d = 5 → xq110 (fun z => z = (some (.int (nI (cnt (fun j => hasI (sOut (MI 43) (MI 43 j) 5) j = true) 5))), xM MI ML Q)) (4, [some (.ref 39), some (.int (nI (cnt (fun j => hasI (sOut (MI 43) (MI 43 j) 5) j = true) n))), some (.int (nI n))], [], xM MI ML Q, 0, 0) := by
    intro d
    induction d with
    | zero =>
      intro n hn
      have : n = 5 := by omega
      subst this
      exact xb110_4 ⟨fun _ => rfl, fun hl => absurd (by decide) hl⟩
    | succ d ih =>
      intro n hn
      refine xb110_4 ⟨fun hl => absurd hl (nI_ge (a := n) (b := 5) (by omega) (by decide)), fun _ => ⟨vp_in_nI (by omega) (by decide), ?_⟩⟩
      rw [nI_clamp (by omega)]
      refine ⟨_, c102n _, ?_⟩
      rintro _ rfl
      refine xb110_22 ⟨_, c74 _ (k := n) (by omega), ?_⟩
      rintro _ rfl
      rw [hasI_l (by omega)]
      have := ih (n + 1) (by omega)
      refine xb110_27 ⟨fun q => ?_, fun q => ?_⟩
      · rw [bI_0] at q
        rw [cnt_n (p := fun j => hasI (sOut (MI 43) (MI 43 j) 5) j = true) (n := n) (fun z => (by rw [q] at z; cases z))] at this
        rw [nI_1]
        exact this
      · rw [bI_ne] at q
        rw [cnt_s (p := fun j => hasI (sOut (MI 43) (MI 43 j) 5) j = true) q] at this
        rw [nI_1, nI_1]
        exact this
  exact xm_in (xb110_0 (lp 5 0 rfl))
theorem c112 {n : Nat} (hk : k ≤ 48) (h12 : MI 12 4 = nI k) (hn : n < k) (hB : IBn MI n) : xm_Ev xz 112 [.ref 12, .int (nI n)] (xM MI ML Q) (fun z => ∃ b : Bool, z = (some (.int (bI b)), xM MI ML Q) ∧ (b = true ↔ vP MI n = 0)) := by
  obtain ⟨len, l1, l2, -, -, -, -, pl, p1, p2, -⟩ := hB
  have e : vP MI n = pl := by unfold vP; rw [p1, nI_clamp (by omega)]
  refine xm_in (xb112_0 ⟨_, c86 _, ?_⟩)
  rintro _ rfl
  rw [h12, decide_eq_true ⟨nI_pos (by omega), nI_lt hn (by omega)⟩]
  refine xb112_5 ⟨fun h => absurd h (by decide), fun _ => ⟨vp_in_nI (by omega) (by decide), ?_⟩⟩
  rw [nI_clamp (by omega), p1, e]
  have z : nI pl = 0 ↔ pl = 0 := nI_eq (b := 0) (by omega) (by decide)
  exact ⟨fun h => ⟨Or.inr rfl, true, rfl, fun _ => z.mp h, fun _ => rfl⟩, fun h => ⟨Or.inl rfl, false, rfl, fun q => (by cases q), fun q => absurd (z.mpr q) h⟩⟩
theorem c111 {U : Nat → Int64} (hV : VS k c MI ML Q N J U) (h12 : MI 12 4 = nI k) (hB : ∀ a, a < k → IBn MI a) : xm_Ev xz 111 [.ref 0] (xM MI ML Q) (fun z => z = (some (.int (nI (cnt (fun f => vP MI (N f) = 0) c))), xM MI ML Q)) := by
  obtain ⟨a1, a2, a3, a4, a5⟩ := hV
  have lp : ∀ (d i : Nat), i + d = c → xq111 (fun z => z = (some (.int (nI (cnt (fun f => vP MI (N f) = 0) c))), xM MI ML Q)) (4, [some (.ref 0), some (.int (nI (cnt (fun f => vP MI (N f) = 0) i))), some (.int (nI i))], [], xM MI ML Q, 0, 0) := by
    intro d
    induction d with
    | zero =>
      intro i hi
      have : i = c := by omega
      subst this
      refine xb111_4 ⟨fun _ => rfl, fun hl => ?_⟩
      rw [a3] at hl
      exact absurd (nI_le (Nat.le_refl i) (by omega)) hl
    | succ d ih =>
      intro i hi
      obtain ⟨q1, q2, -, -⟩ := a4.at (i := i) (by omega)
      obtain ⟨n1, n2, -⟩ := a5 i (by omega)
      refine xb111_4 ⟨fun hl => ?_, fun _ => ⟨vp_in_nI (by omega) (by decide), Q i - 1, q1, q2, ?_⟩⟩
      · rw [a3] at hl
        exact absurd hl (nI_ge (by omega) (by omega))
      · rw [n1]
        refine ⟨_, c112 a1 h12 n2 (hB _ n2), ?_⟩
        rintro _ ⟨b, rfl, hb⟩
        have := ih (i + 1) (by omega)
        refine xb111_34 ⟨fun q => ?_, fun q => ?_⟩
        · rw [bI_0] at q
          rw [cnt_n (p := fun f => vP MI (N f) = 0) (fun z => (by rw [hb.mpr z] at q; cases q))] at this
          rw [nI_1]
          exact this
        · rw [bI_ne] at q
          rw [cnt_s (p := fun f => vP MI (N f) = 0) (hb.mp q)] at this
          rw [nI_1, nI_1]
          exact this
  exact xm_in (xb111_0 (lp c 0 (by omega)))
theorem c113 {U : Nat → Int64} (hV : VS k c MI ML Q N J U) (hP : PV c MI N J) : xm_Ev xz 113 [.ref 17] (xM MI ML Q) (fun z => z = (some (.int (nI (cnt (fun f => ¬ FD c N J (N f) f) c))), xM MI ML Q)) := by
  have hV0 := hV
  obtain ⟨a1, a2, a3, a4, a5⟩ := hV
  have lp : ∀ (d i : Nat), i + d = c → xq113 (fun z => z = (some (.int (nI (cnt (fun f => ¬ FD c N J (N f) f) c))), xM MI ML Q)) (4, [some (.ref 17), some (.int (nI (cnt (fun f => ¬ FD c N J (N f) f) i))), some (.int (nI i))], [], xM MI ML Q, 0, 0) := by
    intro d
    induction d with
    | zero =>
      intro i hi
      have : i = c := by omega
      subst this
      refine xb113_4 ⟨fun _ => rfl, fun hl => ?_⟩
      rw [a3] at hl
      exact absurd (nI_le (Nat.le_refl i) (by omega)) hl
    | succ d ih =>
      intro i hi
      refine xb113_4 ⟨fun hl => ?_, fun _ => ⟨_, c71 hV0 hP (i := i) (by omega), ?_⟩⟩
      · rw [a3] at hl
        exact absurd hl (nI_ge (by omega) (by omega))
      · rintro _ ⟨b, rfl, hb⟩
        have := ih (i + 1) (by omega)
        refine xb113_17 ⟨fun q => ?_, fun q => ?_⟩
        · rw [bI_0] at q
          rw [cnt_s (p := fun f => ¬ FD c N J (N f) f) (fun z => (by rw [hb.mpr z] at q; cases q))] at this
          rw [nI_1, nI_1]
          exact this
        · rw [bI_ne] at q
          rw [cnt_n (p := fun f => ¬ FD c N J (N f) f) (fun z => z (hb.mp q))] at this
          rw [nI_1]
          exact this
  exact xm_in (xb113_0 (lp c 0 (by omega)))
theorem c170 {j : Nat} (hV : VM k c MI ML N J) (hj : j < 5) {nx : Nat → Int32} (h1 : ∀ i, i < 5 → ∀ b, hasI (nx i) b = true ↔ NJ c N J (ML 64) i b) : xm_Ev xz 170 [.ref 45, .int (nI j)] (xM MI ML Q) (fun z => z = (some (.int (bI (hasI (sOut nx (nx j) 5) j))), xM MI ML Q)) := by
  have hb64 : ∀ i, i < c → ∀ b, hasB (ML 64 i) b = true → b < k := fun i hi => (hV.2.2.2.2 i hi).2.2.2.2
  have inn : ∀ r, xq170 (fun z => z = (some (.int (bI (hasI (sOut nx (nx j) 5) j))), xM MI ML Q)) (9, [some (.ref 45), some (.int (nI j)), some (.int (sOut nx (nx j) (r + 1))), some (.int (nI (r + 1))), none], [], xM MI ML Q, 0, 0) → ∀ (d i : Nat), i + d = 5 → xq170 (fun z => z = (some (.int (bI (hasI (sOut nx (nx j) 5) j))), xM MI ML Q)) (17, [some (.ref 45), some (.int (nI j)), some (.int (sIn nx (sOut nx (nx j) r) i)), some (.int (nI r)), some (.int (nI i))], [], xM MI ML Q, 0, 0) := by
    intro r next d
    induction d with
    | zero =>
      intro i hi
      have : i = 5 := by omega
      subst this
      refine xb170_17 ⟨fun _ => ?_, fun hl => absurd (by decide) hl⟩
      rw [nI_1]
      exact next
    | succ d ih =>
      intro i hi
      have h3 := ih (i + 1) (by omega)
      unfold sIn at h3
      refine xb170_17 ⟨fun hl => absurd hl (nI_ge (a := i) (b := 5) (by omega) (by decide)), fun _ => ⟨fun h => ⟨_, c166 (V := ML 64) (o := 0) (j := i) hV (fun _ _ _ => rfl) (fun h => absurd rfl h) hb64 (by omega), ?_⟩, fun h => ?_⟩⟩
      · rw [bitI (by omega)] at h
        rw [h] at h3
        rintro _ ⟨v, rfl, hv⟩
        have : v = nx i := hasI_ext fun b _ => bool_iff ((hv b).trans (h1 i (by omega) b).symm)
        subst this
        refine xb170_41 ?_
        rw [nI_1]
        exact h3
      · rw [bitI (by omega)] at h
        rw [ts_nt h] at h3
        rw [nI_1]
        exact h3
  have out : ∀ (d r : Nat), r + d = 5 → xq170 (fun z => z = (some (.int (bI (hasI (sOut nx (nx j) 5) j))), xM MI ML Q)) (9, [some (.ref 45), some (.int (nI j)), some (.int (sOut nx (nx j) r)), some (.int (nI r)), none], [], xM MI ML Q, 0, 0) := by
    intro d
    induction d with
    | zero =>
      intro r hr
      have : r = 5 := by omega
      subst this
      refine xb170_9 ⟨fun _ => ⟨fun h => ⟨Or.inr rfl, ?_⟩, fun h => ⟨Or.inl rfl, ?_⟩⟩, fun hl => absurd (by decide) hl⟩
      · rw [bitI (by omega)] at h
        rw [h]; rfl
      · rw [bitI (by omega)] at h
        rw [ts_nt h]; rfl
    | succ d ih =>
      intro r hr
      exact xb170_9 ⟨fun hl => absurd hl (nI_ge (a := r) (b := 5) (by omega) (by decide)), fun _ => inn r (ih (r + 1) (by omega)) 5 0 rfl⟩
  refine xm_in (xb170_0 ⟨_, c166 (V := ML 64) (o := 0) (j := j) hV (fun _ _ _ => rfl) (fun h => absurd rfl h) hb64 hj, ?_⟩)
  rintro _ ⟨v, rfl, hv⟩
  have : v = nx j := hasI_ext fun b _ => bool_iff ((hv b).trans (h1 j hj b).symm)
  subst this
  exact xb170_6 (out 5 0 rfl)
end PROB
section PROB2
variable {MI : Nat → Nat → Int32} {ML : Nat → Nat → Int64} {Q : Nat → Nat} {k c : Nat} {N J : Nat → Nat}
/-- what the reference counts over names, jars, class files -/
def KA (MI : Nat → Nat → Int32) (ML : Nat → Nat → Int64) (c : Nat) (N J : Nat → Nat) (y : Int32) (n : Nat) : Prop := (y = 0 ∧ PM c N J (ML 64) n) ∨ (y = 1 ∧ P1 MI c N J n)
def KB (nx : Nat → Int32) (y : Int32) (j : Nat) : Prop := y = 2 ∧ hasI (sOut nx (nx j) 5) j = true
def KC (MI : Nat → Nat → Int32) (c : Nat) (N J : Nat → Nat) (y : Int32) (f : Nat) : Prop := (y = 3 ∧ vP MI (N f) = 0) ∨ (y = 4 ∧ ¬ FD c N J (N f) f)
theorem c168 (hV : VM k c MI ML N J) (hB : ∀ a, a < k → IBn MI a) (hP : IP k MI) {nx : Nat → Int32} (h1 : ∀ i, i < 5 → ∀ b, hasI (nx i) b = true ↔ NJ c N J (ML 64) i b) (y : Int32) : xm_Ev xz 168 [.ref 45, .int y] (xM MI ML Q) (fun z => ((¬ y < 0 ∧ y ≤ 4) ∧ z = (some (.int (nI (cnt (KA MI ML c N J y) k + cnt (KB nx y) 5 + cnt (KC MI c N J y) c))), xM MI ML Q)) ∨ (¬ (¬ y < 0 ∧ y ≤ 4) ∧ z = (some (.int (-1)), xM MI ML Q))) := by
  have hV0 := hV
  obtain ⟨a1, a2, a3, a4, a5⟩ := hV
  -- over class files
  have lpC : ∀ (m d f : Nat), f + d = c → xq168 (fun z => ((¬ y < 0 ∧ y ≤ 4) ∧ z = (some (.int (nI (m + cnt (KC MI c N J y) c))), xM MI ML Q)) ∨ (¬ (¬ y < 0 ∧ y ≤ 4) ∧ z = (some (.int (-1)), xM MI ML Q))) (117, [some (.ref 45), some (.int y), some (.int (nI (m + cnt (KC MI c N J y) f))), some (.int (nI f)), none, none], [], xM MI ML Q, 0, 0) := by
    intro m d
    induction d with
    | zero =>
      intro f hf
      have : f = c := by omega
      subst this
      refine xb168_117 ⟨fun _ => ⟨fun q => Or.inr ⟨fun z => z.1 q, rfl⟩, fun q => ⟨fun q2 => Or.inl ⟨⟨q, q2⟩, rfl⟩, fun q2 => Or.inr ⟨fun z => q2 z.2, rfl⟩⟩⟩, fun hl => ?_⟩
      rw [a4] at hl
      exact absurd (nI_le (Nat.le_refl f) (by omega)) hl
    | succ d ih =>
      intro f hf
      have fc : f < c := by omega
      have v1 : vp_in (nI f) 16 := vp_in_nI (by omega) (by decide)
      obtain ⟨n1, n2, -⟩ := a5 f fc
      have no : ¬ KC MI c N J y f → xq168 (fun z => ((¬ y < 0 ∧ y ≤ 4) ∧ z = (some (.int (nI (m + cnt (KC MI c N J y) c))), xM MI ML Q)) ∨ (¬ (¬ y < 0 ∧ y ≤ 4) ∧ z = (some (.int (-1)), xM MI ML Q))) (117, [some (.ref 45), some (.int y), some (.int (nI (m + cnt (KC MI c N J y) f))), some (.int (nI f + 1)), none, none], [], xM MI ML Q, 0, 0) := fun h => by
        have := ih (f + 1) (by omega)
        rw [cnt_n h] at this
        rw [nI_1]
        exact this
      have yes : KC MI c N J y f → xq168 (fun z => ((¬ y < 0 ∧ y ≤ 4) ∧ z = (some (.int (nI (m + cnt (KC MI c N J y) c))), xM MI ML Q)) ∨ (¬ (¬ y < 0 ∧ y ≤ 4) ∧ z = (some (.int (-1)), xM MI ML Q))) (117, [some (.ref 45), some (.int y), some (.int (nI (m + cnt (KC MI c N J y) f) + 1)), some (.int (nI f + 1)), none, none], [], xM MI ML Q, 0, 0) := fun h => by
        have := ih (f + 1) (by omega)
        rw [cnt_s h] at this
        rw [nI_1, nI_1]
        exact this
      refine xb168_117 ⟨fun hl => ?_, fun _ => ⟨fun e => ⟨v1, ?_⟩, fun e => ⟨fun e4 => ⟨v1, ?_⟩, fun e4 => ⟨fun _ => no fun z => ?_, fun q => absurd rfl q⟩⟩⟩⟩
      · rw [a4] at hl
        exact absurd hl (nI_ge (by omega) (by omega))
      · rw [nI_clamp (by omega), n1]
        refine ⟨_, c162 (a := N f) (by omega) (hB _ n2), ?_⟩
        rintro _ rfl
        obtain ⟨len, l1, l2, -, -, -, -, l7, -⟩ := (hB _ n2).pl
        have zz : nI (vH MI (N f)) = 0 ↔ vH MI (N f) = 0 := nI_eq (b := 0) (by omega) (by decide)
        have vv : vH MI (N f) = 0 ↔ vP MI (N f) = 0 := by
          unfold vH
          split <;> omega
        refine xb168_140 ⟨fun q => ⟨fun z => absurd z (by decide), fun _ => yes (Or.inl ⟨e, vv.mp (zz.mp q)⟩)⟩, fun q => ⟨fun _ => no fun z => ?_, fun z => absurd rfl z⟩⟩
        rcases z with ⟨-, z⟩ | ⟨z, -⟩
        · exact q (zz.mpr (vv.mpr z))
        · rw [e] at z; exact absurd z (by decide)
      · rw [nI_clamp (by omega), n1]
        refine ⟨_, c150 a2 a4 (nI (N f)), ?_⟩
        rintro _ ⟨v, rfl, hv⟩
        rcases isPr_FD hV0.pr (a := N f) (by omega) hv with ⟨-, hno⟩ | ⟨p, p1, ep⟩
        · exact absurd rfl (hno f fc)
        · subst ep
          have pc := p1.1
          refine xb168_166 ⟨fun q => ⟨fun _ => no fun z => ?_, fun z => absurd rfl z⟩, fun q => ⟨fun z => absurd z (by decide), fun _ => yes (Or.inr ⟨e4, fun z => q (by rw [p1.uniq z])⟩)⟩⟩
          have q := (nI_eq (by omega) (by omega)).mp q
          subst q
          rcases z with ⟨z, -⟩ | ⟨-, z⟩
          · exact e z
          · exact z p1
      · rcases z with ⟨z, -⟩ | ⟨z, -⟩
        · exact e z
        · exact e4 z
  -- over jars
  have lpB : ∀ (m d j : Nat), j + d = 5 → xq168 (fun z => ((¬ y < 0 ∧ y ≤ 4) ∧ z = (some (.int (nI (m + cnt (KB nx y) 5 + cnt (KC MI c N J y) c))), xM MI ML Q)) ∨ (¬ (¬ y < 0 ∧ y ≤ 4) ∧ z = (some (.int (-1)), xM MI ML Q))) (83, [some (.ref 45), some (.int y), some (.int (nI (m + cnt (KB nx y) j))), some (.int (nI j)), none, none], [], xM MI ML Q, 0, 0) := by
    intro m d
    induction d with
    | zero =>
      intro j hj
      have : j = 5 := by omega
      subst this
      exact xb168_83 ⟨fun _ => lpC (m + cnt (KB nx y) 5) c 0 (by omega), fun hl => absurd (by decide) hl⟩
    | succ d ih =>
      intro j hj
      have no : ¬ KB nx y j → xq168 (fun z => ((¬ y < 0 ∧ y ≤ 4) ∧ z = (some (.int (nI (m + cnt (KB nx y) 5 + cnt (KC MI c N J y) c))), xM MI ML Q)) ∨ (¬ (¬ y < 0 ∧ y ≤ 4) ∧ z = (some (.int (-1)), xM MI ML Q))) (83, [some (.ref 45), some (.int y), some (.int (nI (m + cnt (KB nx y) j))), some (.int (nI j + 1)), none, none], [], xM MI ML Q, 0, 0) := fun h => by
        have := ih (j + 1) (by omega)
        rw [cnt_n (n := j) h] at this
        rw [nI_1]
        exact this
      refine xb168_83 ⟨fun hl => absurd hl (nI_ge (a := j) (b := 5) (by omega) (by decide)), fun _ => ⟨fun e => ⟨_, c170 hV0 (j := j) (by omega) h1, ?_⟩, fun e => no fun z => e z.1⟩⟩
      rintro _ rfl
      refine xb168_98 ⟨fun q => no fun z => ?_, fun q => ?_⟩
      · rw [bI_0] at q
        rw [z.2] at q
        cases q
      · rw [bI_ne] at q
        have := ih (j + 1) (by omega)
        rw [cnt_s (n := j) (show KB nx y j from ⟨e, q⟩)] at this
        rw [nI_1, nI_1]
        exact this
  -- over names
  have lpA : ∀ (d n : Nat), n + d = k → xq168 (fun z => ((¬ y < 0 ∧ y ≤ 4) ∧ z = (some (.int (nI (cnt (KA MI ML c N J y) k + cnt (KB nx y) 5 + cnt (KC MI c N J y) c))), xM MI ML Q)) ∨ (¬ (¬ y < 0 ∧ y ≤ 4) ∧ z = (some (.int (-1)), xM MI ML Q))) (4, [some (.ref 45), some (.int y), some (.int (nI (cnt (KA MI ML c N J y) n))), some (.int (nI n)), none, none], [], xM MI ML Q, 0, 0) := by
    intro d
    induction d with
    | zero =>
      intro n hn
      have : n = k := by omega
      subst this
      refine xb168_4 ⟨fun _ => lpB _ 5 0 rfl, fun hl => ?_⟩
      rw [a3] at hl
      exact absurd (nI_le (Nat.le_refl n) (by omega)) hl
    | succ d ih =>
      intro n hn
      have nk : n < k := by omega
      have no : ¬ KA MI ML c N J y n → xq168 (fun z => ((¬ y < 0 ∧ y ≤ 4) ∧ z = (some (.int (nI (cnt (KA MI ML c N J y) k + cnt (KB nx y) 5 + cnt (KC MI c N J y) c))), xM MI ML Q)) ∨ (¬ (¬ y < 0 ∧ y ≤ 4) ∧ z = (some (.int (-1)), xM MI ML Q))) (4, [some (.ref 45), some (.int y), some (.int (nI (cnt (KA MI ML c N J y) n))), some (.int (nI n + 1)), none, none], [], xM MI ML Q, 0, 0) := fun h => by
        have := ih (n + 1) (by omega)
        rw [cnt_n (n := n) h] at this
        rw [nI_1]
        exact this
      have yes : KA MI ML c N J y n → xq168 (fun z => ((¬ y < 0 ∧ y ≤ 4) ∧ z = (some (.int (nI (cnt (KA MI ML c N J y) k + cnt (KB nx y) 5 + cnt (KC MI c N J y) c))), xM MI ML Q)) ∨ (¬ (¬ y < 0 ∧ y ≤ 4) ∧ z = (some (.int (-1)), xM MI ML Q))) (4, [some (.ref 45), some (.int y), some (.int (nI (cnt (KA MI ML c N J y) n) + 1)), some (.int (nI n + 1)), none, none], [], xM MI ML Q, 0, 0) := fun h => by
        have := ih (n + 1) (by omega)
        rw [cnt_s (n := n) h] at this
        rw [nI_1, nI_1]
        exact this
      refine xb168_4 ⟨fun hl => ?_, fun _ => ⟨_, c163 hV0 hB nk, ?_⟩⟩
      · rw [a3] at hl
        exact absurd hl (nI_ge (by omega) (by omega))
      · rintro _ ⟨v, rfl, hv⟩
        refine xb168_17 ⟨fun e => ⟨_, c169 hV0 nk, ?_⟩, fun e => ⟨fun e1 => ?_, fun e1 => ⟨fun _ => no fun z => ?_, fun q => absurd rfl q⟩⟩⟩
        · rintro _ ⟨b, rfl, hb⟩
          refine xb168_28 ⟨fun q => no fun z => ?_, fun q => ?_⟩
          · rw [bI_0] at q
            rcases z with ⟨-, z⟩ | ⟨z, -⟩
            · rw [hb.mpr z] at q; cases q
            · rw [e] at z; exact absurd z (by decide)
          · rw [bI_ne] at q
            exact yes (Or.inl ⟨e, hb.mp q⟩)
        · obtain ⟨g1, g2, g3, g4⟩ := hP.hm a1 nk
          refine ⟨_, c160 a1 a3 hB nk g2 g3 g4, ?_⟩
          rintro _ rfl
          have nP : ¬ P1 MI c N J n → ¬ KA MI ML c N J y n := fun h z => by
            rcases z with ⟨z, -⟩ | ⟨-, z⟩
            · exact e z
            · exact h z
          refine xb168_41 ⟨fun q => ⟨fun q2 => ⟨fun _ => no (nP fun z => ?_), fun z => absurd rfl z⟩, fun q2 => ⟨fun z => absurd z (by decide), fun _ => yes (Or.inr ⟨e1, g1.trans q, v, hv, q2⟩)⟩⟩, fun q => ⟨fun _ => no (nP fun z => q (g1.symm.trans z.1)), fun z => absurd rfl z⟩⟩
          obtain ⟨v', w1, w2⟩ := z.2
          rw [w1.uniq hv] at w2
          exact w2 q2
        · rcases z with ⟨z, -⟩ | ⟨z, -⟩
          · exact e z
          · exact e1 z
  exact xm_in (xb168_0 (lpA k 0 (by omega)))
end PROB2
section OPS10
variable {R : (Nat → Nat → Int32) → (Nat → Nat → Int64) → (Nat → Nat) → Prop}
theorem op16 (hR : ∀ DI DL Q, R DI DL Q → ∃ k c, IB k DI ∧ IP k DI ∧ IC k c DI DL Q ∧ ID c DI ∧ SJ c DI DL) (y : Int32) : xOpI (xInv R) 105 168 [.int y] := by
  intro MI ML Q hI
  obtain ⟨k, c, hB0, hP0, hC0, hD0, hJ0⟩ := hR _ _ _ hI.2
  have hB : IB k MI := hB0
  have hP : IP k MI := hP0
  have hC := hC0.get
  have hV := IC.vm hB hC
  have hS := IC.vs hB.1 hC
  have hPV : PV c MI (vN MI) (vJ MI) := ID.pv hV hD0
  have hJ : JM c (vN MI) (vJ MI) (ML 64) (ML 65) MI ML := hJ0
  obtain ⟨b1, b2, b3, b4⟩ := hB
  have m := c168 (Q := Q) hV b4 hP (nx := MI 43) (fun i hi => (hJ i hi).2.2.1) y
  have fin : ∀ v : Int32, xm_Ev xz 105 [.ref 0, .int y] (xM MI ML Q) (fun z => z = (some (.int v), xM MI ML Q)) → xm_Ev xz 168 [.ref 45, .int y] (xM MI ML Q) (fun z => z = (some (.int v), xM MI ML Q)) → xm_Ev xz 105 [.ref 0, .int y] (xM MI ML Q) (fun r => ∃ x MI' ML' Q', r = (some (.int x), (xSH, MI', ML', xmr Q')) ∧ xm_Ev xz 168 [.ref 45, .int y] (xSH, MI', ML', xmr Q') (fun r2 => ∃ MI'' ML'' Q'', r2 = (some (.int x), (xSH, MI'', ML'', xmr Q'')) ∧ xInv R MI'' ML'' Q'')) := fun v g1 g2 => by
    refine g1.imp ?_
    rintro _ rfl
    refine ⟨v, MI, ML, Q, rfl, g2.imp ?_⟩
    rintro _ rfl
    exact ⟨MI, ML, Q, rfl, hI⟩
  have nc : ∀ (p : Nat → Prop) n, (∀ i, ¬ p i) → cnt p n = 0 := fun p n h => cnt_none n (fun i _ => h i)
  have noA : y ≠ 0 → y ≠ 1 → cnt (KA MI ML c (vN MI) (vJ MI) y) k = 0 := fun e0 e1 => nc _ _ fun i z => by
    rcases z with ⟨z, -⟩ | ⟨z, -⟩
    · exact e0 z
    · exact e1 z
  have noB : y ≠ 2 → cnt (KB (MI 43) y) 5 = 0 := fun e => nc _ _ fun i z => e z.1
  have noC : y ≠ 3 → y ≠ 4 → cnt (KC MI c (vN MI) (vJ MI) y) c = 0 := fun e0 e1 => nc _ _ fun i z => by
    rcases z with ⟨z, -⟩ | ⟨z, -⟩
    · exact e0 z
    · exact e1 z
  have cx : ∀ (p q : Nat → Prop) n, (∀ i, p i ↔ q i) → cnt p n = cnt q n := fun p q n h => cnt_cg n (fun i _ => h i)
  show xm_Ev xz 105 [.ref 0, .int y] (xM MI ML Q) _
  by_cases y0 : y = 0
  · subst y0
    refine fin (nI (cnt (PM c (vN MI) (vJ MI) (ML 64)) k)) ?_ ?_
    · refine xm_in (xb105_0 ⟨fun _ => ⟨_, c106 hS hPV, ?_⟩, fun h => absurd rfl h⟩)
      rintro _ ⟨w, rfl, hw⟩
      refine xb105_43 ⟨_, c107 w, ?_⟩
      rintro _ rfl
      refine xb105_46 ?_
      have e : cnt (fun b => hasB w b = true) 64 = cnt (PM c (vN MI) (vJ MI) (ML 64)) k := by
        have tr := cnt_trim (p := PM c (vN MI) (vJ MI) (ML 64)) (k := k) (fun i hi => ?_) (64 - k)
        · rw [show k + (64 - k) = 64 by omega] at tr
          rw [cx _ _ 64 hw, tr]
        · rintro ⟨⟨f, f1, -, f3⟩, -⟩
          have := (hV.2.2.2.2 f f1).2.2.2.2 i f3
          omega
      rw [e]
    · refine m.imp ?_
      rintro _ (⟨-, rfl⟩ | ⟨h, -⟩)
      · rw [noB (by decide), noC (by decide) (by decide), cx (KA MI ML c (vN MI) (vJ MI) 0) (PM c (vN MI) (vJ MI) (ML 64)) k (fun i => ⟨fun z => z.elim (fun z => z.2) (fun z => absurd z.1 (by decide)), fun z => Or.inl ⟨rfl, z⟩⟩)]
        rfl
      · exact absurd (by decide) h
  · by_cases y1 : y = 1
    · subst y1
      refine fin (nI (cnt (P1 MI c (vN MI) (vJ MI)) k)) ?_ ?_
      · refine xm_in (xb105_0 ⟨fun h => absurd h y0, fun _ => ⟨fun _ => ⟨_, c108 hS b2 hP, ?_⟩, fun h => absurd rfl h⟩⟩)
        rintro _ rfl
        exact xb105_51 rfl
      · refine m.imp ?_
        rintro _ (⟨-, rfl⟩ | ⟨h, -⟩)
        · rw [noB (by decide), noC (by decide) (by decide), cx (KA MI ML c (vN MI) (vJ MI) 1) (P1 MI c (vN MI) (vJ MI)) k (fun i => ⟨fun z => z.elim (fun z => absurd z.1 (by decide)) (fun z => z.2), fun z => Or.inr ⟨rfl, z⟩⟩)]
          rfl
        · exact absurd (by decide) h
    · by_cases y2 : y = 2
      · subst y2
        refine fin (nI (cnt (fun j => hasI (sOut (MI 43) (MI 43 j) 5) j = true) 5)) ?_ ?_
        · refine xm_in (xb105_0 ⟨fun h => absurd h y0, fun _ => ⟨fun h => absurd h y1, fun _ => ⟨fun _ => ⟨_, c110, ?_⟩, fun h => absurd rfl h⟩⟩⟩)
          rintro _ rfl
          exact xb105_59 rfl
        · refine m.imp ?_
          rintro _ (⟨-, rfl⟩ | ⟨h, -⟩)
          · rw [noA (by decide) (by decide), noC (by decide) (by decide), cx (KB (MI 43) 2) (fun j => hasI (sOut (MI 43) (MI 43 j) 5) j = true) 5 (fun i => ⟨fun z => z.2, fun z => ⟨rfl, z⟩⟩), Nat.zero_add, Nat.add_zero]
          · exact absurd (by decide) h
      · by_cases y3 : y = 3
        · subst y3
          refine fin (nI (cnt (fun f => vP MI (vN MI f) = 0) c)) ?_ ?_
          · refine xm_in (xb105_0 ⟨fun h => absurd h y0, fun _ => ⟨fun h => absurd h y1, fun _ => ⟨fun h => absurd h y2, fun _ => ⟨fun _ => ⟨_, c111 hS b2 b4, ?_⟩, fun h => absurd rfl h⟩⟩⟩⟩)
            rintro _ rfl
            exact xb105_64 rfl
          · refine m.imp ?_
            rintro _ (⟨-, rfl⟩ | ⟨h, -⟩)
            · rw [noA (by decide) (by decide), noB (by decide), cx (KC MI c (vN MI) (vJ MI) 3) (fun f => vP MI (vN MI f) = 0) c (fun i => ⟨fun z => z.elim (fun z => z.2) (fun z => absurd z.1 (by decide)), fun z => Or.inl ⟨rfl, z⟩⟩), Nat.zero_add]
            · exact absurd (by decide) h
        · by_cases y4 : y = 4
          · subst y4
            refine fin (nI (cnt (fun f => ¬ FD c (vN MI) (vJ MI) (vN MI f) f) c)) ?_ ?_
            · refine xm_in (xb105_0 ⟨fun h => absurd h y0, fun _ => ⟨fun h => absurd h y1, fun _ => ⟨fun h => absurd h y2, fun _ => ⟨fun h => absurd h y3, fun _ => ⟨fun _ => ⟨_, c113 hS hPV, ?_⟩, fun h => absurd rfl h⟩⟩⟩⟩⟩)
              rintro _ rfl
              exact xb105_72 rfl
            · refine m.imp ?_
              rintro _ (⟨-, rfl⟩ | ⟨h, -⟩)
              · rw [noA (by decide) (by decide), noB (by decide), cx (KC MI c (vN MI) (vJ MI) 4) (fun f => ¬ FD c (vN MI) (vJ MI) (vN MI f) f) c (fun i => ⟨fun z => z.elim (fun z => absurd z.1 (by decide)) (fun z => z.2), fun z => Or.inr ⟨rfl, z⟩⟩), Nat.zero_add]
              · exact absurd (by decide) h
          · refine fin (-1) ?_ ?_
            · exact xm_in (xb105_0 ⟨fun h => absurd h y0, fun _ => ⟨fun h => absurd h y1, fun _ => ⟨fun h => absurd h y2, fun _ => ⟨fun h => absurd h y3, fun _ => ⟨fun h => absurd h y4, fun _ => rfl⟩⟩⟩⟩⟩)
            · refine m.imp ?_
              rintro _ (⟨h, -⟩ | ⟨-, rfl⟩)
              · obtain ⟨q, q1, rfl⟩ := nI_of2 (n := 4) rfl h.1 h.2
                exfalso
                rcases q with _ | _ | _ | _ | _ | q
                · exact y0 rfl
                · exact y1 rfl
                · exact y2 rfl
                · exact y3 rfl
                · exact y4 rfl
                · omega
              · rfl
end OPS10
