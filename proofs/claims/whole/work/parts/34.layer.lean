section LAYER
variable {Q : Nat → Nat} {ML : Nat → Nat → Int64} {k c : Nat} {N J : Nat → Nat} {T : Nat → Nat}
theorem tgI {a t : Nat} {E : Nat → Nat → Prop} (ha : a < k) (ht : t < k) (hX : ∀ n t, n < k → (hasB (ML 66 n) t = true ↔ Cl E n t)) : (hasB (ML 66 a) t && hasB (ML 66 t) a) = true ↔ Tg E a t := by
  rw [Bool.and_eq_true, hX a t ha, hX t a ht]
  exact Iff.rfl
theorem c159 {MI : Nat → Nat → Int32} (hV : VM k c MI ML N J) (hX : ∀ n t, n < k → (hasB (ML 66 n) t = true ↔ Cl (ED c N J (ML 64)) n t)) {g : Nat → Nat} (hG : ∀ t, t < k → MI 67 t = nI (g t) ∧ g t ≤ 16) {a : Nat} (ha : a < k) : xm_Ev xz 159 [.ref 45, .int (nI a)] (xM MI ML Q) (fun z => ∃ m : Nat, z = (some (.int (nI (m + 1))), xM MI ML Q) ∧ (∀ t, Gl (ED c N J (ML 64)) a t → g t ≤ m) ∧ (m = 0 ∨ ∃ t, Gl (ED c N J (ML 64)) a t ∧ m = g t)) := by
  have hV0 := hV
  obtain ⟨a1, a2, a3, a4, a5⟩ := hV
  have ein : ∀ x y, ED c N J (ML 64) x y → y < k := fun x y e => (ED_lt hV0 e).2
  have out : ∀ (d m : Nat), m + d = k → ∀ b : Nat, (∀ m', m' < m → Tg (ED c N J (ML 64)) a m' → ∀ t, ED c N J (ML 64) m' t → ¬ Tg (ED c N J (ML 64)) a t → g t ≤ b) → (b = 0 ∨ ∃ t, Gl (ED c N J (ML 64)) a t ∧ b = g t) → xq159 (fun z => ∃ m : Nat, z = (some (.int (nI (m + 1))), xM MI ML Q) ∧ (∀ t, Gl (ED c N J (ML 64)) a t → g t ≤ m) ∧ (m = 0 ∨ ∃ t, Gl (ED c N J (ML 64)) a t ∧ m = g t)) (4, [some (.ref 45), some (.int (nI a)), some (.int (nI b)), some (.int (nI m)), none, none], [], xM MI ML Q, 0, 0) := by
    intro d
    induction d with
    | zero =>
      intro m hm b b1 b2
      have : m = k := by omega
      subst this
      refine xb159_4 ⟨fun _ => ⟨b, by rw [nI_1], fun t ⟨m', q1, q2, q3⟩ => b1 m' ?_ q1 t q2 q3, b2⟩, fun hl => ?_⟩
      · by_cases e : a = m'
        · omega
        · exact Cl.into ein q1.1 e
      · rw [a3] at hl
        exact absurd (nI_le (Nat.le_refl m) (by omega)) hl
    | succ d ih =>
      intro m hm b b1 b2
      have mk : m < k := by omega
      -- the inner loop
      have inn : ∀ (i : Nat), FD c N J m i → Tg (ED c N J (ML 64)) a m → ∀ (d' s : Nat), s + d' = k → ∀ b' : Nat, (∀ m', m' < m → Tg (ED c N J (ML 64)) a m' → ∀ t, ED c N J (ML 64) m' t → ¬ Tg (ED c N J (ML 64)) a t → g t ≤ b') → (∀ t, t < s → ED c N J (ML 64) m t → ¬ Tg (ED c N J (ML 64)) a t → g t ≤ b') → (b' = 0 ∨ ∃ t, Gl (ED c N J (ML 64)) a t ∧ b' = g t) → xq159 (fun z => ∃ m : Nat, z = (some (.int (nI (m + 1))), xM MI ML Q) ∧ (∀ t, Gl (ED c N J (ML 64)) a t → g t ≤ m) ∧ (m = 0 ∨ ∃ t, Gl (ED c N J (ML 64)) a t ∧ m = g t)) (35, [some (.ref 45), some (.int (nI a)), some (.int (nI b')), some (.int (nI m)), some (.int (nI i)), some (.int (nI s))], [], xM MI ML Q, 0, 0) := by
        intro i hi hg d'
        have edi : ∀ t, ED c N J (ML 64) m t ↔ hasB (ML 64 i) t = true := fun t => by
          constructor
          · rintro ⟨j, j1, j2⟩
            rw [hi.uniq j1]; exact j2
          · exact fun q => ⟨i, hi, q⟩
        have hic := hi.1
        induction d' with
        | zero =>
          intro s hs b' c1 c2 c3
          have : s = k := by omega
          subst this
          refine xb159_35 ⟨fun _ => ?_, fun hl => ?_⟩
          · rw [nI_1]
            refine ih (m + 1) (by omega) b' (fun m' q1 q2 t q3 q4 => ?_) c3
            by_cases e : m' = m
            · subst e; exact c2 t (ein _ _ q3) q3 q4
            · exact c1 m' (by omega) q2 t q3 q4
          · rw [a3] at hl
            exact absurd (nI_le (Nat.le_refl s) (by omega)) hl
        | succ d' ihd =>
          intro s hs b' c1 c2 c3
          have sk : s < k := by omega
          have b16 : b' ≤ 16 := by
            rcases c3 with e | ⟨t, t1, e⟩
            · omega
            · obtain ⟨m', -, q, -⟩ := t1
              have := (hG t (ein _ _ q)).2
              omega
          have stay : (ED c N J (ML 64) m s → ¬ Tg (ED c N J (ML 64)) a s → g s ≤ b') → xq159 (fun z => ∃ m : Nat, z = (some (.int (nI (m + 1))), xM MI ML Q) ∧ (∀ t, Gl (ED c N J (ML 64)) a t → g t ≤ m) ∧ (m = 0 ∨ ∃ t, Gl (ED c N J (ML 64)) a t ∧ m = g t)) (35, [some (.ref 45), some (.int (nI a)), some (.int (nI b')), some (.int (nI m)), some (.int (nI i)), some (.int (nI s + 1))], [], xM MI ML Q, 0, 0) := fun hs' => by
            rw [nI_1]
            refine ihd (s + 1) (by omega) b' c1 (fun t t1 t2 t3 => ?_) c3
            by_cases e : t = s
            · subst e; exact hs' t2 t3
            · exact c2 t (by omega) t2 t3
          refine xb159_35 ⟨fun hl => ?_, fun _ => ⟨fun h => absurd h (nI_pos (by omega)), fun _ => ⟨vp_in_nI (by omega) (by decide), ?_⟩⟩⟩
          · rw [a3] at hl
            exact absurd hl (nI_ge (by omega) (by omega))
          · rw [nI_clamp (by omega)]
            refine ⟨_, c155 _ (k := s) (by omega), ?_⟩
            rintro _ rfl
            refine xb159_61 ⟨fun h => ?_, fun h => ⟨_, c157 (a := a) (t := s) (by omega) (by omega), ?_⟩⟩
            · rw [bI_0] at h
              exact stay (fun q => by rw [edi, h] at q; cases q)
            · rw [bI_ne] at h
              rintro _ rfl
              refine xb159_71 ⟨fun h' => ⟨vp_in_nI (by omega) (by decide), ?_⟩, fun h' => ?_⟩
              · rw [bI_0] at h'
                have nt : ¬ Tg (ED c N J (ML 64)) a s := fun q => by
                  rw [(tgI ha sk hX).mpr q] at h'
                  cases h'
                obtain ⟨g1, g2⟩ := hG s sk
                rw [nI_clamp (by omega), g1, nI_leI (by omega) (by omega)]
                refine ⟨fun hl => stay (fun _ _ => hl), fun hl => ⟨vp_in_nI (by omega) (by decide), ?_⟩⟩
                rw [nI_1]
                refine ihd (s + 1) (by omega) (g s) (fun m' q1 q2 t q3 q4 => ?_) (fun t t1 t2 t3 => ?_) (Or.inr ⟨s, ⟨m, hg, (edi s).mpr h, nt⟩, rfl⟩)
                · have := c1 m' q1 q2 t q3 q4
                  omega
                · by_cases e : t = s
                  · subst e; exact Nat.le_refl _
                  · have := c2 t (by omega) t2 t3
                    omega
              · rw [bI_ne] at h'
                exact stay (fun _ q => absurd ((tgI ha sk hX).mp h') q)
      -- nothing to see there
      have non : ∀ s : Nat, (∀ t, Tg (ED c N J (ML 64)) a m → ED c N J (ML 64) m t → False) → xq159 (fun z => ∃ m : Nat, z = (some (.int (nI (m + 1))), xM MI ML Q) ∧ (∀ t, Gl (ED c N J (ML 64)) a t → g t ≤ m) ∧ (m = 0 ∨ ∃ t, Gl (ED c N J (ML 64)) a t ∧ m = g t)) (35, [some (.ref 45), some (.int (nI a)), some (.int (nI b)), some (.int (nI m)), some (.int (-1)), some (.int (nI s))], [], xM MI ML Q, 0, 0) := fun s hno => by
        have go : xq159 (fun z => ∃ m : Nat, z = (some (.int (nI (m + 1))), xM MI ML Q) ∧ (∀ t, Gl (ED c N J (ML 64)) a t → g t ≤ m) ∧ (m = 0 ∨ ∃ t, Gl (ED c N J (ML 64)) a t ∧ m = g t)) (4, [some (.ref 45), some (.int (nI a)), some (.int (nI b)), some (.int (nI m + 1)), none, none], [], xM MI ML Q, 0, 0) := by
          rw [nI_1]
          refine ih (m + 1) (by omega) b (fun m' q1 q2 t q3 q4 => ?_) b2
          by_cases e : m' = m
          · subst e; exact absurd q3 (hno t q2)
          · exact b1 m' (by omega) q2 t q3 q4
        exact xb159_35 ⟨fun _ => go, fun _ => ⟨fun _ => go, fun h => absurd (by decide) h⟩⟩
      refine xb159_4 ⟨fun hl => ?_, fun _ => ⟨_, c157 (a := a) (t := m) (by omega) (by omega), ?_⟩⟩
      · rw [a3] at hl
        exact absurd hl (nI_ge (by omega) (by omega))
      · rintro _ rfl
        refine xb159_18 ⟨fun h => ?_, fun h => ⟨_, c150 a2 a4 (nI m), ?_⟩⟩
        · rw [bI_0] at h
          exact non 0 (fun t q => by rw [(tgI ha mk hX).mpr q] at h; cases h)
        · rw [bI_ne] at h
          have hg := (tgI ha mk hX).mp h
          rintro _ ⟨v, rfl, hv⟩
          refine xb159_26 ?_
          rcases isPr_FD hV0.pr (a := m) (by omega) hv with ⟨e, hno⟩ | ⟨i, i1, e⟩
          · subst e
            exact non 0 (fun t _ ⟨j, ⟨j1, j2, _⟩, _⟩ => hno j j1 j2)
          · subst e
            exact inn i i1 hg k 0 (by omega) b b1 (fun t h => absurd h (Nat.not_lt_zero t)) b2
  refine xm_in (xb159_0 ?_)
  exact out k 0 (by omega) 0 (fun m h => absurd h (Nat.not_lt_zero m)) (Or.inl rfl)
theorem c158 {MI : Nat → Nat → Int32} (hV : VM k c MI ML N J) (hX : ∀ n t, n < k → (hasB (ML 66 n) t = true ↔ Cl (ED c N J (ML 64)) n t)) (hT : LF (ED c N J (ML 64)) (fun a => ∃ i, FD c N J a i) T) (hT16 : ∀ a, T a ≤ 16) {a : Nat} (ha : a < k) : xq158 (fun z => ∃ MI', z = (some (.int (nI (T a))), xM MI' ML Q) ∧ ∀ a j, a ≠ 67 → MI' a j = MI a j) (14, [some (.ref 45), some (.int (nI a)), none, none, none], [], xM MI ML Q, 0, 0) := by
  have hV0 := hV
  obtain ⟨a1, a2, a3, a4, a5⟩ := hV
  have eout : ∀ x y, ED c N J (ML 64) x y → ∃ i, FD c N J x i := fun x y ⟨i, i1, _⟩ => ⟨i, i1⟩
  have ein : ∀ x y, ED c N J (ML 64) x y → y < k := fun x y e => (ED_lt hV0 e).2
  -- one round
  have rnd : ∀ (r : Nat) (lay : Nat → Nat), (∀ (b : Bool) (M4 : Nat → Nat → Int32) (g : Nat → Nat), (∀ x j, x ≠ 67 → M4 x j = MI x j) → (∀ t, t < k → M4 67 t = nI (g t) ∧ (T t ≤ g t ∨ r + 1 ≤ g t) ∧ g t ≤ T t) → (b = false → (∀ t, t < k → g t = lay t) ∧ ∀ t, t < k → (∃ i, FD c N J t i) → 1 ≤ lay t ∧ ∀ s, Gl (ED c N J (ML 64)) t s → lay s < lay t) → ((∀ t, t < k → lay t = T t) → b = false) → xq158 (fun z => ∃ MI', z = (some (.int (nI (T a))), xM MI' ML Q) ∧ ∀ a j, a ≠ 67 → MI' a j = MI a j) (39, [some (.ref 45), some (.int (nI a)), some (.int (bI b)), none, none], [], xM M4 ML Q, 0, 0)) → ∀ (d n : Nat), n + d = k → ∀ (b : Bool) (M4 : Nat → Nat → Int32) (g : Nat → Nat), (∀ x j, x ≠ 67 → M4 x j = MI x j) → (∀ t, t < k → M4 67 t = nI (g t) ∧ (T t ≤ g t ∨ r ≤ g t) ∧ g t ≤ T t) → (∀ t, t < n → T t ≤ g t ∨ r + 1 ≤ g t) → (b = false → (∀ t, t < k → g t = lay t) ∧ ∀ t, t < n → (∃ i, FD c N J t i) → 1 ≤ lay t ∧ ∀ s, Gl (ED c N J (ML 64)) t s → lay s < lay t) → ((∀ t, t < k → lay t = T t) → b = false) → xq158 (fun z => ∃ MI', z = (some (.int (nI (T a))), xM MI' ML Q) ∧ ∀ a j, a ≠ 67 → MI' a j = MI a j) (47, [some (.ref 45), some (.int (nI a)), some (.int (bI b)), some (.int (nI n)), none], [], xM M4 ML Q, 0, 0) := by
    intro r lay next d
    induction d with
    | zero =>
      intro n hn b M4 g m0 m1 m2 m3 m4
      have : n = k := by omega
      subst this
      refine xb158_47 ⟨fun _ => next b M4 g m0 (fun t ht => ⟨(m1 t ht).1, m2 t ht, (m1 t ht).2.2⟩) m3 m4, fun hl => ?_⟩
      rw [m0 45 19 (by decide), a3] at hl
      exact absurd (nI_le (Nat.le_refl n) (by omega)) hl
    | succ d ih =>
      intro n hn b M4 g m0 m1 m2 m3 m4
      have nk : n < k := by omega
      have v1 : vp_in (nI n) 48 := vp_in_nI (by omega) (by decide)
      have hV4 : VM k c M4 ML N J := ⟨a1, a2, by rw [m0 45 19 (by decide)]; exact a3, by rw [m0 45 24 (by decide)]; exact a4, fun i hi => by rw [m0 58 i (by decide), m0 57 i (by decide)]; exact a5 i hi⟩
      obtain ⟨g1, g2, g3⟩ := m1 n nk
      have tn := hT16 n
      -- the store
      have sto : ∀ nw : Nat, (T n ≤ nw ∨ r + 1 ≤ nw) → nw ≤ T n → ((∃ i, FD c N J n i) → 1 ≤ nw ∧ ∀ s, Gl (ED c N J (ML 64)) n s → g s < nw) → ((∀ t, t < k → g t = T t) → nw = T n) → xq158 (fun z => ∃ MI', z = (some (.int (nI (T a))), xM MI' ML Q) ∧ ∀ a j, a ≠ 67 → MI' a j = MI a j) (72, [some (.ref 45), some (.int (nI a)), some (.int (bI b)), some (.int (nI n)), none], [.int (nI nw)], xM M4 ML Q, 0, 0) := fun nw w1 w2 w3 w4 => by
        have go : ∀ b' : Bool, (b' = false → b = false ∧ nw = g n) → (b = false ∧ nw = g n → b' = false) → xq158 (fun z => ∃ MI', z = (some (.int (nI (T a))), xM MI' ML Q) ∧ ∀ a j, a ≠ 67 → MI' a j = MI a j) (47, [some (.ref 45), some (.int (nI a)), some (.int (bI b')), some (.int (nI n + 1)), none], [], xM (xm_up M4 67 n (nI nw)) ML Q, 0, 0) := fun b' e1 e2 => by
          rw [nI_1]
          refine ih (n + 1) (by omega) b' _ (fun t => if t = n then nw else g t) (fun x j hx => by rw [xm_up_ne hx]; exact m0 x j hx) (fun t ht => ?_) (fun t ht => ?_) (fun hb => ?_) (fun hl => ?_)
          · rw [xm_up_self]
            by_cases e : t = n
            · subst e
              rw [if_pos rfl, if_pos rfl]
              exact ⟨rfl, by omega, w2⟩
            · rw [if_neg e, if_neg e]
              exact m1 t ht
          · by_cases e : t = n
            · subst e
              rw [if_pos rfl]
              exact w1
            · rw [if_neg e]
              exact m2 t (by omega)
          · obtain ⟨x1, x2⟩ := e1 hb
            obtain ⟨y1, y2⟩ := m3 x1
            refine ⟨fun t ht => ?_, fun t ht hf => ?_⟩
            · by_cases e : t = n
              · subst e
                rw [if_pos rfl, x2]
                exact y1 t nk
              · rw [if_neg e]
                exact y1 t ht
            · by_cases e : t = n
              · subst e
                obtain ⟨z1, z2⟩ := w3 hf
                rw [← y1 t nk, ← x2]
                refine ⟨z1, fun s hs => ?_⟩
                have sk : s < k := by
                  obtain ⟨m', -, q, -⟩ := hs
                  exact ein _ _ q
                rw [← y1 s sk]
                exact z2 s hs
              · exact y2 t (by omega) hf
          · have hb := m4 hl
            obtain ⟨y1, y2⟩ := m3 hb
            have hg : ∀ t, t < k → g t = T t := fun t ht => (y1 t ht).trans (hl t ht)
            exact e2 ⟨hb, by rw [w4 hg, hg n nk]⟩
        refine xb158_72 ⟨fun hb => ⟨v1, ?_⟩, fun hb => ⟨v1, ?_⟩⟩
        · rw [bI_0] at hb
          rw [nI_clamp (by omega), g1]
          refine ⟨fun e => ⟨v1, go false (fun _ => ⟨hb, (nI_eq (by omega) (by omega)).mp e⟩) (fun _ => rfl)⟩, fun e => ⟨v1, go true (fun q => by cases q) (fun q => absurd (by rw [q.2]) e)⟩⟩
        · rw [bI_ne] at hb
          rw [nI_clamp (by omega)]
          exact go true (fun q => by cases q) (fun q => by rw [hb] at q; cases q.1)
      refine xb158_47 ⟨fun hl => ?_, fun _ => ⟨_, c150 a2 hV4.2.2.2.1 (nI n), ?_⟩⟩
      · rw [m0 45 19 (by decide), a3] at hl
        exact absurd hl (nI_ge (by omega) (by omega))
      · rintro _ ⟨v, rfl, hv⟩
        rcases isPr_FD hV4.pr (a := n) (by omega) hv with ⟨e, hno⟩ | ⟨i, i1, e⟩
        · subst e
          have hnf : ¬ ∃ i, FD c N J n i := fun ⟨i, i1, i2, _⟩ => hno i i1 i2
          have t0 := (hT n).1 hnf
          refine xb158_60 ⟨fun h => absurd h (by decide), fun _ => ?_⟩
          exact sto 0 (by omega) (by omega) (fun q => absurd q hnf) (fun _ => t0.symm)
        · subst e
          have hic := i1.1
          obtain ⟨t1, t2⟩ := hT.gl eout (a := n) ⟨i, i1⟩
          have hp := hT.pos (a := n) ⟨i, i1⟩
          refine xb158_60 ⟨fun _ => ⟨_, c159 hV4 hX (g := g) (fun t ht => ⟨(m1 t ht).1, by have := (m1 t ht).2.2; have := hT16 t; omega⟩) nk, ?_⟩, fun h => absurd (nI_pos' (by omega)) h⟩
          rintro _ ⟨m, rfl, x1, x2⟩
          have glk : ∀ s, Gl (ED c N J (ML 64)) n s → s < k := fun s ⟨m', _, q, _⟩ => ein _ _ q
          refine sto (m + 1) ?_ ?_ (fun _ => ⟨by omega, fun s hs => by have := x1 s hs; omega⟩) (fun hg => ?_)
          · rcases t2 with e | ⟨t, y1, y2⟩
            · left; omega
            · have := x1 t y1
              have := (m1 t (glk t y1)).2.1
              omega
          · rcases x2 with e | ⟨t, y1, y2⟩
            · omega
            · have := t1 t y1
              have := (m1 t (glk t y1)).2.2
              omega
          · have up : m + 1 ≤ T n := by
              rcases x2 with e | ⟨t, y1, y2⟩
              · omega
              · have := t1 t y1
                have := hg t (glk t y1)
                omega
            rcases t2 with e | ⟨t, y1, y2⟩
            · omega
            · have := x1 t y1
              have := hg t (glk t y1)
              omega
  -- rounds
  have rds : ∀ (d r : Nat), r + d = 18 → ∀ (b : Bool) (M4 : Nat → Nat → Int32) (g : Nat → Nat), (∀ x j, x ≠ 67 → M4 x j = MI x j) → (∀ t, t < k → M4 67 t = nI (g t) ∧ (T t ≤ g t ∨ r ≤ g t) ∧ g t ≤ T t) → (b = false → ∀ t, t < k → g t = T t) → (r = 18 → b = false) → xq158 (fun z => ∃ MI', z = (some (.int (nI (T a))), xM MI' ML Q) ∧ ∀ a j, a ≠ 67 → MI' a j = MI a j) (39, [some (.ref 45), some (.int (nI a)), some (.int (bI b)), none, none], [], xM M4 ML Q, 0, 0) := by
    intro d
    induction d with
    | zero =>
      intro r hr b M4 g m0 m1 m2 m3
      have hb := m3 (by omega)
      refine xb158_39 ⟨fun _ => ⟨vp_in_nI (by omega) (by decide), M4, ?_, m0⟩, fun h => absurd (bI_0.mpr hb) h⟩
      rw [nI_clamp (by omega), (m1 a ha).1, m2 hb a ha]
    | succ d ih =>
      intro r hr b M4 g m0 m1 m2 m3
      refine xb158_39 ⟨fun h => ⟨vp_in_nI (by omega) (by decide), M4, ?_, m0⟩, fun _ => ?_⟩
      · rw [bI_0] at h
        rw [nI_clamp (by omega), (m1 a ha).1, m2 h a ha]
      · refine rnd r g (fun b' M5 g' x0 x1 x2 x3 => ?_) k 0 (by omega) false M4 g m0 m1 (fun t h => absurd h (Nat.not_lt_zero t)) (fun _ => ⟨fun _ _ => rfl, fun t h => absurd h (Nat.not_lt_zero t)⟩) (fun _ => rfl)
        refine ih (r + 1) (by omega) b' M5 g' x0 x1 (fun hb => ?_) (fun e => x3 (fun t ht => ?_))
        · obtain ⟨y1, y2⟩ := x2 hb
          have key : ∀ n t, t < k → T t ≤ n → g t = T t := by
            intro n
            induction n with
            | zero =>
              intro t ht hn
              have := (m1 t ht).2.2
              omega
            | succ n ihn =>
              intro t ht hn
              by_cases hf : ∃ i, FD c N J t i
              · obtain ⟨z1, z2⟩ := y2 t ht hf
                have := (m1 t ht).2.2
                obtain ⟨t1, t2⟩ := hT.gl eout (a := t) hf
                rcases t2 with e | ⟨s, w1, w2⟩
                · omega
                · have sk : s < k := by
                    obtain ⟨m', -, q, -⟩ := w1
                    exact ein _ _ q
                  have := ihn s sk (by omega)
                  have := z2 s w1
                  omega
              · have := (hT t).1 hf
                have := (m1 t ht).2.2
                omega
          intro t ht
          rw [y1 t ht]
          exact key _ t ht (Nat.le_refl _)
        · have := (m1 t ht).2
          have := hT16 t
          omega
  -- the first loop
  have one : ∀ (d n : Nat), n + d = k → ∀ (M4 : Nat → Nat → Int32), (∀ x j, x ≠ 67 → M4 x j = MI x j) → (∀ t, t < n → M4 67 t = 0) → xq158 (fun z => ∃ MI', z = (some (.int (nI (T a))), xM MI' ML Q) ∧ ∀ a j, a ≠ 67 → MI' a j = MI a j) (16, [some (.ref 45), some (.int (nI a)), some (.int (nI n)), none, none], [], xM M4 ML Q, 0, 0) := by
    intro d
    induction d with
    | zero =>
      intro n hn M4 m0 m1
      have : n = k := by omega
      subst this
      refine xb158_16 ⟨fun _ => ?_, fun hl => ?_⟩
      · exact rds 18 0 (by omega) true M4 (fun _ => 0) m0 (fun t ht => ⟨m1 t ht, Or.inr (Nat.le_refl 0), Nat.zero_le _⟩) (fun q => by cases q) (fun q => by cases q)
      · rw [m0 45 19 (by decide), a3] at hl
        exact absurd (nI_le (Nat.le_refl n) (by omega)) hl
    | succ d ih =>
      intro n hn M4 m0 m1
      refine xb158_16 ⟨fun hl => ?_, fun _ => ⟨vp_in_nI (by omega) (by decide), ?_⟩⟩
      · rw [m0 45 19 (by decide), a3] at hl
        exact absurd hl (nI_ge (by omega) (by omega))
      · rw [nI_clamp (by omega), nI_1]
        refine ih (n + 1) (by omega) _ (fun x j hx => by rw [xm_up_ne hx]; exact m0 x j hx) (fun t ht => ?_)
        rw [xm_up_self]
        by_cases e : t = n
        · rw [if_pos e]
        · rw [if_neg e]
          exact m1 t (by omega)
  exact xb158_14 (one k 0 (by omega) MI (fun _ _ _ => rfl) (fun t h => absurd h (Nat.not_lt_zero t)))
end LAYER
/-- the scanner's layers, settled -/
def SL (c : Nat) (DI : Nat → Nat → Int32) (DL : Nat → Nat → Int64) : Prop := ∃ T, LF (ED c (vN DI) (vJ DI) (DL 64)) (fun a => ∃ i, FD c (vN DI) (vJ DI) a i) T ∧ (∀ a, T a ≤ c) ∧ ∀ o, o < c → FD c (vN DI) (vJ DI) (vN DI o) o → DI 22 o = nI (T (vN DI o))
theorem dm_off {MI MI' : Nat → Nat → Int32} (h : ∀ a j, a ≠ 67 → MI' a j = MI a j) : dm MI' = dm MI := dm_congr fun a j hd => h a j (fun e => by
  subst e
  cases hd)
section OPS7
variable {R : (Nat → Nat → Int32) → (Nat → Nat → Int64) → (Nat → Nat) → Prop}
theorem op11 (hR : ∀ DI DL Q, R DI DL Q → ∃ k c, IB k DI ∧ IC k c DI DL Q ∧ ID c DI ∧ SL c DI DL) (x : Int32) : xOpI (xInv R) 95 158 [.int x] := by
  intro MI ML Q hI
  obtain ⟨k, c, hB0, hC0, hD0, hL0⟩ := hR _ _ _ hI.2
  have hB : IB k MI := hB0
  have hC := hC0.get
  have hV := IC.vm hB hC
  have hP : PV c MI (vN MI) (vJ MI) := ID.pv hV hD0
  have hL : SL c MI ML := hL0
  have h16 := hC.1
  obtain ⟨b1, b2, b3, -⟩ := hB
  obtain ⟨T, t1, t2, t3⟩ := hL
  by_cases hn : ¬ x < 0 ∧ x < nI k
  · obtain ⟨a, ha, rfl⟩ := nI_in2 (by omega) hn
    have key : xm_Ev xz 95 [.ref 0, .int (nI a)] (xM MI ML Q) (fun r => r = (some (.int (nI (T a))), xM MI ML Q)) := by
      refine xm_in (xb95_0 ⟨_, c86 _, ?_⟩)
      rintro _ rfl
      rw [b2, decide_eq_true hn]
      refine xb95_8 ⟨fun h => absurd h (by decide), fun _ => ⟨_, c69' (y := a) (by omega), ?_⟩⟩
      rintro _ rfl
      rcases hP a (by omega) with ⟨p1, p2⟩ | ⟨i, i1, i2⟩
      · have : T a = 0 := (t1 a).1 (fun ⟨i, ⟨i1, i2, _⟩⟩ => p2 i i1 i2)
        rw [this]
        exact xb95_21 ⟨fun _ => rfl, fun h => absurd p1 h⟩
      · have hci := i1.1
        have e := i1.2.1
        rw [i2]
        refine xb95_21 ⟨fun h => absurd h (nI_nm1 (by omega)), fun _ => ⟨vp_in_nI (by omega) (by decide), ?_⟩⟩
        rw [nI_clamp (by omega), t3 i hci (by rw [e]; exact i1), e]
    refine key.imp ?_
    rintro _ rfl
    refine ⟨nI (T a), MI, ML, Q, rfl, xm_in (xb158_0 ⟨_, c148 _, ?_⟩)⟩
    rintro _ rfl
    rw [b3, decide_eq_true hn]
    refine xb158_5 ⟨fun h => absurd h (by decide), fun _ => ⟨_, c154 hV, ?_⟩⟩
    rintro _ ⟨ML', rfl, n1, n2⟩
    have e64 : ML' 64 = ML 64 := by funext j; exact n1 64 j (by decide)
    have hV' : VM k c MI ML' (vN MI) (vJ MI) := ⟨hV.1, hV.2.1, hV.2.2.1, hV.2.2.2.1, fun i hi => by rw [e64]; exact hV.2.2.2.2 i hi⟩
    rw [← e64] at t1 n2
    have := c158 (Q := Q) hV' (fun n t hn => n2 n t hn) t1 (fun a => by have := t2 a; omega) ha
    refine xm_W_mono (fun _ _ _ _ z => z) ?_ this
    rintro _ ⟨MI', rfl, n3⟩
    refine ⟨MI', ML', Q, rfl, ?_, ?_⟩
    · obtain ⟨n, g1, g2, g3, g4⟩ := hI.1
      exact ⟨n, g1, by rw [n3 2 1 (by decide)]; exact g2, by rw [n3 45 1 (by decide)]; exact g3, fun i hi => by rw [n3 46 i (by decide), n3 3 i (by decide)]; exact g4 i hi⟩
    · rw [dl_off n1, dm_off n3]
      exact hI.2
  · refine xm_in (xb95_0 ⟨_, c86 _, ?_⟩)
    rintro _ rfl
    rw [b2, decide_eq_false hn]
    refine xb95_8 ⟨fun _ => ⟨-1, MI, ML, Q, rfl, xm_in (xb158_0 ⟨_, c148 _, ?_⟩)⟩, fun h => absurd rfl h⟩
    rintro _ rfl
    rw [b3, decide_eq_false hn]
    exact xb158_5 ⟨fun _ => ⟨MI, ML, Q, rfl, hI⟩, fun h => absurd rfl h⟩
end OPS7
