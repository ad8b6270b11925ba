theorem c166 {MI : Nat → Nat → Int32} {ML : Nat → Nat → Int64} {Q : Nat → Nat} {k c j : Nat} {N J : Nat → Nat} {V : Nat → Int64} {o : Int32} (hV : VM k c MI ML N J) (h0 : o = 0 → ∀ i, i < c → ML 64 i = V i) (h1 : o ≠ 0 → ∀ i, i < c → ML 65 i = V i) (hb : ∀ i, i < c → ∀ b, hasB (V i) b = true → b < k) (hj : j < 5) : xm_Ev xz 166 [.ref 45, .int (nI j), .int o] (xM MI ML Q) (fun z => ∃ v, z = (some (.int v), xM MI ML Q) ∧ ∀ b, hasI v b = true ↔ NJ c N J V j b) := by
  have hV0 := hV
  obtain ⟨a1, a2, a3, a4, a5⟩ := hV
  have out : ∀ (d i : Nat), i + d = c → ∀ v, (∀ b, hasI v b = true ↔ b ≠ j ∧ ∃ f, f < i ∧ J f = j ∧ ∃ n p, hasB (V f) n = true ∧ FD c N J n p ∧ J p = b) → xq166 (fun z => ∃ v, z = (some (.int v), xM MI ML Q) ∧ ∀ b, hasI v b = true ↔ NJ c N J V j b) (5, [some (.ref 45), some (.int (nI j)), some (.int o), some (.int v), some (.int (nI i)), none, none], [], xM MI ML Q, 0, 0) := by
    intro d
    induction d with
    | zero =>
      intro i hi v hv
      have : i = c := by omega
      subst this
      refine xb166_5 ⟨fun _ => ⟨v, rfl, hv⟩, fun hl => ?_⟩
      rw [a4] at hl
      exact absurd (nI_le (Nat.le_refl i) (by omega)) hl
    | succ d ih =>
      intro i hi v hv
      have ic : i < c := by omega
      have v1 : vp_in (nI i) 16 := vp_in_nI (by omega) (by decide)
      obtain ⟨n1, n2, n3, n4, n5⟩ := a5 i ic
      have inn : J i = j → ∀ (d' s : Nat), s + d' = k → ∀ v', (∀ b, hasI v' b = true ↔ b ≠ j ∧ ((∃ f, f < i ∧ J f = j ∧ ∃ n p, hasB (V f) n = true ∧ FD c N J n p ∧ J p = b) ∨ ∃ n p, n < s ∧ hasB (V i) n = true ∧ FD c N J n p ∧ J p = b)) → xq166 (fun z => ∃ v, z = (some (.int v), xM MI ML Q) ∧ ∀ b, hasI v b = true ↔ NJ c N J V j b) (17, [some (.ref 45), some (.int (nI j)), some (.int o), some (.int v'), some (.int (nI i)), some (.int (nI s)), none], [], xM MI ML Q, 0, 0) := by
        intro ej d'
        induction d' with
        | zero =>
          intro s hs v' hv'
          have : s = k := by omega
          subst this
          refine xb166_17 ⟨fun _ => ?_, fun hl => ?_⟩
          · rw [nI_1]
            refine ih (i + 1) (by omega) v' (fun b => ?_)
            rw [hv' b]
            constructor
            · rintro ⟨q0, ⟨f, f1, f2⟩ | ⟨n, p, -, q⟩⟩
              · exact ⟨q0, f, by omega, f2⟩
              · exact ⟨q0, i, by omega, ej, n, p, q⟩
            · rintro ⟨q0, f, f1, f2, n, p, q⟩
              by_cases e : f = i
              · subst e; exact ⟨q0, Or.inr ⟨n, p, hb f ic n q.1, q⟩⟩
              · exact ⟨q0, Or.inl ⟨f, by omega, f2, n, p, q⟩⟩
          · rw [a3] at hl
            exact absurd (nI_le (Nat.le_refl s) (by omega)) hl
        | succ d' ihd =>
          intro s hs v' hv'
          have sk : s < k := by omega
          have stay : (∀ p, hasB (V i) s = true → FD c N J s p → J p = j) → xq166 (fun z => ∃ v, z = (some (.int v), xM MI ML Q) ∧ ∀ b, hasI v b = true ↔ NJ c N J V j b) (17, [some (.ref 45), some (.int (nI j)), some (.int o), some (.int v'), some (.int (nI i)), some (.int (nI s + 1)), none], [], xM MI ML Q, 0, 0) := fun hno => by
            rw [nI_1]
            refine ihd (s + 1) (by omega) v' (fun b => ?_)
            rw [hv' b]
            constructor
            · rintro ⟨q0, q | ⟨n, p, q1, q⟩⟩
              · exact ⟨q0, Or.inl q⟩
              · exact ⟨q0, Or.inr ⟨n, p, by omega, q⟩⟩
            · rintro ⟨q0, q | ⟨n, p, q1, q2, q3, q4⟩⟩
              · exact ⟨q0, Or.inl q⟩
              · by_cases e : n = s
                · subst e
                  exact absurd (q4.symm.trans (hno p q2 q3)) q0
                · exact ⟨q0, Or.inr ⟨n, p, by omega, q2, q3, q4⟩⟩
          have tst : ∀ z : Bool, z = hasB (V i) s → xq166 (fun z => ∃ v, z = (some (.int v), xM MI ML Q) ∧ ∀ b, hasI v b = true ↔ NJ c N J V j b) (63, [some (.ref 45), some (.int (nI j)), some (.int o), some (.int v'), some (.int (nI i)), some (.int (nI s)), none], [.int (bI z)], xM MI ML Q, 0, 0) := fun z hz => by
            refine xb166_63 ⟨fun h => ⟨fun _ => ?_, fun h => absurd (by decide) h⟩, fun h => ⟨_, c150 a2 a4 (nI s), ?_⟩⟩
            · rw [bI_0, hz] at h
              exact stay (fun p q _ => by rw [h] at q; cases q)
            · rw [bI_ne, hz] at h
              rintro _ ⟨r, rfl, hr⟩
              rcases isPr_FD hV0.pr (a := s) (by omega) hr with ⟨e, hno⟩ | ⟨p, p1, e⟩
              · subst e
                exact xb166_72 ⟨fun _ => stay (fun p _ q => absurd q.2.1 (hno p q.1)), fun h => absurd (by decide) h⟩
              · subst e
                have pc := p1.1
                obtain ⟨-, -, m3, m4, -⟩ := a5 p pc
                refine xb166_72 ⟨fun h => absurd h (nI_pos (by omega)), fun _ => ⟨vp_in_nI (by omega) (by decide), ?_⟩⟩
                rw [nI_clamp (by omega), m3]
                refine ⟨fun e => stay (fun p' _ q => ?_), fun e => ⟨vp_in_nI (by omega) (by decide), ?_⟩⟩
                · rw [q.uniq p1]
                  exact (nI_eq (by omega) (by omega)).mp e
                · have ne : J p ≠ j := fun q => e (by rw [q])
                  rw [nI_1]
                  refine ihd (s + 1) (by omega) _ (fun b => ?_)
                  rw [hasI_or, Bool.or_eq_true, hasI_one m4, decide_eq_true_eq, hv' b]
                  constructor
                  · rintro (⟨q0, q | ⟨n, p', q1, q⟩⟩ | q)
                    · exact ⟨q0, Or.inl q⟩
                    · exact ⟨q0, Or.inr ⟨n, p', by omega, q⟩⟩
                    · subst q
                      exact ⟨ne, Or.inr ⟨s, p, by omega, h, p1, rfl⟩⟩
                  · rintro ⟨q0, q | ⟨n, p', q1, q2, q3, q4⟩⟩
                    · exact Or.inl ⟨q0, Or.inl q⟩
                    · by_cases e : n = s
                      · subst e
                        right
                        rw [← q4, q3.uniq p1]
                      · exact Or.inl ⟨q0, Or.inr ⟨n, p', by omega, q2, q3, q4⟩⟩
          refine xb166_17 ⟨fun hl => ?_, fun _ => ⟨v1, ?_⟩⟩
          · rw [a3] at hl
            exact absurd hl (nI_ge (by omega) (by omega))
          · rw [nI_clamp (by omega), n3]
            refine ⟨fun _ => ⟨fun e => ⟨v1, _, c155 _ (k := s) (by omega), ?_⟩, fun e => ⟨v1, _, c155 _ (k := s) (by omega), ?_⟩⟩, fun e => absurd (by rw [ej]) e⟩
            · rintro _ rfl
              exact tst _ (by rw [h0 e i ic])
            · rintro _ rfl
              exact tst _ (by rw [h1 e i ic])
      refine xb166_5 ⟨fun hl => ?_, fun _ => ?_⟩
      · rw [a4] at hl
        exact absurd hl (nI_ge (by omega) (by omega))
      · by_cases ej : J i = j
        · refine inn ej k 0 (by omega) v (fun b => ?_)
          rw [hv b]
          constructor
          · rintro ⟨q0, q⟩; exact ⟨q0, Or.inl q⟩
          · rintro ⟨q0, q | ⟨n, p, q, -⟩⟩
            · exact ⟨q0, q⟩
            · exact absurd q (Nat.not_lt_zero n)
        · have go : xq166 (fun z => ∃ v, z = (some (.int v), xM MI ML Q) ∧ ∀ b, hasI v b = true ↔ NJ c N J V j b) (5, [some (.ref 45), some (.int (nI j)), some (.int o), some (.int v), some (.int (nI i + 1)), none, none], [], xM MI ML Q, 0, 0) := by
            rw [nI_1]
            refine ih (i + 1) (by omega) v (fun b => ?_)
            rw [hv b]
            constructor
            · rintro ⟨q0, f, f1, f2⟩; exact ⟨q0, f, by omega, f2⟩
            · rintro ⟨q0, f, f1, f2, f3⟩
              by_cases e : f = i
              · subst e; exact absurd f2 ej
              · exact ⟨q0, f, by omega, f2, f3⟩
          refine xb166_17 ⟨fun _ => go, fun _ => ⟨v1, ?_⟩⟩
          rw [nI_clamp (by omega), n3]
          exact ⟨fun e => absurd ((nI_eq (by omega) (by omega)).mp e) ej, fun _ => go⟩
  refine xm_in (xb166_0 ?_)
  refine out c 0 (by omega) 0 (fun b => ?_)
  rw [hasI_0]
  constructor
  · intro q; cases q
  · rintro ⟨-, f, q, -⟩; exact absurd q (Nat.not_lt_zero f)
/-- spreading: one jar, five jars, five times -/
def sIn (nx : Nat → Int32) (s : Int32) : Nat → Int32
  | 0 => s
  | n + 1 => bif hasI (sIn nx s n) n then sIn nx s n ||| nx n else sIn nx s n
def sOut (nx : Nat → Int32) (s : Int32) : Nat → Int32
  | 0 => s
  | r + 1 => sIn nx (sOut nx s r) 5
theorem sIn_cg {nx nx' : Nat → Int32} (h : ∀ j, j < 5 → nx j = nx' j) (s : Int32) : ∀ n, n ≤ 5 → sIn nx s n = sIn nx' s n
  | 0, _ => rfl
  | n + 1, hn => by
    unfold sIn
    rw [sIn_cg h s n (by omega), h n (by omega)]
theorem sOut_cg {nx nx' : Nat → Int32} (h : ∀ j, j < 5 → nx j = nx' j) (s : Int32) : ∀ n, sOut nx s n = sOut nx' s n
  | 0 => rfl
  | n + 1 => by
    unfold sOut
    rw [sOut_cg h s n, sIn_cg h _ 5 (Nat.le_refl 5)]
theorem c102n {MI : Nat → Nat → Int32} {ML : Nat → Nat → Int64} {Q : Nat → Nat} (s : Int32) : xm_Ev xz 102 [.int s, .ref 43] (xM MI ML Q) (fun z => z = (some (.int (sOut (MI 43) s 5)), xM MI ML Q)) := by
  have inn : ∀ r, xq102 (fun z => z = (some (.int (sOut (MI 43) s 5)), xM MI ML Q)) (4, [none, some (.ref 43), some (.int (sOut (MI 43) s (r + 1))), some (.int (nI (r + 1))), none], [], xM MI ML Q, 0, 0) → ∀ (d i : Nat), i + d = 5 → xq102 (fun z => z = (some (.int (sOut (MI 43) s 5)), xM MI ML Q)) (12, [none, some (.ref 43), some (.int (sIn (MI 43) (sOut (MI 43) s r) i)), some (.int (nI r)), some (.int (nI i))], [], xM MI ML Q, 0, 0) := by
    intro r next d
    induction d with
    | zero =>
      intro i hi
      have : i = 5 := by omega
      subst this
      refine xb102n_12 ⟨fun _ => ?_, fun hl => absurd (by decide) hl⟩
      rw [nI_1]
      exact next
    | succ d ih =>
      intro i hi
      refine xb102n_12 ⟨fun hl => absurd hl (nI_ge (a := i) (b := 5) (by omega) (by decide)), fun _ => ⟨_, c74 _ (k := i) (by omega), ?_⟩⟩
      rintro _ rfl
      rw [hasI_l (by omega)]
      have h2 := ih (i + 1) (by omega)
      unfold sIn at h2
      refine xb102n_25 ⟨fun h => ?_, fun h => ⟨vp_in_nI (by omega) (by decide), ?_⟩⟩
      · rw [bI_0] at h
        rw [h] at h2
        rw [nI_1]
        exact h2
      · rw [bI_ne] at h
        rw [h] at h2
        rw [nI_1, nI_clamp (by omega)]
        exact h2
  have out : ∀ (d r : Nat), r + d = 5 → xq102 (fun z => z = (some (.int (sOut (MI 43) s 5)), xM MI ML Q)) (4, [none, some (.ref 43), some (.int (sOut (MI 43) s r)), some (.int (nI r)), none], [], xM MI ML Q, 0, 0) := by
    intro d
    induction d with
    | zero =>
      intro r hr
      have : r = 5 := by omega
      subst this
      exact xb102n_4 ⟨fun _ => rfl, fun hl => absurd (by decide) hl⟩
    | succ d ih =>
      intro r hr
      exact xb102n_4 ⟨fun hl => absurd hl (nI_ge (a := r) (b := 5) (by omega) (by decide)), fun _ => inn r (ih (r + 1) (by omega)) 5 0 rfl⟩
  exact xm_in (xb102n_0 (out 5 0 rfl))
theorem c102o {MI : Nat → Nat → Int32} {ML : Nat → Nat → Int64} {Q : Nat → Nat} (s : Int32) : xm_Ev xz 102 [.int s, .ref 44] (xM MI ML Q) (fun z => z = (some (.int (sOut (MI 44) s 5)), xM MI ML Q)) := by
  have inn : ∀ r, xq102 (fun z => z = (some (.int (sOut (MI 44) s 5)), xM MI ML Q)) (4, [none, some (.ref 44), some (.int (sOut (MI 44) s (r + 1))), some (.int (nI (r + 1))), none], [], xM MI ML Q, 0, 0) → ∀ (d i : Nat), i + d = 5 → xq102 (fun z => z = (some (.int (sOut (MI 44) s 5)), xM MI ML Q)) (12, [none, some (.ref 44), some (.int (sIn (MI 44) (sOut (MI 44) s r) i)), some (.int (nI r)), some (.int (nI i))], [], xM MI ML Q, 0, 0) := by
    intro r next d
    induction d with
    | zero =>
      intro i hi
      have : i = 5 := by omega
      subst this
      refine xb102o_12 ⟨fun _ => ?_, fun hl => absurd (by decide) hl⟩
      rw [nI_1]
      exact next
    | succ d ih =>
      intro i hi
      refine xb102o_12 ⟨fun hl => absurd hl (nI_ge (a := i) (b := 5) (by omega) (by decide)), fun _ => ⟨_, c74 _ (k := i) (by omega), ?_⟩⟩
      rintro _ rfl
      rw [hasI_l (by omega)]
      have h2 := ih (i + 1) (by omega)
      unfold sIn at h2
      refine xb102o_25 ⟨fun h => ?_, fun h => ⟨vp_in_nI (by omega) (by decide), ?_⟩⟩
      · rw [bI_0] at h
        rw [h] at h2
        rw [nI_1]
        exact h2
      · rw [bI_ne] at h
        rw [h] at h2
        rw [nI_1, nI_clamp (by omega)]
        exact h2
  have out : ∀ (d r : Nat), r + d = 5 → xq102 (fun z => z = (some (.int (sOut (MI 44) s 5)), xM MI ML Q)) (4, [none, some (.ref 44), some (.int (sOut (MI 44) s r)), some (.int (nI r)), none], [], xM MI ML Q, 0, 0) := by
    intro d
    induction d with
    | zero =>
      intro r hr
      have : r = 5 := by omega
      subst this
      exact xb102o_4 ⟨fun _ => rfl, fun hl => absurd (by decide) hl⟩
    | succ d ih =>
      intro r hr
      exact xb102o_4 ⟨fun hl => absurd hl (nI_ge (a := r) (b := 5) (by omega) (by decide)), fun _ => inn r (ih (r + 1) (by omega)) 5 0 rfl⟩
  exact xm_in (xb102o_0 (out 5 0 rfl))
