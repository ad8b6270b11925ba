def T0 : Nat → Ent := fun _ => (0, 0, 0, 0)
/-- what holds of every pool that was read to its end -/
def TG (n : Nat) (T : Nat → Ent) : Prop := ∀ j, (T j).kd < 256 ∧ (T j).f < 65536 ∧ (T j).s < 65536 ∧ (T j).pl ≤ n ∧ ((T j).kd = 1 → (T j).f ≤ (T j).s ∧ (T j).s ≤ n)
theorem tl_le {b : Nat → Nat} {n : Nat} : ∀ {d : Nat} {st : St} {a : Nat}, tl b n d st = .ok a → (∀ c, st = .ok c → c ≤ n) → a ≤ n
  | 0, st, a, h, q => q a h
  | d + 1, .error p, a, h, q => by cases h
  | d + 1, .ok c, a, h, q => by
    refine tl_le (d := d) h (fun e he => ?_)
    obtain ⟨h3, -⟩ := dmd_ok he
    obtain ⟨g, h4, h5, h6⟩ := itm_ok h3
    exact h6
theorem enS_tg {b : Nat → Nat} (hb : ∀ i, b i < 256) {n s k a0 a : Nat} (hn : n ≤ 400) (h0 : a0 ≤ n) (h : enS b n s k (.ok a0) = .ok a) : a ≤ n ∧ (enE b n (.ok a0)).kd < 256 ∧ (enE b n (.ok a0)).f < 65536 ∧ (enE b n (.ok a0)).s < 65536 ∧ (enE b n (.ok a0)).pl ≤ n ∧ ((enE b n (.ok a0)).kd = 1 → (enE b n (.ok a0)).f ≤ (enE b n (.ok a0)).s ∧ (enE b n (.ok a0)).s ≤ n) := by
  have v1 := vl_lt hb n 1 (.ok a0)
  have v2 := vl_lt hb n 2 (itm n 1 (.ok a0))
  have v3 := vl_lt hb n 2 (itm n 2 (itm n 1 (.ok a0)))
  obtain ⟨kd, ekd⟩ : ∃ kd, kd = vl b n 1 (.ok a0) := ⟨_, rfl⟩
  unfold enE Ent.kd Ent.f Ent.s Ent.pl
  unfold enS at h
  rw [← ekd] at h v1 ⊢
  show _ ∧ kd < 256 ∧ (if kd = 1 then _ else _) < 65536 ∧ (if kd = 1 then _ else if 9 ≤ kd then _ else 0) < 65536 ∧ a0 ≤ n ∧ (kd = 1 → (if kd = 1 then _ else _) ≤ (if kd = 1 then _ else if 9 ≤ kd then _ else 0) ∧ (if kd = 1 then _ else if 9 ≤ kd then _ else 0) ≤ n)
  by_cases q1 : kd = 1
  · rw [if_pos q1] at h
    obtain ⟨c, t1, t2, t3⟩ := txt_ok h
    have t4 := (dmd_ok t1).1
    rw [t1] at t2 t3
    rw [if_pos q1, if_pos q1, t4, t2]
    rw [t4] at v2
    have : a ≤ n := by
      rw [t1] at h
      refine tl_le h (fun e he => ?_)
      obtain ⟨g, h4, h5, h6⟩ := itm_ok he
      exact h6
    show _ ∧ _ ∧ c + 2 < _ ∧ c + 2 + _ < _ ∧ _ ∧ (_ → c + 2 ≤ c + 2 + _ ∧ c + 2 + _ ≤ _)
    exact ⟨this, by omega, by omega, by omega, by omega, fun _ => ⟨by omega, by omega⟩⟩
  · rw [if_neg q1] at h
    rw [if_neg q1, if_neg q1]
    have ha : a ≤ n := by
      split at h
      · obtain ⟨c, -, -, t⟩ := itm_ok h; exact t
      · split at h
        · obtain ⟨c, -, -, t⟩ := itm_ok h; exact t
        · split at h
          · obtain ⟨c, -, -, t⟩ := itm_ok h; exact t
          · split at h
            · obtain ⟨c, -, -, t⟩ := itm_ok h; exact t
            · cases (dmd_ok h).2
    refine ⟨ha, v1, v2, ?_, h0, fun q => absurd q q1⟩
    split <;> omega
theorem rp_tg {b : Nat → Nat} (hb : ∀ i, b i < 256) {n s : Nat} (hn : n ≤ 400) : ∀ {d k : Nat} {st : St} {T : Nat → Ent} {a : Nat}, (rp b n s d k st T).1 = .ok a → TG n T → (∀ c, st = .ok c → c ≤ n) → TG n (rp b n s d k st T).2 ∧ a ≤ n
  | 0, k, st, T, a, h, hT, hc => ⟨hT, hc a h⟩
  | d + 1, k, .error p, T, a, h, hT, hc => by cases h
  | d + 1, k, .ok c, T, a, h, hT, hc => by
    rw [rp] at h ⊢
    split at h
    · rename_i hw
      rw [if_pos hw]
      exact rp_tg hb hn h hT hc
    · rename_i hw
      rw [if_neg hw]
      cases he : enS b n s k (.ok c) with
      | error p =>
        rw [he, rp_er] at h
        cases h
      | ok c' =>
        rw [he] at h
        have g := enS_tg hb hn (hc c rfl) he
        refine rp_tg hb hn h (fun j => ?_) (fun e q => by cases q; exact g.1)
        unfold updE
        split
        · exact g.2
        · exact hT j
/-- off the pool's rows -/
def RL (MI M : Nat → Nat → Int32) : Prop := ∀ a j, ¬ (a = 1 ∧ j ≤ 2) → ¬ (5 ≤ a ∧ a ≤ 9) → M a j = MI a j
theorem RL.tr {A B C : Nat → Nat → Int32} (h : RL A B) (h' : RL B C) : RL A C := fun a j q q' => (h' a j q q').trans (h a j q q')
theorem RE.rl {k : Nat} {A B : Nat → Nat → Int32} (h : RE k A B) : RL A B := fun a j q q' => h a j q (fun z => q' ⟨z.1, z.2.1⟩)
section RP
variable {MI : Nat → Nat → Int32} {ML : Nat → Nat → Int64} {Q : Nat → Nat} {b : Nat → Nat} {n s : Nat} {T : Nat → Ent}
theorem l20 (hb : ∀ i, b i < 256) (h64 : s ≤ 64) {P : xm_R → Prop} : ∀ (d k : Nat) (st : St) (T : Nat → Ent) (MI : Nat → Nat → Int32), (k + d = s ∨ (d = 0 ∧ s ≤ k)) → 1 ≤ k → k ≤ 64 → Dr n (bBy b) MI → SS n st MI → MI 4 5 = nI s → (∀ j, (T j).kd < 256) → (∀ a, st = .ok a → PD s T MI) → (∀ M, RL MI M → SS n (rp b n s d k st T).1 M → (∀ a, (rp b n s d k st T).1 = .ok a → PD s (rp b n s d k st T).2 M) → P (none, xM M ML Q)) → xq20 P (42, [some (.ref 1), none, none, some (.int (nI k))], [], xM MI ML Q, 0, 0) := by
  intro d
  induction d with
  | zero =>
    intro k st T MI hk h1 h2 hD hS hs hT hP hF
    refine xb20_42 ?_
    rw [hs]
    exact pk_le s k (fun _ => hF MI (fun _ _ _ _ => rfl) hS hP) (fun h => absurd h (by omega))
  | succ d ih =>
    intro k st T MI hk h1 h2 hD hS hs hT hP hF
    refine xb20_42 ?_
    rw [hs]
    refine pk_le s k (fun h => absurd h (by omega)) (fun hlt => ?_)
    cases st with
    | error p => exact ⟨fun h => absurd h hS.er, fun _ => hF MI (fun _ _ _ _ => rfl) (by rw [rp_er]; exact hS) (fun a ha => by rw [rp_er] at ha; cases ha)⟩
    | ok a =>
      have hPD := hP a rfl
      refine ⟨fun _ => ⟨_, c22 hs h64 (fun j q1 q2 => (hPD j q1 q2).1) hT h1 (by omega), ?_⟩, fun h => absurd hS.le.2.2 h⟩
      rintro _ rfl
      refine xb20_69 ⟨fun h => ⟨_, c26 hb hD hs h64 hS h1 hlt, ?_⟩, fun h => ?_⟩
      · rintro _ ⟨M, rfl, m1, m2, m3⟩
        rw [bI_0] at h
        refine xb20_77 ?_
        rw [nI_1]
        have e : rp b n s (d + 1) k (.ok a) T = rp b n s d (k + 1) (enS b n s k (.ok a)) (updE T k (enE b n (.ok a))) := by rw [rp, if_neg (by rw [h]; decide)]
        rw [e] at hF
        refine ih (k + 1) _ _ M (by omega) (by omega) (by omega) (m1.dr hD) m2 ((m1 4 5 (by decide) (by omega)).trans hs) (fun j => ?_) (fun a' ha j q1 q2 => ?_) (fun M2 g1 g2 g3 => hF M2 (m1.rl.tr g1) g2 g3)
        · unfold updE
          split
          · have := vl_lt hb n 1 (.ok a)
            exact this
          · exact hT j
        · unfold updE
          by_cases hj : j = k
          · subst hj
            rw [if_pos rfl]
            obtain ⟨w1, w2, w3, w4⟩ := m3 a' ha
            exact ⟨w1, fun _ => ⟨w2, w3⟩, w4⟩
          · rw [if_neg hj, m1 5 j (by omega) (by omega), m1 6 j (by omega) (by omega), m1 7 j (by omega) (by omega), m1 8 j (by omega) (by omega), m1 9 j (by omega) (by omega)]
            exact hPD j q1 q2
      · rw [bI_ne] at h
        refine xb20_77 ?_
        rw [nI_1]
        have e : rp b n s (d + 1) k (.ok a) T = rp b n s d (k + 1) (.ok a) T := by rw [rp, if_pos h]
        rw [e] at hF
        exact ih (k + 1) _ _ MI (by omega) (by omega) (by omega) hD hS hs hT hP hF
def szo (e : Nat) : Nat := if e ≤ 64 then e else 0
theorem szo_le (e : Nat) : szo e ≤ 64 := by unfold szo; split <;> omega
theorem c21 {e : Nat} (he : e < 65536) : xm_Ev xz 21 [.ref 4, .int (nI e)] (xM MI ML Q) (fun r => ∃ M, r = (none, xM M ML Q) ∧ (∀ a j, ¬ (a = 4 ∧ j = 5) → a ≠ 5 → M a j = MI a j) ∧ M 4 5 = nI (szo e) ∧ ∀ j, j < szo e → M 5 j = 0) := by
  have h64 := szo_le e
  have lp : ∀ (d i : Nat) (M : Nat → Nat → Int32), i + d = szo e → (∀ a j, ¬ (a = 4 ∧ j = 5) → a ≠ 5 → M a j = MI a j) → M 4 5 = nI (szo e) → (∀ j, j < i → M 5 j = 0) → xq21 (fun r => ∃ M, r = (none, xM M ML Q) ∧ (∀ a j, ¬ (a = 4 ∧ j = 5) → a ≠ 5 → M a j = MI a j) ∧ M 4 5 = nI (szo e) ∧ ∀ j, j < szo e → M 5 j = 0) (21, [some (.ref 4), none, some (.int (nI i))], [], xM M ML Q, 0, 0) := by
    intro d
    induction d with
    | zero =>
      intro i M hi g1 g2 g3
      refine xb21_21 ?_
      rw [g2]
      exact pk_le (szo e) i (fun _ => ⟨M, rfl, g1, g2, fun j hj => g3 j (by omega)⟩) (fun h => absurd h (by omega))
    | succ d ih =>
      intro i M hi g1 g2 g3
      refine xb21_21 ?_
      rw [g2]
      refine pk_le (szo e) i (fun h => absurd h (by omega)) (fun _ => ⟨vp_in_nI (by omega) (by decide), ?_⟩)
      rw [nI_clamp (by omega), nI_1]
      refine ih (i + 1) _ (by omega) (fun a j q q' => ?_) ?_ (fun j hj => ?_)
      · rw [up_n (by omega)]; exact g1 a j q q'
      · rw [up_n (by omega)]; exact g2
      · by_cases hji : j = i
        · subst hji; rw [up_s]
        · rw [up_n (by omega)]; exact g3 j (by omega)
  refine xm_in (xb21_0 ⟨fun h => absurd h (nI_pos (by omega)), fun _ => pk_lt 64 e (fun h => ?_) (fun h => ?_)⟩)
  · have ez : szo e = 0 := by unfold szo; rw [if_neg (by omega)]
    exact lp (szo e) 0 _ (by omega) (fun a j q q' => up_n q) (by rw [up_s, ez]; rfl) (fun j hj => absurd hj (by omega))
  · have ez : szo e = e := by unfold szo; rw [if_pos h]
    exact lp (szo e) 0 _ (by omega) (fun a j q q' => up_n q) (by rw [up_s, ez]) (fun j hj => absurd hj (by omega))
/-- the pool's reading, with its count -/
def rpS (b : Nat → Nat) (n : Nat) (st : St) : St × (Nat → Ent) := rp b n (szo (vl b n 2 st)) (szo (vl b n 2 st) - 1) 1 (dmd (decide (1 ≤ vl b n 2 st ∧ vl b n 2 st ≤ 64)) (atS st) (itm n 2 st)) T0
theorem c20 (hb : ∀ i, b i < 256) (hD : Dr n (bBy b) MI) {st : St} (hS : SS n st MI) : xm_Ev xz 20 [.ref 1] (xM MI ML Q) (fun r => ∃ M, r = (none, xM M ML Q) ∧ (∀ a j, ¬ (a = 1 ∧ j ≤ 2) → ¬ (4 ≤ a ∧ a ≤ 9) → M a j = MI a j) ∧ SS n (rpS b n st).1 M ∧ M 4 5 = nI (szo (vl b n 2 st)) ∧ (∀ a, (rpS b n st).1 = .ok a → PD (szo (vl b n 2 st)) (rpS b n st).2 M)) := by
  have hn := hD.1
  have hv := vl_lt hb n 2 st
  obtain ⟨e, he⟩ : ∃ e, e = vl b n 2 st := ⟨_, rfl⟩
  rw [← he] at hv ⊢
  have h64 := szo_le e
  refine xm_in (xb20_0 ⟨_, c17 hb hD hS (k := 2) (by decide), ?_⟩)
  rintro _ ⟨M, rfl, m1, m2⟩
  rw [← he]
  have go : ∀ z : Bool, z = decide (1 ≤ e ∧ e ≤ 64) → ∃ P0 : xm_R → Prop, xm_Ev xz 19 [.ref 1, .int (bI z), .int (MI 1 1)] (xM M ML Q) P0 ∧ ∀ r, P0 r → xq20 (fun r => ∃ M, r = (none, xM M ML Q) ∧ (∀ a j, ¬ (a = 1 ∧ j ≤ 2) → ¬ (4 ≤ a ∧ a ≤ 9) → M a j = MI a j) ∧ SS n (rpS b n st).1 M ∧ M 4 5 = nI (szo e) ∧ (∀ a, (rpS b n st).1 = .ok a → PD (szo e) (rpS b n st).2 M)) (xm_bk 32 [some (.ref 1), none, some (.int (nI e)), none] [] 0 0 r) := by
    intro z hz
    refine ⟨_, c19 (p := atS st) m2 (fun a ha _ => ?_), ?_⟩
    · obtain ⟨c, t1, t2, t3⟩ := itm_ok ha
      rw [t1] at hS ⊢
      exact ⟨hS.le.2.1, by have := hS.le.1; show c ≤ 500; omega⟩
    · rintro _ ⟨M2, rfl, k1, k2⟩
      refine xb20_32 ⟨_, c21 (e := e) (by omega), ?_⟩
      rintro _ ⟨M3, rfl, k3, k4, k5⟩
      refine xb20_40 ?_
      have r1 := m1.tr k1
      have hD3 : Dr n (bBy b) M3 := by
        have := r1.dr hD
        exact ⟨hn, (k3 2 1 (by decide) (by decide)).trans this.2.1, fun i hi => (k3 3 i (by omega) (by decide)).trans (this.2.2 i hi)⟩
      refine l20 (s := szo e) hb h64 (szo e - 1) 1 _ T0 M3 (by omega) (by omega) (by omega) hD3 (k2.cg (k3 1 1 (by decide) (by decide)) (k3 1 2 (by decide) (by decide))) k4 (fun j => by show 0 < 256; decide) (fun a _ j q1 q2 => ?_) (fun M4 g1 g2 g3 => ⟨M4, rfl, fun a j q q' => ?_, ?_, ?_, ?_⟩)
      · refine ⟨?_, fun q => absurd rfl q, fun q => ?_⟩
        · rw [k5 j (by omega)]; rfl
        · exact absurd q (by show ¬ (0 = 1 ∨ 7 ≤ 0); decide)
      · rw [g1 a j q (by omega), k3 a j (by omega) (by omega), r1 a j q]
      · rw [hz] at g2
        unfold rpS
        rw [← he]
        exact g2
      · rw [g1 4 5 (by decide) (by decide)]; exact k4
      · rw [hz] at g3
        unfold rpS
        rw [← he]
        exact g3
  refine xb20_10 (pk_lt e 1 (fun h => go false ?_) (fun h => pk_lt 64 e (fun h2 => go false ?_) (fun h2 => go true ?_)))
  · rw [decide_eq_false (by omega)]
  · rw [decide_eq_false (by omega)]
  · rw [decide_eq_true ⟨h, h2⟩]
end RP
