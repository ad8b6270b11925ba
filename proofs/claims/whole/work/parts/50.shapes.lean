def cE (b : Nat → Nat) (e : Ent) : Bool := cn (bBy b) e.f e.s
def tE (b : Nat → Nat) (e : Ent) : Bool := decide (te (bBy b) (e.s - e.f) e.f = some e.s)
def aE (b : Nat → Nat) (e : Ent) : Bool := decide (bBy b e.f = 91)
def mE (b : Nat → Nat) (e : Ent) : Bool := mtB (bBy b) e.f e.s
/-- the shape that is kept of a text -/
def sh1 (c : Bool) : Int32 := bif c then (0 : Int32) ||| 1 else 0
def sh2 (c t a : Bool) : Int32 := bif t then (bif a then sh1 c ||| 6 else sh1 c ||| 2) else sh1 c
def sh3 (c t a m : Bool) : Int32 := bif m then sh2 c t a ||| 8 else sh2 c t a
def shE (b : Nat → Nat) (e : Ent) : Int32 := sh3 (cE b e) (tE b e) (aE b e) (mE b e)
section SH
variable {MI : Nat → Nat → Int32} {ML : Nat → Nat → Int64} {Q : Nat → Nat} {b : Nat → Nat} {n s : Nat} {T : Nat → Ent}
theorem c30 (hD : Dr n (bBy b) MI) (hs : MI 4 5 = nI s) (h64 : s ≤ 64) (hT : TG n T) (hP : PD s T MI) : xm_Ev xz 30 [.ref 4, .ref 2] (xM MI ML Q) (fun r => ∃ M, r = (none, xM M ML Q) ∧ (∀ a j, a ≠ 9 → M a j = MI a j) ∧ ∀ j, 1 ≤ j → j < s → (T j).kd = 1 → M 9 j = shE b (T j)) := by
  have hn := hD.1
  have lp : ∀ (d k : Nat) (M : Nat → Nat → Int32), (k + d = s ∨ (d = 0 ∧ s ≤ k)) → 1 ≤ k → k ≤ 64 → (∀ a j, a ≠ 9 → M a j = MI a j) → (∀ j, k ≤ j → M 9 j = MI 9 j) → (∀ j, 1 ≤ j → j < k → (T j).kd = 1 → M 9 j = shE b (T j)) → xq30 (fun r => ∃ M, r = (none, xM M ML Q) ∧ (∀ a j, a ≠ 9 → M a j = MI a j) ∧ ∀ j, 1 ≤ j → j < s → (T j).kd = 1 → M 9 j = shE b (T j)) (2, [some (.ref 4), some (.ref 2), some (.int (nI k)), none, none], [], xM M ML Q, 0, 0) := by
    intro d
    induction d with
    | zero =>
      intro k M hk h1 h2 g1 g2 g3
      refine xb30_2 ?_
      rw [g1 4 5 (by decide), hs]
      exact pk_le s k (fun _ => ⟨M, rfl, g1, fun j q1 q2 => g3 j q1 (by omega)⟩) (fun h => absurd h (by omega))
    | succ d ih =>
      intro k M hk h1 h2 g1 g2 g3
      have cl : (nI k).toNatClampNeg = k := nI_clamp (by omega)
      have v := fun (z : k < 64) => vp_in_nI (n := k) (N := 64) z (by decide)
      refine xb30_2 ?_
      rw [g1 4 5 (by decide), hs]
      refine pk_le s k (fun h => absurd h (by omega)) (fun hlt => ⟨v (by omega), v (by omega), v (by omega), ?_⟩)
      obtain ⟨p1, p2, p3⟩ := hP k h1 hlt
      obtain ⟨t1, t2, t3, t4, t5⟩ := hT k
      rw [cl, g1 5 k (by decide), g1 7 k (by decide), g1 8 k (by decide), p1, nI_1]
      refine pk_eq (T k).kd 1 (fun hk1 => ?_) (fun hk1 => ?_)
      · obtain ⟨p4, p5⟩ := p3 (Or.inl hk1)
        obtain ⟨t6, t7⟩ := t5 hk1
        obtain ⟨-, p6⟩ := p2 (by omega)
        rw [p4, p5]
        have dr : ∀ M' : Nat → Nat → Int32, (∀ a j, a ≠ 9 → M' a j = MI a j) → Dr n (bBy b) M' := fun M' w => ⟨hn, (w 2 1 (by decide)).trans hD.2.1, fun i hi => (w 3 i (by decide)).trans (hD.2.2 i hi)⟩
        have upg : ∀ (M' : Nat → Nat → Int32) x, (∀ a j, a ≠ 9 → M' a j = MI a j) → (∀ a j, a ≠ 9 → xm_up M' 9 k x a j = MI a j) := fun M' x w a j q => by rw [up_n (by omega)]; exact w a j q
        have upk : ∀ (M' : Nat → Nat → Int32) x, (∀ j, j ≠ k → M' 9 j = M 9 j) → (∀ j, j ≠ k → xm_up M' 9 k x 9 j = M 9 j) := fun M' x w j q => by rw [up_n (by omega)]; exact w j q
        have s102 : ∀ M', (∀ a j, a ≠ 9 → M' a j = MI a j) → (∀ j, j ≠ k → M' 9 j = M 9 j) → M' 9 k = sh2 (cE b (T k)) (tE b (T k)) (aE b (T k)) → xm_Ev xz 36 [.ref 2, .int (nI (T k).f), .int (nI (T k).s)] (xM M' ML Q) (fun r => xq30 (fun r => ∃ M, r = (none, xM M ML Q) ∧ (∀ a j, a ≠ 9 → M a j = MI a j) ∧ ∀ j, 1 ≤ j → j < s → (T j).kd = 1 → M 9 j = shE b (T j)) (xm_bk 102 [some (.ref 4), some (.ref 2), some (.int (nI k)), none, none] [] 0 0 r)) := by
          intro M' w1 w2 w3
          refine (c36 (dr M' w1) t6 t7).imp ?_
          rintro _ rfl
          refine xb30_102 ⟨fun h => ?_, fun h => ⟨v (by omega), v (by omega), ?_⟩⟩
          · rw [bI_0] at h
            rw [nI_1]
            refine ih (k + 1) M' (by omega) (by omega) (by omega) w1 (fun j hj => by rw [w2 j (by omega), g2 j (by omega)]) (fun j q1 q2 q3 => ?_)
            by_cases hj : j = k
            · subst hj
              rw [w3]
              unfold shE sh3 mE
              rw [h]
              rfl
            · rw [w2 j hj]
              exact g3 j q1 (by omega) q3
          · rw [bI_ne] at h
            rw [cl, nI_1]
            refine ih (k + 1) _ (by omega) (by omega) (by omega) (upg _ _ w1) (fun j hj => by rw [upk _ _ w2 j (by omega), g2 j (by omega)]) (fun j q1 q2 q3 => ?_)
            by_cases hj : j = k
            · subst hj
              rw [up_s, w3]
              unfold shE sh3 mE
              rw [h]
              rfl
            · rw [upk _ _ w2 j hj]
              exact g3 j q1 (by omega) q3
        have s65 : ∀ M', (∀ a j, a ≠ 9 → M' a j = MI a j) → (∀ j, j ≠ k → M' 9 j = M 9 j) → M' 9 k = sh1 (cE b (T k)) → xm_Ev xz 34 [.ref 2, .int (nI (T k).f), .int (nI (T k).s)] (xM M' ML Q) (fun r => xq30 (fun r => ∃ M, r = (none, xM M ML Q) ∧ (∀ a j, a ≠ 9 → M a j = MI a j) ∧ ∀ j, 1 ≤ j → j < s → (T j).kd = 1 → M 9 j = shE b (T j)) (xm_bk 65 [some (.ref 4), some (.ref 2), some (.int (nI k)), some (.int (nI (T k).f)), some (.int (nI (T k).s))] [] 0 0 r)) := by
          intro M' w1 w2 w3
          refine (c34 (dr M' w1) t7 ((T k).s - (T k).f) (T k).f (by omega)).imp ?_
          rintro _ rfl
          have ko := oI_eq (o := te (bBy b) ((T k).s - (T k).f) (T k).f) (t := (T k).s) (by omega) (fun e he => by have := te_bd he; omega)
          refine xb30_65 ⟨fun q => ⟨v (by omega), ?_⟩, fun q => ?_⟩
          · rw [ko] at q
            have bd := te_bd q
            have q' : tE b (T k) = true := decide_eq_true q
            refine ⟨_, c32 (dr M' w1) (i := (T k).f) (by omega), ?_⟩
            rintro _ rfl
            refine xb30_82 ⟨fun h => ⟨v (by omega), ?_⟩, fun h => ⟨v (by omega), ?_⟩⟩
            · rw [cl]
              have h' : aE b (T k) = true := decide_eq_true h
              refine ⟨_, s102 _ (upg _ _ w1) (upk _ _ w2) ?_, fun _ z => z⟩
              rw [up_s, w3, q', h']
              rfl
            · rw [cl]
              have h' : aE b (T k) = false := decide_eq_false h
              refine ⟨_, s102 _ (upg _ _ w1) (upk _ _ w2) ?_, fun _ z => z⟩
              rw [up_s, w3, q', h']
              rfl
          · rw [ko] at q
            have q' : tE b (T k) = false := decide_eq_false q
            refine ⟨_, s102 M' w1 w2 ?_, fun _ z => z⟩
            rw [w3, q']
            rfl
        refine ⟨_, c31 (dr M g1) t6 t7, ?_⟩
        rintro _ rfl
        refine xb30_45 ⟨fun h => ?_, fun h => ⟨v (by omega), v (by omega), ?_⟩⟩
        · rw [bI_0] at h
          refine ⟨_, s65 M g1 (fun _ _ => rfl) ?_, fun _ z => z⟩
          rw [g2 k (Nat.le_refl k), p6]
          unfold cE
          rw [h]
          rfl
        · rw [bI_ne] at h
          rw [cl]
          refine ⟨_, s65 _ (upg _ _ g1) (upk _ _ (fun _ _ => rfl)) ?_, fun _ z => z⟩
          rw [up_s, g2 k (Nat.le_refl k), p6]
          unfold cE
          rw [h]
          rfl
      · refine ih (k + 1) M (by omega) (by omega) (by omega) g1 (fun j hj => g2 j (by omega)) (fun j q1 q2 q3 => ?_)
        by_cases hj : j = k
        · subst hj
          exact absurd q3 hk1
        · exact g3 j q1 (by omega) q3
  exact xm_in (xb30_0 (lp (s - 1) 1 MI (by omega) (by omega) (by omega) (fun _ _ _ => rfl) (fun _ _ => rfl) (fun j q1 q2 => by omega)))
end SH
