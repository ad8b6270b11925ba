theorem oI_eq {o : Option Nat} {t : Nat} (ht : t < 2 ^ 31) (ho : ∀ a, o = some a → a < 2 ^ 31) : oI o = nI t ↔ o = some t := by
  cases o with
  | none => exact ⟨fun h => absurd h.symm (nI_nm1 ht), fun h => (by cases h)⟩
  | some a =>
    show nI a = nI t ↔ _
    rw [nI_eq (ho a rfl) ht]
    exact ⟨fun h => by rw [h], fun h => by cases h; rfl⟩
section MT
variable {MI : Nat → Nat → Int32} {ML : Nat → Nat → Int64} {Q : Nat → Nat} {B : Nat → Int32} {n : Nat}
theorem c36 (hD : Dr n B MI) {f t : Nat} (hf : f ≤ t) (ht : t ≤ n) : xm_Ev xz 36 [.ref 2, .int (nI f), .int (nI t)] (xM MI ML Q) (fun r => r = (some (.int (bI (mtB B f t))), xM MI ML Q)) := by
  have hn := hD.1
  have la : ∀ (a : Nat), a < t → B a = 41 → xq36 (fun r => r = (some (.int (bI (mfin B t (some a)))), xM MI ML Q)) (81, [some (.ref 2), none, some (.int (nI t)), some (.int (nI a)), none], [.int (B a)], xM MI ML Q, 0, 0) := by
    intro a ha h41
    have fi : ¬ (B (a + 1) = 86 ∧ a + 2 = t) → xm_Ev xz 34 [.ref 2, .int (nI (a + 1)), .int (nI t)] (xM MI ML Q) (fun r => xq36 (fun r => r = (some (.int (bI (mfin B t (some a)))), xM MI ML Q)) (xm_bk 127 [none, none, some (.int (nI t)), none, none] [] 0 0 r)) := fun h => by
      refine (c34 hD ht (t - (a + 1)) (a + 1) (by omega)).imp ?_
      rintro _ rfl
      have k := oI_eq (o := te B (t - (a + 1)) (a + 1)) (t := t) (by omega) (fun e he => by have := te_bd he; omega)
      refine xb36_127 ⟨fun q => ⟨Or.inr rfl, ?_⟩, fun q => ⟨Or.inl rfl, ?_⟩⟩
      · rw [k] at q
        rw [mfin, decide_eq_true (Or.inr q)]
        rfl
      · rw [k] at q
        rw [mfin, decide_eq_false (fun w => w.elim h q)]
        rfl
    refine xb36_81 ⟨fun _ => ?_, fun h => absurd h41 h⟩
    rw [pk_sub (by omega), nI_1]
    refine pk_eq (t - a) 2 (fun h2 => ⟨_, c32 hD (i := a + 1) (by omega), ?_⟩) (fun h2 => ⟨fun _ => ⟨_, fi (fun q => by omega), fun _ z => z⟩, fun h => absurd rfl h⟩)
    rintro _ rfl
    refine xb36_102 ⟨fun h => ⟨fun h => absurd h (by decide), fun _ => ⟨Or.inr rfl, ?_⟩⟩, fun h => ⟨fun _ => ?_, fun h => absurd rfl h⟩⟩
    · rw [mfin, decide_eq_true (Or.inl ⟨h, by omega⟩)]
      rfl
    · rw [nI_1]
      exact ⟨_, fi (fun q => h q.1), fun _ z => z⟩
  have fin : ∀ (a : Nat), a < t → B a = 41 → xm_Ev xz 32 [.ref 2, .int (nI a)] (xM MI ML Q) (fun r => xq36 (fun r => r = (some (.int (bI (mfin B t (some a)))), xM MI ML Q)) (xm_bk 81 [some (.ref 2), none, some (.int (nI t)), some (.int (nI a)), none] [] 0 0 r)) := fun a ha h => by
    refine (c32 hD (i := a) (by omega)).imp ?_
    rintro _ rfl
    exact la a ha h
  have lp : ∀ (g ty : Nat) (o : Option Nat), ty + g = t → (∀ a, o = some a → ty < a ∧ a ≤ t) → xq36 (fun r => r = (some (.int (bI (mfin B t (o.bind (mtE B t g))))), xM MI ML Q)) (24, [some (.ref 2), none, some (.int (nI t)), some (.int (oI o)), some (.int (nI ty))], [], xM MI ML Q, 0, 0) := by
    intro g
    induction g with
    | zero =>
      intro ty o hg ho
      cases o with
      | none => exact xb36_24 (pk_le t ty (fun _ => ⟨fun _ => ⟨Or.inl rfl, rfl⟩, fun h => absurd rfl h⟩) (fun h => absurd h (by omega)))
      | some a =>
        have := ho a rfl
        omega
    | succ g ih =>
      intro ty o hg ho
      cases o with
      | none => exact xb36_24 (pk_le t ty (fun h => absurd h (by omega)) (fun _ => ⟨fun _ => ⟨fun _ => ⟨Or.inl rfl, rfl⟩, fun h => absurd rfl h⟩, fun h => absurd rfl h⟩))
      | some a =>
        have ha := ho a rfl
        have hm : oI (some a) ≠ -1 := nI_nm1 (by omega)
        refine xb36_24 (pk_le t ty (fun h => absurd h (by omega)) (fun _ => ⟨fun h => absurd h hm, fun _ => pk_le t a (fun h => ⟨fun h => absurd h hm, fun _ => pk_le t a (fun h => ⟨Or.inl rfl, ?_⟩) (fun h2 => absurd h2 (by omega))⟩) (fun h => ⟨_, c32 hD (i := a) (by omega), ?_⟩)⟩))
        · show _ = (some (Value.int (bI (mfin B t (mtE B t (g + 1) a)))), _)
          rw [mtE, if_pos h]
          rfl
        · rintro _ rfl
          refine xb36_45 ⟨fun h41 => ⟨fun h => absurd h hm, fun _ => pk_le t a (fun h2 => absurd h2 (by omega)) (fun _ => ?_)⟩, fun h41 => ⟨_, c34 hD ht (t - a) a (by omega), ?_⟩⟩
          · have e : (some a).bind (mtE B t (g + 1)) = some a := by
              show mtE B t (g + 1) a = _
              rw [mtE, if_neg (by omega), if_pos h41]
            rw [e]
            exact ⟨_, fin a h h41, fun _ z => z⟩
          · rintro _ rfl
            have e : (some a).bind (mtE B t (g + 1)) = (te B (t - a) a).bind (mtE B t g) := by
              show mtE B t (g + 1) a = _
              rw [mtE, if_neg (by omega), if_neg h41]
            rw [e]
            refine xb36_59 ?_
            rw [nI_1]
            refine ih (ty + 1) (te B (t - a) a) (by omega) (fun a' h' => ?_)
            have := te_bd h'
            omega
  refine xm_in (xb36_0 (pk_le t f (fun h => ⟨Or.inl rfl, ?_⟩) (fun h => ⟨_, c32 hD (i := f) (by omega), ?_⟩)))
  · unfold mtB
    rw [decide_eq_false (fun q => by omega)]
    rfl
  · rintro _ rfl
    refine xb36_10 ⟨fun h40 => ?_, fun h40 => ⟨Or.inl rfl, ?_⟩⟩
    · unfold mtB
      rw [decide_eq_true ⟨h, h40⟩, Bool.true_and, nI_1]
      exact lp (t - f) f (some (f + 1)) (by omega) (fun a q => by cases q; omega)
    · unfold mtB
      rw [decide_eq_false (fun q => h40 q.2)]
      rfl
theorem c132 (hD : Dm n B MI) {f t : Nat} (hf : f ≤ t) (ht : t ≤ n) : xm_Ev xz 132 [.ref 45, .int (nI f), .int (nI t)] (xM MI ML Q) (fun r => r = (some (.int (bI (mtB B f t))), xM MI ML Q)) := by
  have hn := hD.1
  have e0 : ∀ i, i < t → MI 46 (nI i).toNatClampNeg = B i := fun i hi => by rw [nI_clamp (by omega), hD.2.2 i (by omega)]
  have fi : ∀ (a : Nat), a < t → ¬ (B (a + 1) = 86 ∧ a + 2 = t) → a + 1 < t → xm_Ev xz 127 [.ref 45, .int (nI (a + 1)), .int (nI t)] (xM MI ML Q) (fun r => xq132 (fun r => r = (some (.int (bI (mfin B t (some a)))), xM MI ML Q)) (xm_bk 93 [none, none, some (.int (nI t)), none] [] 0 0 r)) := fun a ha h h2 => by
    refine (c127 hD ht (t - (a + 1)) (a + 1) (by omega)).imp ?_
    rintro _ rfl
    have k := oI_eq (o := te B (t - (a + 1)) (a + 1)) (t := t) (by omega) (fun e he => by have := te_bd he; omega)
    refine xb132_93 ⟨fun q => ⟨Or.inr rfl, ?_⟩, fun q => ⟨Or.inl rfl, ?_⟩⟩
    · rw [k] at q
      rw [mfin, decide_eq_true (Or.inr q)]
      rfl
    · rw [k] at q
      rw [mfin, decide_eq_false (fun w => w.elim h q)]
      rfl
  have lp : ∀ (g : Nat) (o : Option Nat), (∀ a, o = some a → t ≤ a + g ∧ a ≤ t) → xq132 (fun r => r = (some (.int (bI (mfin B t (o.bind (mtE B t g))))), xM MI ML Q)) (22, [some (.ref 45), none, some (.int (nI t)), some (.int (oI o))], [], xM MI ML Q, 0, 0) := by
    intro g
    induction g with
    | zero =>
      intro o ho
      cases o with
      | none => exact xb132_22 ⟨fun _ => ⟨fun _ => ⟨Or.inl rfl, rfl⟩, fun h => absurd (by decide) h⟩, fun h => absurd (by decide) h⟩
      | some a =>
        have := ho a rfl
        have hm : ¬ oI (some a) < 0 := nI_pos (by omega)
        refine xb132_22 ⟨fun h => absurd h hm, fun _ => pk_le t a (fun _ => ⟨fun h => absurd h hm, fun _ => pk_lt (a + 1) t (fun h => absurd h (by omega)) (fun h => ⟨Or.inl rfl, rfl⟩) (nI_1 a)⟩) (fun h => absurd h (by omega))⟩
    | succ g ih =>
      intro o ho
      cases o with
      | none => exact xb132_22 ⟨fun _ => ⟨fun _ => ⟨Or.inl rfl, rfl⟩, fun h => absurd (by decide) h⟩, fun h => absurd (by decide) h⟩
      | some a =>
        have ha := ho a rfl
        have hm : ¬ oI (some a) < 0 := nI_pos (by omega)
        have hA : oI (some a) = nI a := rfl
        refine xb132_22 ⟨fun h => absurd h hm, fun _ => ?_⟩
        rw [hA] at hm ⊢
        rw [nI_1]
        have e2 : nI a + 2 = nI (a + 2) := nI_add a 2
        rw [e2]
        refine pk_le t a (fun h => ⟨fun h => absurd h hm, fun _ => pk_lt (a + 1) t (fun h => absurd h (by omega)) (fun _ => ⟨Or.inl rfl, ?_⟩)⟩) (fun h => ⟨vp_in_nI (by omega) (by decide), ?_⟩)
        · show _ = (some (Value.int (bI (mfin B t (mtE B t (g + 1) a)))), _)
          rw [mtE, if_pos h]
          rfl
        · rw [e0 a h]
          refine ⟨fun h41 => ⟨fun h => absurd h hm, fun _ => ?_⟩, fun h41 => ⟨_, c127 hD ht (t - a) a (by omega), ?_⟩⟩
          · have e : (some a).bind (mtE B t (g + 1)) = some a := by
              show mtE B t (g + 1) a = _
              rw [mtE, if_neg (by omega), if_pos h41]
            rw [e]
            refine pk_lt (a + 1) t (fun h1 => ⟨vp_in_nI (by omega) (by decide), ?_⟩) (fun h1 => ⟨Or.inl rfl, ?_⟩)
            · rw [e0 (a + 1) h1]
              refine ⟨fun h86 => pk_eq (a + 2) t (fun h2 => ⟨Or.inr rfl, ?_⟩) (fun h2 => ⟨_, fi a h (fun q => h2 q.2) h1, fun _ z => z⟩), fun h86 => ⟨_, fi a h (fun q => h86 q.1) h1, fun _ z => z⟩⟩
              rw [mfin, decide_eq_true (Or.inl ⟨h86, h2⟩)]
              rfl
            · have : t - (a + 1) = 0 := by omega
              rw [mfin, decide_eq_false (fun q => by
                rcases q with q | q
                · omega
                · rw [this, te] at q
                  cases q)]
              rfl
          · rintro _ rfl
            have e : (some a).bind (mtE B t (g + 1)) = (te B (t - a) a).bind (mtE B t g) := by
              show mtE B t (g + 1) a = _
              rw [mtE, if_neg (by omega), if_neg h41]
            rw [e]
            refine xb132_48 ?_
            refine ih (te B (t - a) a) (fun a' h' => ?_)
            have := te_bd h'
            omega
  refine xm_in (xb132_0 (pk_le t f (fun h => ⟨Or.inl rfl, ?_⟩) (fun h => ⟨vp_in_nI (by omega) (by decide), ?_⟩)))
  · unfold mtB
    rw [decide_eq_false (fun q => by omega)]
    rfl
  · rw [e0 f h]
    refine ⟨fun h40 => ?_, fun h40 => ⟨Or.inl rfl, ?_⟩⟩
    · unfold mtB
      rw [decide_eq_true ⟨h, h40⟩, Bool.true_and, nI_1]
      exact lp (t - f) (some (f + 1)) (fun a q => by cases q; omega)
    · unfold mtB
      rw [decide_eq_false (fun q => h40 q.2)]
      rfl
end MT
