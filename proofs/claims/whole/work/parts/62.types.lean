/-- the name of a class entry -/
def wc (b : Nat → Nat) (T : Nat → Ent) (k : Nat) : Wd := wB b (T (T k).f).f (T (T k).f).s
def cw (b : Nat → Nat) (T : Nat → Ent) (s k : Nat) : List Wd := if nmd b T s k = true then [wc b T k] else if (T k).kd = 7 then tw b T (T k).f else []
def clW (b : Nat → Nat) (T : Nat → Ent) (s : Nat) : Nat → Nat → List Wd
  | 0, _ => []
  | d + 1, k => cw b T s k ++ clW b T s d (k + 1)
def pw (b : Nat → Nat) (T : Nat → Ent) (k : Nat) : List Wd := if (T k).kd = 12 then tw b T (T k).s else []
def prW (b : Nat → Nat) (T : Nat → Ent) : Nat → Nat → List Wd
  | 0, _ => []
  | d + 1, k => pw b T k ++ prW b T d (k + 1)
theorem nmd_sp {b : Nat → Nat} {T : Nat → Ent} {s k : Nat} (h : nmd b T s k = true) : 1 ≤ k ∧ k < s ∧ (T k).kd = 7 ∧ 1 ≤ (T k).f ∧ (T k).f < s ∧ (T (T k).f).kd = 1 ∧ (T (T k).f).f < (T (T k).f).s ∧ ¬ bBy b (T (T k).f).f = 91 ∧ (T (T k).f).s - (T (T k).f).f ≤ 16 ∧ gW (wc b T k) := by
  unfold nmd at h
  rw [Bool.and_eq_true] at h
  obtain ⟨q1, q2, q3⟩ := kdo_in (of_decide_eq_true h.1) (by decide)
  obtain ⟨p1, p2, p3, p4, p5⟩ := isC_sp h.2
  have h2 := h.2
  unfold isC at h2
  rw [Bool.and_eq_true] at h2
  obtain ⟨-, g2, g3⟩ := cn_gW (b := b) h2.2
  exact ⟨q1, q2, q3, p1, p2, p3, p4, p5, g2, g3⟩
/-- a text whose names can be met -/
def tGo (b : Nat → Nat) (T : Nat → Ent) (s x : Nat) : Prop := 1 ≤ x ∧ x < s ∧ (T x).kd = 1 ∧ tOK b T x
theorem isA_go {b : Nat → Nat} {T : Nat → Ent} {s x : Nat} (h : isA b T s x = true) : tGo b T s x := by
  obtain ⟨a1, a2, a3, -⟩ := isA_sp h
  unfold isA at h
  rw [Bool.and_eq_true, Bool.and_eq_true] at h
  exact ⟨a1, a2, a3, tE_OK h.2.1⟩
theorem isY_go {b : Nat → Nat} {T : Nat → Ent} {s x : Nat} (h : isY b T s x = true) : tGo b T s x := by
  unfold isY at h
  rw [Bool.and_eq_true] at h
  obtain ⟨q1, q2, q3⟩ := kdo_in (of_decide_eq_true h.1) (by decide)
  exact ⟨q1, q2, q3, tE_OK h.2⟩
theorem isM_go {b : Nat → Nat} {T : Nat → Ent} {s x : Nat} (h : isM b T s x = true) : tGo b T s x := by
  unfold isM at h
  rw [Bool.and_eq_true] at h
  obtain ⟨q1, q2, q3⟩ := kdo_in (of_decide_eq_true h.1) (by decide)
  exact ⟨q1, q2, q3, mE_OK h.2⟩
theorem CKd.arr {b : Nat → Nat} {T : Nat → Ent} {s k : Nat} (h : CKd b T s) (h1 : 1 ≤ k) (h2 : k < s) (h7 : (T k).kd = 7) (hn : nmd b T s k = false) : isA b T s (T k).f = true := by
  have := h.c7 h1 h2 h7
  have e : isC b T s (T k).f = false := by
    unfold nmd at hn
    rw [kdo_at h1 h2, decide_eq_true h7, Bool.true_and] at hn
    exact hn
  rw [e, Bool.false_or] at this
  exact this
theorem CKd.pair {b : Nat → Nat} {T : Nat → Ent} {s k : Nat} (h : CKd b T s) (h1 : 1 ≤ k) (h2 : k < s) (h7 : (T k).kd = 12) : tGo b T s (T k).s := by
  have := h.c12 h1 h2 h7
  rw [Bool.or_eq_true] at this
  exact this.elim isY_go isM_go
section TY
variable {MI : Nat → Nat → Int32} {ML : Nat → Nat → Int64} {Q : Nat → Nat} {b : Nat → Nat} {n s : Nat} {T : Nat → Ent}
theorem rv_one {S : Tb} {w : Wd} (h : w ∈ S.1) : rv S w = nI (S.1.idxOf w) := by unfold rv; rw [if_pos h]
theorem c61 {S : Tb} (h48 : S.1.length ≤ 48) {w : Wd} (hw : S.2 = false → w ∈ S.1) : xm_Ev xz 61 [.int (rv S w)] (xM MI ML Q) (fun r => ∃ u, r = (some (.long u), xM MI ML Q) ∧ US S [w] u) := by
  by_cases hm : w ∈ S.1
  · have hi : S.1.idxOf w < S.1.length := List.idxOf_lt_length_iff.mpr hm
    rw [rv_one hm]
    refine xm_in (xb61_0 ⟨fun q => absurd q (nI_nm1 (by omega)), fun _ => ⟨_, rfl, US.one h48 hm⟩⟩)
  · have e : rv S w = -1 := by unfold rv; rw [if_neg hm]
    rw [e]
    exact xm_in (xb61_0 ⟨fun _ => ⟨0, rfl, fun q => absurd (hw q) hm⟩, fun q => absurd rfl q⟩)
theorem c55 (hD : Dr n (bBy b) MI) (hP : PW b n s T MI) {S : Tb} (hT : TS S MI) {k : Nat} (hk : nmd b T s k = true) : xm_Ev xz 55 [.ref 0, .int (nI k)] (xM MI ML Q) (fun r => ∃ M, r = (some (.int (rv (mt S (wc b T k)) (wc b T k))), xM M ML Q) ∧ RT MI M ∧ TS (mt S (wc b T k)) M) := by
  obtain ⟨k1, k2, k3, f1, f2, f3, f4, f5, f6, f7⟩ := nmd_sp hk
  obtain ⟨e1, -⟩ := (hP.2.2.2 k k1 k2).2.2.1 (Or.inr (by omega))
  obtain ⟨e2, e3⟩ := (hP.2.2.2 (T k).f f1 f2).2.2.1 (Or.inl f3)
  obtain ⟨-, -, -, -, t5⟩ := hP.2.2.1 (T k).f
  obtain ⟨t6, t7⟩ := t5 f3
  refine xm_in (xb55_0 ⟨_, c39 hP k1 k2, ?_⟩)
  rintro _ rfl
  rw [e1]
  refine xb55_11 ⟨_, c39 hP f1 f2, ?_⟩
  rintro _ rfl
  rw [e2]
  refine xb55_34 ⟨_, c40 hP f1 f2, ?_⟩
  rintro _ rfl
  rw [e3]
  refine xb55_45 ⟨_, c56 hD hT t7 f4 f6 f7, ?_⟩
  rintro _ ⟨M, rfl, m1, m2⟩
  exact xb55_48 ⟨M, rfl, m1, m2⟩
theorem l62 {P : xm_R → Prop} {t : Nat} (ht : t ≤ n) : ∀ (d i : Nat) (o : Option Nat) (l W : List Wd) (S : Tb) (u : Int64) (MI : Nat → Nat → Int32), i + d = t → (∀ x, o = some x → x ≤ i) → wsO b d i o = some l → Dr n (bBy b) MI → TS S MI → US S W u → (∀ M v, RT MI M → TS (mts S l) M → US (mts S l) (W ++ l) v → P (some (.long v), xM M ML Q)) → xq62 P (20, [some (.ref 12), some (.ref 2), none, none, some (.int (nI t)), some (.long u), none, some (.int (oI o)), some (.int (nI i)), none], [], xM MI ML Q, 0, 0) := by
  intro d
  induction d with
  | zero =>
    intro i o l W S u MI hi ho hw hD hT hU hF
    have hn := hD.1
    cases o with
    | some x => cases hw
    | none =>
      cases hw
      refine xb62_20 (pk_le t i (fun _ => hF MI u (RT.rf MI) hT ?_) (fun h => absurd h (by omega)))
      rw [List.append_nil]
      exact hU
  | succ d ih =>
    intro i o l W S u MI hi ho hw hD hT hU hF
    have hn := hD.1
    refine xb62_20 (pk_le t i (fun h => absurd h (by omega)) (fun _ => ⟨_, c32 hD (i := i) (by omega), ?_⟩))
    rintro _ rfl
    cases o with
    | none =>
      rw [wsO] at hw
      refine xb62_33 ⟨fun _ => ⟨fun q => ?_, fun q => ?_⟩, fun h => absurd rfl h⟩
      · have q : nI (b i) = 76 := q
        rw [if_pos q] at hw
        rw [nI_1]
        exact ih (i + 1) (some (i + 1)) l W S u MI (by omega) (fun x hx => by cases hx; exact Nat.le_refl _) hw hD hT hU hF
      · have q : ¬ nI (b i) = 76 := q
        rw [if_neg q] at hw
        rw [nI_1]
        exact ih (i + 1) none l W S u MI (by omega) (fun x hx => by cases hx) hw hD hT hU hF
    | some x =>
      have hx := ho x rfl
      have hne : ¬ oI (some x) = -1 := nI_nm1 (by omega)
      rw [wsO] at hw
      refine xb62_33 ⟨fun h => absurd h hne, fun _ => ⟨fun q => ?_, fun q => ?_⟩⟩
      · have q : nI (b i) = 59 := q
        rw [if_pos q] at hw
        by_cases hc : cn (bBy b) x i = true
        · rw [if_pos hc] at hw
          obtain ⟨c1, c2, c3⟩ := cn_gW hc
          cases hr : wsO b d (i + 1) none with
          | none => rw [hr] at hw; cases hw
          | some l' =>
            rw [hr] at hw
            cases hw
            refine ⟨_, c56 hD hT (f := x) (t := i) (by omega) c1 c2 c3, ?_⟩
            rintro _ ⟨M, rfl, m1, m2⟩
            refine xb62_79 ⟨_, c61 m2.1 (fun z => (mt_ov z).2), ?_⟩
            rintro _ ⟨v, rfl, hv⟩
            refine xb62_82 ?_
            rw [nI_1]
            refine ih (i + 1) none l' (W ++ [wB b x i]) (mt S (wB b x i)) _ M (by omega) (fun x hx => by cases hx) hr (m1.dr hD) m2 ((hU.mt _).or hv) (fun M2 v2 g1 g2 g3 => hF M2 v2 (m1.tr g1) g2 ?_)
            rw [List.append_assoc] at g3
            exact g3
        · rw [if_neg hc] at hw
          cases hw
      · have q : ¬ nI (b i) = 59 := q
        rw [if_neg q] at hw
        rw [nI_1]
        exact ih (i + 1) (some x) l W S u MI (by omega) (fun y hy => by cases hy; omega) hw hD hT hU hF
theorem c62 (hD : Dr n (bBy b) MI) (hP : PW b n s T MI) {S : Tb} (hT : TS S MI) {x : Nat} (hx : tGo b T s x) : xm_Ev xz 62 [.ref 12, .ref 2, .ref 4, .int (nI x)] (xM MI ML Q) (fun r => ∃ M u, r = (some (.long u), xM M ML Q) ∧ RT MI M ∧ TS (mts S (tw b T x)) M ∧ US (mts S (tw b T x)) (tw b T x) u) := by
  obtain ⟨x1, x2, x3, x4, x5⟩ := hx
  obtain ⟨e2, e3⟩ := (hP.2.2.2 x x1 x2).2.2.1 (Or.inl x3)
  obtain ⟨-, -, -, -, t5⟩ := hP.2.2.1 x
  obtain ⟨t6, t7⟩ := t5 x3
  refine xm_in (xb62_0 ⟨_, c40 hP x1 x2, ?_⟩)
  rintro _ rfl
  rw [e3]
  refine xb62_5 ⟨_, c39 hP x1 x2, ?_⟩
  rintro _ rfl
  rw [e2]
  refine xb62_18 (l62 t7 ((T x).s - (T x).f) (T x).f none _ [] S 0 MI (by omega) (fun x hx => by cases hx) x4 hD hT (US.nil S) (fun M v g1 g2 g3 => ⟨M, v, rfl, g1, g2, g3⟩))
theorem c60 (hD : Dr n (bBy b) MI) (hP : PW b n s T MI) (hC : CKd b T s) {S : Tb} (hT : TS S MI) : xm_Ev xz 60 [.ref 0] (xM MI ML Q) (fun r => ∃ M u, r = (some (.long u), xM M ML Q) ∧ RT MI M ∧ TS (mts S (clW b T s (s - 1) 1 ++ prW b T (s - 1) 1)) M ∧ US (mts S (clW b T s (s - 1) 1 ++ prW b T (s - 1) 1)) (clW b T s (s - 1) 1 ++ prW b T (s - 1) 1) u) := by
  have h64 := hP.2.1
  -- pairs
  have l90 : ∀ (P : xm_R → Prop) (d k : Nat) (W : List Wd) (S : Tb) (u : Int64) (MI : Nat → Nat → Int32), (k + d = s ∨ (d = 0 ∧ s ≤ k)) → 1 ≤ k → k ≤ 64 → Dr n (bBy b) MI → PW b n s T MI → TS S MI → US S W u → (∀ M v, RT MI M → TS (mts S (prW b T d k)) M → US (mts S (prW b T d k)) (W ++ prW b T d k) v → P (some (.long v), xM M ML Q)) → xq60 P (90, [some (.ref 0), some (.ref 4), some (.long u), none, some (.int (nI k))], [], xM MI ML Q, 0, 0) := by
    intro P d
    induction d with
    | zero =>
      intro k W S u MI hk k1 k64 hD hP hT hU hF
      refine xb60_90 ?_
      rw [hP.1]
      refine pk_le s k (fun _ => hF MI u (RT.rf MI) hT ?_) (fun h => absurd h (by omega))
      show US S (W ++ []) u
      rw [List.append_nil]
      exact hU
    | succ d ih =>
      intro k W S u MI hk k1 k64 hD hP hT hU hF
      have hlt : k < s := by omega
      have kd := (hP.2.2.1 k).1
      refine xb60_90 ?_
      rw [hP.1]
      refine pk_le s k (fun h => absurd h (by omega)) (fun _ => ⟨_, k23 hP (by omega), ?_⟩)
      rintro _ rfl
      rw [kdo_at k1 hlt]
      refine xb60_105 (pk_eq (T k).kd 12 (fun h => ⟨_, c40 hP k1 hlt, ?_⟩) (fun h => ?_))
      · rintro _ rfl
        rw [((hP.2.2.2 k k1 hlt).2.2.1 (Or.inr (by omega))).2]
        refine xb60_129 ⟨_, c62 hD hP hT (hC.pair k1 hlt h), ?_⟩
        rintro _ ⟨M, v, rfl, m1, m2, m3⟩
        refine xb60_132 ?_
        rw [nI_1]
        have e : prW b T (d + 1) k = tw b T (T k).s ++ prW b T d (k + 1) := by
          show pw b T k ++ _ = _
          unfold pw
          rw [if_pos h]
        rw [e] at hF
        refine ih (k + 1) (W ++ tw b T (T k).s) _ _ M (by omega) (by omega) (by omega) (m1.dr hD) (m1.pw hP) m2 ((hU.mts _).or m3) (fun M2 v2 g1 g2 g3 => hF M2 v2 (m1.tr g1) ?_ ?_)
        · rw [mts_app]; exact g2
        · rw [mts_app, ← List.append_assoc]; exact g3
      · rw [nI_1]
        have e : prW b T (d + 1) k = prW b T d (k + 1) := by
          show pw b T k ++ _ = _
          unfold pw
          rw [if_neg h]
          rfl
        rw [e] at hF
        exact ih (k + 1) W S u MI (by omega) (by omega) (by omega) hD hP hT hU hF
  -- classes
  have l13 : ∀ (P : xm_R → Prop) (d k : Nat) (W : List Wd) (S : Tb) (u : Int64) (MI : Nat → Nat → Int32), (k + d = s ∨ (d = 0 ∧ s ≤ k)) → 1 ≤ k → k ≤ 64 → Dr n (bBy b) MI → PW b n s T MI → TS S MI → US S W u → (∀ M v, RT MI M → TS (mts S (clW b T s d k ++ prW b T (s - 1) 1)) M → US (mts S (clW b T s d k ++ prW b T (s - 1) 1)) (W ++ (clW b T s d k ++ prW b T (s - 1) 1)) v → P (some (.long v), xM M ML Q)) → xq60 P (13, [some (.ref 0), some (.ref 4), some (.long u), none, some (.int (nI k))], [], xM MI ML Q, 0, 0) := by
    intro P d
    induction d with
    | zero =>
      intro k W S u MI hk k1 k64 hD hP hT hU hF
      refine xb60_13 ?_
      rw [hP.1]
      exact pk_le s k (fun _ => l90 P (s - 1) 1 W S u MI (by omega) (by omega) (by omega) hD hP hT hU hF) (fun h => absurd h (by omega))
    | succ d ih =>
      intro k W S u MI hk k1 k64 hD hP hT hU hF
      have hlt : k < s := by omega
      have kd := (hP.2.2.1 k).1
      have st : ∀ (V : List Wd) (v : Int64) (M : Nat → Nat → Int32), cw b T s k = V → RT MI M → TS (mts S V) M → US (mts S V) V v → xq60 P (13, [some (.ref 0), some (.ref 4), some (.long (u ||| v)), none, some (.int (nI (k + 1)))], [], xM M ML Q, 0, 0) := by
        intro V v M hV m1 m2 m3
        have e : clW b T s (d + 1) k = V ++ clW b T s d (k + 1) := by rw [← hV]; rfl
        rw [e, List.append_assoc] at hF
        refine ih (k + 1) (W ++ V) (mts S V) _ M (by omega) (by omega) (by omega) (m1.dr hD) (m1.pw hP) m2 ((hU.mts _).or m3) (fun M2 v2 g1 g2 g3 => hF M2 v2 (m1.tr g1) ?_ ?_)
        · rw [mts_app]; exact g2
        · rw [mts_app, ← List.append_assoc]; exact g3
      refine xb60_13 ?_
      rw [hP.1]
      refine pk_le s k (fun h => absurd h (by omega)) (fun _ => ⟨_, c46 hP (x := k) (by omega), ?_⟩)
      rintro _ rfl
      refine xb60_28 ⟨fun h => ⟨_, k23 hP (x := k) (by omega), ?_⟩, fun h => ?_⟩
      · rintro _ rfl
        rw [bI_0] at h
        rw [kdo_at k1 hlt]
        refine xb60_52 (pk_eq (T k).kd 7 (fun h7 => ⟨_, c39 hP k1 hlt, ?_⟩) (fun h7 => ?_))
        · rintro _ rfl
          rw [((hP.2.2.2 k k1 hlt).2.2.1 (Or.inr (by omega))).1]
          refine xb60_76 ⟨_, c62 hD hP hT (isA_go (hC.arr k1 hlt h7 h)), ?_⟩
          rintro _ ⟨M, v, rfl, m1, m2, m3⟩
          refine xb60_79 ?_
          rw [nI_1]
          refine st (tw b T (T k).f) v M ?_ m1 m2 m3
          unfold cw
          rw [if_neg (by rw [h]; decide), if_pos h7]
        · rw [nI_1]
          have e : clW b T s (d + 1) k = clW b T s d (k + 1) := by
            show cw b T s k ++ _ = _
            unfold cw
            rw [if_neg (by rw [h]; decide), if_neg h7]
            rfl
          rw [e] at hF
          exact ih (k + 1) W S u MI (by omega) (by omega) (by omega) hD hP hT hU hF
      · rw [bI_ne] at h
        refine ⟨_, c55 hD hP hT h, ?_⟩
        rintro _ ⟨M, rfl, m1, m2⟩
        refine xb60_38 ⟨_, c61 m2.1 (fun z => (mt_ov z).2), ?_⟩
        rintro _ ⟨v, rfl, hv⟩
        refine xb60_41 ?_
        rw [nI_1]
        refine st [wc b T k] v M ?_ m1 m2 hv
        unfold cw
        rw [if_pos h]
  refine xm_in (xb60_0 (l13 _ (s - 1) 1 [] S 0 MI (by omega) (by omega) (by omega) hD hP hT (US.nil S) (fun M v g1 g2 g3 => ⟨M, v, rfl, g1, g2, g3⟩)))
end TY
