/-- the reference's table -/
def NM (L : List Wd) (MI : Nat → Nat → Int32) : Prop := ∀ a, a < L.length → (L.getD a []).length ≤ 16 ∧ MI 56 a = nI (L.getD a []).length ∧ ∀ i, i < (L.getD a []).length → MI 55 (16 * a + i) = (L.getD a []).getD i 0
def TM (S : Tb) (MI : Nat → Nat → Int32) : Prop := S.1.length ≤ 48 ∧ MI 45 19 = nI S.1.length ∧ MI 45 22 = bI S.2 ∧ NM S.1 MI
/-- off the reference's table -/
def MT (MI M : Nat → Nat → Int32) : Prop := ∀ a j, ¬ (a = 45 ∧ 19 ≤ j ∧ j ≤ 22) → ¬ (55 ≤ a ∧ a ≤ 56) → M a j = MI a j
def MTL (ML L : Nat → Nat → Int64) : Prop := ∀ a j, ¬ (a = 45 ∧ j = 23) → L a j = ML a j
theorem MT.tr {A B C : Nat → Nat → Int32} (h : MT A B) (h' : MT B C) : MT A C := fun a j q q' => (h' a j q q').trans (h a j q q')
theorem MT.rf (A : Nat → Nat → Int32) : MT A A := fun _ _ _ _ => rfl
theorem MTL.tr {A B C : Nat → Nat → Int64} (h : MTL A B) (h' : MTL B C) : MTL A C := fun a j q => (h' a j q).trans (h a j q)
theorem MTL.rf (A : Nat → Nat → Int64) : MTL A A := fun _ _ _ => rfl
theorem MT.dm {A B : Nat → Nat → Int32} (h : MT A B) {n : Nat} {c : Nat → Int32} (hD : Dm n c A) : Dm n c B := ⟨hD.1, (h 45 1 (by decide) (by decide)).trans hD.2.1, fun i hi => (h 46 i (by omega) (by omega)).trans (hD.2.2 i hi)⟩
theorem MT.qw {A B : Nat → Nat → Int32} (h : MT A B) {n s : Nat} {T : Nat → Ent} (hq : QW n s T A) : QW n s T B := hq.cg (h 45 4 (by decide) (by decide)) (fun a j q1 q2 => h a j (by omega) (by omega))
theorem wsO_sc {b : Nat → Nat} : ∀ {d i o : Nat} {l : List Wd}, wsO b d i (some o) = some l → sc (bBy b) d i < i + d ∧ cn (bBy b) o (sc (bBy b) d i) = true ∧ ∃ l', l = wB b o (sc (bBy b) d i) :: l' ∧ wsO b (i + d - (sc (bBy b) d i + 1)) (sc (bBy b) d i + 1) none = some l'
  | 0, i, o, l, h => by cases h
  | d + 1, i, o, l, h => by
    rw [wsO] at h
    rw [sc]
    by_cases q : nI (b i) = 59
    · have q' : bBy b i = 59 := q
      rw [if_pos q] at h
      rw [if_pos q']
      by_cases hc : cn (bBy b) o i = true
      · rw [if_pos hc] at h
        cases hr : wsO b d (i + 1) none with
        | none => rw [hr] at h; cases h
        | some l' =>
          rw [hr] at h
          cases h
          refine ⟨by omega, hc, l', rfl, ?_⟩
          rw [show i + (d + 1) - (i + 1) = d by omega]
          exact hr
      · rw [if_neg hc] at h
        cases h
    · have q' : ¬ bBy b i = 59 := q
      rw [if_neg q] at h
      rw [if_neg q']
      obtain ⟨h1, h2, l', h3, h4⟩ := wsO_sc (d := d) h
      refine ⟨by omega, h2, l', h3, ?_⟩
      rw [show i + (d + 1) = i + 1 + d by omega]
      exact h4
section MX
variable {MI : Nat → Nat → Int32} {ML : Nat → Nat → Int64} {Q : Nat → Nat} {b : Nat → Nat} {n s : Nat} {T : Nat → Ent}
theorem c139 (hD : Dm n (bBy b) MI) {L : List Wd} (h48 : L.length ≤ 48) (hN : NM L MI) {a f t : Nat} (ha : a < L.length) (hf : f ≤ t) (ht : t ≤ n) : xm_Ev xz 139 [.ref 45, .int (nI a), .int (nI f), .int (nI (t - f))] (xM MI ML Q) (fun r => ∃ z : Bool, r = (some (.int (bI z)), xM MI ML Q) ∧ (z = true ↔ L.getD a [] = wB b f t)) := by
  have hn := hD.1
  obtain ⟨g2, n1, n2⟩ := hN a ha
  have no : ∀ (i : Nat), L.getD a [] ≠ wB b f t → xq139 (fun r => ∃ z : Bool, r = (some (.int (bI z)), xM MI ML Q) ∧ (z = true ↔ L.getD a [] = wB b f t)) (20, [some (.ref 45), some (.int (nI a)), some (.int (nI f)), some (.int (nI (t - f))), some (.int 0), some (.int (nI i))], [], xM MI ML Q, 0, 0) := fun i hne =>
    xb139_20 ⟨fun _ => ⟨Or.inl rfl, false, rfl, fun q => (by cases q), fun q => absurd q hne⟩, fun _ => ⟨fun _ => ⟨Or.inl rfl, false, rfl, fun q => (by cases q), fun q => absurd q hne⟩, fun h => absurd rfl h⟩⟩
  have lp : (L.getD a []).length = t - f → ∀ (d i : Nat), i + d = t - f → (∀ j, j < i → (L.getD a []).getD j 0 = nI (b (f + j))) → xq139 (fun r => ∃ z : Bool, r = (some (.int (bI z)), xM MI ML Q) ∧ (z = true ↔ L.getD a [] = wB b f t)) (20, [some (.ref 45), some (.int (nI a)), some (.int (nI f)), some (.int (nI (t - f))), some (.int 1), some (.int (nI i))], [], xM MI ML Q, 0, 0) := by
    intro hl d
    induction d with
    | zero =>
      intro i hi hj
      exact xb139_20 (pk_le (t - f) i (fun _ => ⟨Or.inr rfl, true, rfl, fun _ => Wd_ext (by rw [hl, wB_len]) (fun j hj' => by rw [wB_at (by omega), hj j (by omega)]), fun _ => rfl⟩) (fun h => absurd h (by omega)))
    | succ d ih =>
      intro i hi hj
      refine xb139_20 (pk_le (t - f) i (fun h => absurd h (by omega)) (fun _ => ⟨fun h => absurd h (by decide), fun _ => ?_⟩))
      rw [ix16, nI_add, nI_clamp (by omega), nI_clamp (by omega), hD.2.2 (f + i) (by omega), n2 i (by omega), nI_1]
      refine ⟨vp_in_nI (by omega) (by decide), vp_in_nI (by omega) (by decide), fun e => ?_, fun e => ?_⟩
      · refine ih (i + 1) (by omega) (fun j hj' => ?_)
        by_cases hji : j = i
        · subst hji; exact e
        · exact hj j (by omega)
      · refine no (i + 1) (fun q => e ?_)
        rw [q, wB_at (by omega)]
  refine xm_in (xb139_0 ⟨vp_in_nI (by omega) (by decide), ?_⟩)
  rw [nI_clamp (by omega), n1]
  refine pk_eq (L.getD a []).length (t - f) (fun e => lp e (t - f) 0 (by omega) (fun j q => absurd q (Nat.not_lt_zero j))) (fun e => no 0 (fun q => e (by rw [q, wB_len])))
theorem c138n (hD : Dm n (bBy b) MI) {S : Tb} (h48 : S.1.length ≤ 48) (h4 : MI 45 19 = nI S.1.length) (hN : NM S.1 MI) {f t : Nat} (hf : f ≤ t) (ht : t ≤ n) : xm_Ev xz 138 [.ref 45, .int (nI f), .int (nI t)] (xM MI ML Q) (fun r => r = (some (.int (rv S (wB b f t))), xM MI ML Q)) := by
  have lp : ∀ (d a : Nat), a + d = S.1.length → (∀ j, j < a → S.1.getD j [] ≠ wB b f t) → xq138 (fun r => r = (some (.int (rv S (wB b f t))), xM MI ML Q)) (2, [some (.ref 45), some (.int (nI f)), some (.int (nI t)), some (.int (nI a))], [], xM MI ML Q, 0, 0) := by
    intro d
    induction d with
    | zero =>
      intro a ha hj
      refine xb138_2 ?_
      rw [h4]
      refine pk_le S.1.length a (fun _ => ?_) (fun h => absurd h (by omega))
      unfold rv
      rw [if_neg (idx_no (fun j q => hj j (by omega)))]
    | succ d ih =>
      intro a ha hj
      refine xb138_2 ?_
      rw [h4, pk_sub hf]
      refine pk_le S.1.length a (fun h => absurd h (by omega)) (fun _ => ⟨_, c139 hD h48 hN (a := a) (by omega) hf ht, ?_⟩)
      rintro _ ⟨z, rfl, hz⟩
      refine xb138_19 ⟨fun h => ?_, fun h => ?_⟩
      · rw [bI_0] at h
        rw [nI_1]
        refine ih (a + 1) (by omega) (fun j hj' q => ?_)
        by_cases hja : j = a
        · subst hja
          rw [hz.mpr q] at h
          cases h
        · exact hj j (by omega) q
      · rw [bI_ne] at h
        obtain ⟨i1, i2⟩ := idx_at (by omega) (hz.mp h) hj
        rw [rv_one i1, i2]
  exact xm_in (xb138_0 (lp S.1.length 0 (by omega) (fun j q => absurd q (Nat.not_lt_zero j))))
theorem c138 (hD : Dm n (bBy b) MI) {S : Tb} (hT : TM S MI) {f t : Nat} (hf : f ≤ t) (ht : t ≤ n) : xm_Ev xz 138 [.ref 45, .int (nI f), .int (nI t)] (xM MI ML Q) (fun r => r = (some (.int (rv S (wB b f t))), xM MI ML Q)) := c138n hD hT.1 hT.2.1 hT.2.2.2 hf ht
theorem c143 (hD : Dm n (bBy b) MI) {S : Tb} (hT : TM S MI) {W : List Wd} (hU : US S W (ML 45 23)) {f t : Nat} (ht : t ≤ n) (hf : f < t) (h16 : t - f ≤ 16) : xm_Ev xz 143 [.ref 45, .int (nI f), .int (nI t)] (xM MI ML Q) (fun r => ∃ M L, r = (some (.int (rv (mt S (wB b f t)) (wB b f t))), xM M L Q) ∧ MT MI M ∧ MTL ML L ∧ TM (mt S (wB b f t)) M ∧ US (mt S (wB b f t)) (W ++ [wB b f t]) (L 45 23)) := by
  have hT' := hT
  obtain ⟨h48, h4, h5, hN⟩ := hT
  have hn := hD.1
  refine xm_in (xb143_0 ⟨_, c138 hD hT' (by omega) ht, ?_⟩)
  rintro _ rfl
  by_cases hm : wB b f t ∈ S.1
  · have e : mt S (wB b f t) = S := by unfold mt; rw [if_pos hm]
    have hi := List.idxOf_lt_length_iff.mpr hm
    rw [e]
    rw [rv_one hm]
    refine xb143_6 ⟨fun _ => ⟨fun _ => ⟨MI, _, rfl, MT.rf MI, fun a j q => up_n q, hT', ?_⟩, fun h => absurd (nI_pos' (by omega)) h⟩, fun h => absurd (nI_pos' (by omega)) h⟩
    rw [up_s]
    exact hU.or (US.one h48 hm)
  · have er : rv S (wB b f t) = -1 := by unfold rv; rw [if_neg hm]
    rw [er]
    refine xb143_6 ⟨fun h => absurd h (by decide), fun _ => ?_⟩
    rw [h4, pk_sub (by omega)]
    refine pk_eq S.1.length 48 (fun q => ⟨Or.inr rfl, ?_⟩) (fun q => ⟨fun h => absurd h (by decide), fun _ => ⟨vp_in_nI (by omega) (by decide), ?_⟩⟩)
    · have e : mt S (wB b f t) = (S.1, true) := by unfold mt; rw [if_neg hm, if_pos q]
      rw [e]
      refine ⟨xm_up MI 45 22 1, ML, ?_, fun a j q1 q2 => up_n (by omega), MTL.rf ML, ⟨h48, by rw [up_n (by decide)]; exact h4, by rw [up_s]; rfl, fun a ha => ?_⟩, fun z => by cases z⟩
      · unfold rv
        rw [if_neg hm]
      · obtain ⟨n0, n1, n2⟩ := hN a ha
        exact ⟨n0, by rw [up_n (by omega)]; exact n1, fun i hi => by rw [up_n (by omega)]; exact n2 i hi⟩
    · obtain ⟨e1, e2, e3⟩ := mt_idx (S := S) hm q
      rw [nI_clamp (by omega)]
      have len : (S.1 ++ [wB b f t]).length = S.1.length + 1 := by rw [List.length_append]; rfl
      have lp : ∀ (d i : Nat) (M : Nat → Nat → Int32), i + d = t - f → (∀ a j, ¬ (a = 56 ∧ j = S.1.length) → ¬ (a = 55 ∧ 16 * S.1.length ≤ j ∧ j < 16 * S.1.length + 16) → M a j = MI a j) → M 56 S.1.length = nI (t - f) → (∀ j, j < i → M 55 (16 * S.1.length + j) = nI (b (f + j))) → xq143 (fun r => ∃ M L, r = (some (.int (rv (mt S (wB b f t)) (wB b f t))), xM M L Q) ∧ MT MI M ∧ MTL ML L ∧ TM (mt S (wB b f t)) M ∧ US (mt S (wB b f t)) (W ++ [wB b f t]) (L 45 23)) (48, [some (.ref 45), some (.int (nI f)), some (.int (nI t)), some (.int (nI S.1.length)), some (.int (nI i))], [], xM M ML Q, 0, 0) := by
        intro d
        induction d with
        | zero =>
          intro i M hi r l1 l2
          refine xb143_48 ?_
          rw [pk_sub (by omega), r 45 19 (by omega) (by omega), h4, nI_1]
          refine pk_le (t - f) i (fun _ => ⟨xm_up M 45 19 (nI (S.1.length + 1)), xm_up ML 45 23 (ML 45 23 ||| one S.1.length), ?_, fun a j q1 q2 => ?_, fun a j q => up_n q, ?_, ?_⟩) (fun h => absurd h (by omega))
          · rw [rv_one e2, e3]; rfl
          · rw [up_n (by omega)]; exact r a j (by omega) (by omega)
          · rw [e1]
            refine ⟨by show (S.1 ++ [wB b f t]).length ≤ 48; omega, by rw [up_s]; show _ = nI (S.1 ++ [wB b f t]).length; rw [len], by rw [up_n (by decide), r 45 22 (by omega) (by omega)]; exact h5, fun a ha => ?_⟩
            have ha : a < (S.1 ++ [wB b f t]).length := ha
            rw [len] at ha
            show ((S.1 ++ [wB b f t]).getD a []).length ≤ 16 ∧ _ = nI ((S.1 ++ [wB b f t]).getD a []).length ∧ ∀ i, i < ((S.1 ++ [wB b f t]).getD a []).length → _ = ((S.1 ++ [wB b f t]).getD a []).getD i 0
            by_cases hal : a = S.1.length
            · subst hal
              rw [getD_r, wB_len, up_n (by omega)]
              refine ⟨h16, l1, fun j hj => ?_⟩
              rw [up_n (by omega), wB_at hj]
              exact l2 j (by omega)
            · rw [getD_l (by omega)]
              obtain ⟨n0, n1, n2⟩ := hN a (by omega)
              refine ⟨n0, by rw [up_n (by omega), r 56 a (by omega) (by omega)]; exact n1, fun j hj => ?_⟩
              rw [up_n (by omega), r 55 _ (by omega) (by omega)]
              exact n2 j hj
          · rw [up_s]
            have h48' : (mt S (wB b f t)).1.length ≤ 48 := mt_48 h48
            have k1 := US.one h48' e2
            rw [e3] at k1
            exact (hU.mt _).or k1
        | succ d ih =>
          intro i M hi r l1 l2
          refine xb143_48 ?_
          rw [pk_sub (by omega), nI_add, ix16, nI_clamp (by omega), nI_clamp (by omega), nI_1]
          refine pk_le (t - f) i (fun h => absurd h (by omega)) (fun _ => ⟨vp_in_nI (by omega) (by decide), vp_in_nI (by omega) (by decide), ?_⟩)
          rw [r 46 (f + i) (by omega) (by omega), hD.2.2 (f + i) (by omega)]
          refine ih (i + 1) _ (by omega) (fun a j q1 q2 => ?_) ?_ (fun j hj => ?_)
          · rw [up_n (by omega)]; exact r a j q1 q2
          · rw [up_n (by omega)]; exact l1
          · by_cases hji : j = i
            · subst hji; rw [up_s]
            · rw [up_n (by omega)]; exact l2 j (by omega)
      exact lp (t - f) 0 _ (by omega) (fun a j q1 q2 => up_n q1) (up_s _ _ _ _) (fun j hj => absurd hj (Nat.not_lt_zero j))
theorem c142 (hD : Dm n (bBy b) MI) (hQ : QW n s T MI) {S : Tb} (hT : TM S MI) {W : List Wd} (hU : US S W (ML 45 23)) {x : Nat} (hx : tGo b T s x) : xm_Ev xz 142 [.ref 45, .int (nI x)] (xM MI ML Q) (fun r => ∃ M L u, r = (some (.long u), xM M L Q) ∧ MT MI M ∧ MTL ML L ∧ TM (mts S (tw b T x)) M ∧ US (mts S (tw b T x)) (W ++ tw b T x) (L 45 23) ∧ US (mts S (tw b T x)) (tw b T x) u) := by
  have hn := hD.1
  have h64 := hQ.2.1
  obtain ⟨x1, x2, x3, x4, x5⟩ := hx
  obtain ⟨-, e1, -⟩ := hQ.2.2.2 x x1 (by omega)
  obtain ⟨e2, e3⟩ := e1 x3
  obtain ⟨-, -, -, -, t5⟩ := hQ.2.2.1 x
  obtain ⟨t6, t7⟩ := t5 x3
  have es : nI (T x).f + nI ((T x).s - (T x).f) = nI (T x).s := by rw [nI_add]; congr 1; omega
  have lp : ∀ (P : xm_R → Prop) (N d : Nat), d < N → ∀ (k : Nat) (l V W : List Wd) (S : Tb) (u : Int64) (MI : Nat → Nat → Int32) (ML : Nat → Nat → Int64), k + d = (T x).s → wsO b d k none = some l → Dm n (bBy b) MI → TM S MI → US S W (ML 45 23) → US S V u → (∀ M L v, MT MI M → MTL ML L → TM (mts S l) M → US (mts S l) (W ++ l) (L 45 23) → US (mts S l) (V ++ l) v → P (some (.long v), xM M L Q)) → xq142 P (21, [some (.ref 45), none, some (.long u), none, some (.int (nI k)), some (.int (nI (T x).s)), none, none], [], xM MI ML Q, 0, 0) := by
    intro P N
    induction N with
    | zero => intro d hd; omega
    | succ N ih =>
      intro d hd k l V W S u MI ML hk hw hD hT hU hV hF
      cases d with
      | zero =>
        cases hw
        refine xb142_21 (pk_le (T x).s k (fun _ => hF MI ML u (MT.rf MI) (MTL.rf ML) hT ?_ ?_) (fun h => absurd h (by omega)))
        · show US S (W ++ []) _
          rw [List.append_nil]; exact hU
        · show US S (V ++ []) _
          rw [List.append_nil]; exact hV
      | succ d =>
        have e0 : MI 46 (nI k).toNatClampNeg = nI (b k) := by rw [nI_clamp (by omega), hD.2.2 k (by omega)]
        refine xb142_21 (pk_le (T x).s k (fun h => absurd h (by omega)) (fun _ => ⟨vp_in_nI (by omega) (by decide), ?_⟩))
        rw [e0]
        rw [wsO] at hw
        refine ⟨fun q => ⟨_, c129 hD t7 (d + 1) k hk, ?_⟩, fun q => ?_⟩
        · rintro _ rfl
          rw [if_pos q] at hw
          have esc : sc (bBy b) (d + 1) k = sc (bBy b) d (k + 1) := by
            have q' : bBy b k = 76 := q
            rw [sc, if_neg (by rw [q']; decide)]
          rw [esc]
          obtain ⟨w1, w2, l', w3, w4⟩ := wsO_sc hw
          obtain ⟨g1, g2, g3⟩ := cn_gW w2
          have sg := sc_ge (bBy b) d (k + 1)
          refine xb142_52 ?_
          rw [nI_1]
          refine ⟨_, c143 hD hT hU (f := k + 1) (t := sc (bBy b) d (k + 1)) (by omega) g1 g2, ?_⟩
          rintro _ ⟨M, L, rfl, m1, m2, m3, m4⟩
          subst w3
          have nx : ∀ v, US (mt S (wB b (k + 1) (sc (bBy b) d (k + 1)))) (V ++ [wB b (k + 1) (sc (bBy b) d (k + 1))]) v → xq142 P (21, [some (.ref 45), none, some (.long v), none, some (.int (nI (sc (bBy b) d (k + 1) + 1))), some (.int (nI (T x).s)), none, none], [], xM M L Q, 0, 0) := by
            intro v hv
            refine ih (k + 1 + d - (sc (bBy b) d (k + 1) + 1)) (by omega) (sc (bBy b) d (k + 1) + 1) l' _ _ _ v M L (by omega) w4 (m1.dm hD) m3 m4 hv (fun M2 L2 v2 z1 z2 z3 z4 z5 => hF M2 L2 v2 (m1.tr z1) (m2.tr z2) z3 ?_ ?_)
            · rw [List.append_assoc] at z4; exact z4
            · rw [List.append_assoc] at z5; exact z5
          refine xb142_64 ?_
          rw [nI_1]
          by_cases hm : wB b (k + 1) (sc (bBy b) d (k + 1)) ∈ (mt S (wB b (k + 1) (sc (bBy b) d (k + 1)))).1
          · have hi := List.idxOf_lt_length_iff.mpr hm
            have := m3.1
            rw [rv_one hm]
            refine ⟨fun h => absurd h (nI_pos (by omega)), fun _ => nx _ ((hV.mt _).or (US.one m3.1 hm))⟩
          · have er : rv (mt S (wB b (k + 1) (sc (bBy b) d (k + 1)))) (wB b (k + 1) (sc (bBy b) d (k + 1))) = -1 := by unfold rv; rw [if_neg hm]
            rw [er]
            exact ⟨fun _ => nx _ (fun z => absurd (mt_ov z).2 hm), fun h => absurd (by decide) h⟩
        · rw [if_neg q] at hw
          rw [nI_1]
          exact ih d (by omega) (k + 1) l V W S u MI ML (by omega) hw hD hT hU hV hF
  refine xm_in (xb142_0 ⟨vp_in_nI (by omega) (by decide), vp_in_nI (by omega) (by decide), ?_⟩)
  rw [nI_clamp (by omega), e2, e3, es]
  exact lp _ ((T x).s - (T x).f + 1) ((T x).s - (T x).f) (by omega) (T x).f _ [] W S 0 MI ML (by omega) x4 hD hT hU (US.nil S) (fun M L v z1 z2 z3 z4 z5 => ⟨M, L, v, rfl, z1, z2, z3, z4, z5⟩)
theorem rv_n9 (S : Tb) (w : Wd) (h : S.1.length ≤ 48) : rv S w ≠ -9 := by
  unfold rv
  split
  · rename_i hm
    have hi := List.idxOf_lt_length_iff.mpr hm
    intro q
    have := nI_pos (n := S.1.idxOf w) (by omega)
    rw [q] at this
    exact absurd (by decide) this
  · decide
theorem c141 (hD : Dm n (bBy b) MI) (hQ : QW n s T MI) (hC : CKd b T s) {S : Tb} (hT : TM S MI) {W : List Wd} (hU : US S W (ML 45 23)) {k : Nat} (k1 : 1 ≤ k) (k2 : k < s) (k7 : (T k).kd = 7) : xm_Ev xz 141 [.ref 45, .int (nI k)] (xM MI ML Q) (fun r => ∃ M L v, r = (some (.int v), xM M L Q) ∧ MT MI M ∧ MTL ML L ∧ TM (mts S (cw b T s k)) M ∧ US (mts S (cw b T s k)) (W ++ cw b T s k) (L 45 23) ∧ v ≠ -9 ∧ (nmd b T s k = true → v = rv (mt S (wc b T k)) (wc b T k))) := by
  have hn := hD.1
  have h64 := hQ.2.1
  obtain ⟨-, -, e7, -⟩ := hQ.2.2.2 k k1 (by omega)
  obtain ⟨e1, -⟩ := e7 (by omega)
  have key : 1 ≤ (T k).f ∧ (T k).f < s ∧ (T (T k).f).kd = 1 ∧ (T (T k).f).f < (T (T k).f).s ∧ (bBy b (T (T k).f).f = 91 ↔ nmd b T s k = false) := by
    cases hi : nmd b T s k with
    | true =>
      obtain ⟨-, -, -, f1, f2, f3, f4, f5, -, -⟩ := nmd_sp hi
      exact ⟨f1, f2, f3, f4, fun q => absurd q f5, fun q => by cases q⟩
    | false =>
      obtain ⟨a1, a2, a3, a4, a5⟩ := isA_sp (hC.arr k1 k2 k7 hi)
      exact ⟨a1, a2, a3, a4, fun _ => rfl, fun _ => a5⟩
  obtain ⟨f1, f2, f3, f4, f5⟩ := key
  obtain ⟨-, -, -, -, t5⟩ := hQ.2.2.1 (T k).f
  obtain ⟨t6, t7⟩ := t5 f3
  obtain ⟨-, e2, -⟩ := hQ.2.2.2 (T k).f f1 (by omega)
  obtain ⟨e3, e4⟩ := e2 f3
  have es : nI (T (T k).f).f + nI ((T (T k).f).s - (T (T k).f).f) = nI (T (T k).f).s := by rw [nI_add]; congr 1; omega
  have v1 : vp_in (nI k) 65 := vp_in_nI (by omega) (by decide)
  have v2 : vp_in (nI (T k).f) 65 := vp_in_nI (by omega) (by decide)
  refine xm_in (xb141_0 ?_)
  rw [nI_clamp (show k < 2 ^ 31 by omega), e1, nI_clamp (show (T k).f < 2 ^ 31 by omega), e3, e4, nI_clamp (show (T (T k).f).f < 2 ^ 31 by omega), hD.2.2 _ (by omega), es]
  refine ⟨v1, v2, vp_in_nI (by omega) (by decide), fun q => ?_, fun q => ⟨v2, v2, v2, ?_⟩⟩
  · have hnm := f5.mp q
    have ec : cw b T s k = tw b T (T k).f := by
      unfold cw
      rw [if_neg (by rw [hnm]; decide), if_pos k7]
    rw [ec]
    refine ⟨_, c142 hD hQ hT hU (isA_go (hC.arr k1 k2 k7 hnm)), ?_⟩
    rintro _ ⟨M, L, u, rfl, m1, m2, m3, m4, -⟩
    exact xb141_28 ⟨fun _ => ⟨M, L, _, rfl, m1, m2, m3, m4, by decide, fun z => by rw [hnm] at z; cases z⟩, fun _ => ⟨M, L, _, rfl, m1, m2, m3, m4, by decide, fun z => by rw [hnm] at z; cases z⟩⟩
  · have hnm : nmd b T s k = true := ts_nf (fun z => q (f5.mpr z))
    have ec : cw b T s k = [wc b T k] := by unfold cw; rw [if_pos hnm]
    obtain ⟨-, -, -, -, -, -, -, -, g16, -⟩ := nmd_sp hnm
    rw [ec]
    refine ⟨_, c143 hD hT hU t7 f4 g16, ?_⟩
    rintro _ ⟨M, L, rfl, m1, m2, m3, m4⟩
    exact xb141_64 ⟨M, L, _, rfl, m1, m2, m3, m4, rv_n9 _ _ m3.1, fun _ => rfl⟩
end MX
