/-- an entry as the reference keeps it -/
def QE (k : Nat) (e : Ent) (MI : Nat → Nat → Int32) : Prop := MI 47 k = nI e.kd ∧ (e.kd = 1 → MI 48 k = nI e.f ∧ MI 49 k = nI (e.s - e.f)) ∧ (7 ≤ e.kd → MI 48 k = nI e.f ∧ MI 50 k = nI (e.pl + 1)) ∧ (9 ≤ e.kd → MI 49 k = nI e.s ∧ MI 51 k = nI (e.pl + 3))
def QD (T : Nat → Ent) (MI : Nat → Nat → Int32) : Prop := ∀ j, 1 ≤ j → j < 65 → QE j (T j) MI
theorem QE.cg {k : Nat} {e : Ent} {MI M : Nat → Nat → Int32} (h : QE k e MI) (h1 : ∀ a, 47 ≤ a → a ≤ 51 → M a k = MI a k) : QE k e M := by
  unfold QE at h ⊢
  rw [h1 47 (by decide) (by decide), h1 48 (by decide) (by decide), h1 49 (by decide) (by decide), h1 50 (by decide) (by decide), h1 51 (by decide) (by decide)]
  exact h
theorem M1.qd {A B : Nat → Nat → Int32} (h : M1 A B) {T : Nat → Ent} (hq : QD T A) : QD T B := fun j q1 q2 => (hq j q1 q2).cg (fun a _ _ => h a j (by omega))
/-- off the reference's pool -/
def MQo (MI M : Nat → Nat → Int32) : Prop := ∀ a j, ¬ (a = 45 ∧ 2 ≤ j ∧ j ≤ 3) → ¬ (47 ≤ a ∧ a ≤ 51) → M a j = MI a j
theorem MQo.tr {A B C : Nat → Nat → Int32} (h : MQo A B) (h' : MQo B C) : MQo A C := fun a j q q' => (h' a j q q').trans (h a j q q')
theorem M1.mq {A B : Nat → Nat → Int32} (h : M1 A B) : MQo A B := fun a j q _ => h a j q
theorem MQo.dm {A B : Nat → Nat → Int32} (h : MQo A B) {n : Nat} {c : Nat → Int32} (hD : Dm n c A) : Dm n c B := ⟨hD.1, (h 45 1 (by decide) (by decide)).trans hD.2.1, fun i hi => (h 46 i (by omega) (by omega)).trans (hD.2.2 i hi)⟩
/-- off one entry of the reference's pool -/
def ME (k : Nat) (MI M : Nat → Nat → Int32) : Prop := ∀ a j, ¬ (a = 45 ∧ 2 ≤ j ∧ j ≤ 3) → ¬ (47 ≤ a ∧ a ≤ 51 ∧ j = k) → M a j = MI a j
theorem ME.tr {k : Nat} {A B C : Nat → Nat → Int32} (h : ME k A B) (h' : ME k B C) : ME k A C := fun a j q q' => (h' a j q q').trans (h a j q q')
theorem M1.me {k : Nat} {A B : Nat → Nat → Int32} (h : M1 A B) : ME k A B := fun a j q _ => h a j q
theorem ME.mq {k : Nat} {A B : Nat → Nat → Int32} (h : ME k A B) : MQo A B := fun a j q q' => h a j q (fun z => q' ⟨z.1, z.2.1⟩)
theorem mplace {n k : Nat} {st : St} {M : Nat → Nat → Int32} (hn : n ≤ 400) (hS : SM n st M) {a : Nat} (h : itm n k st = .ok a) : M 45 2 = nI (atS st) ∧ atS st ≤ 500 := by
  obtain ⟨g, t1, t2, t3⟩ := itm_ok h
  rw [t1] at hS ⊢
  exact ⟨hS.le.2.1, by have := hS.le.1; show g ≤ 500; omega⟩
theorem SM.ner {n a : Nat} {MI : Nat → Nat → Int32} (h : SM n (.ok a) MI) : ¬ 0 ≤ MI 45 3 := by
  rw [h.le.2.2]
  decide
section MP
variable {MI : Nat → Nat → Int32} {ML : Nat → Nat → Int64} {Q : Nat → Nat} {b : Nat → Nat} {n s : Nat} {T : Nat → Ent}
theorem c123 (hb : ∀ i, b i < 256) (hD : Dm n (bBy b) MI) {st : St} (hS : SM n st MI) {k : Nat} (hk : k < 65) : xm_Ev xz 123 [.ref 45, .int (nI k)] (xM MI ML Q) (fun r => ∃ M, r = (none, xM M ML Q) ∧ (∀ a j, ¬ (a = 45 ∧ 2 ≤ j ∧ j ≤ 3) → ¬ (48 ≤ a ∧ a ≤ 49 ∧ j = k) → M a j = MI a j) ∧ SM n (txt b n st) M ∧ ∀ a, txt b n st = .ok a → M 48 k = nI (atS (itm n 2 st)) ∧ M 49 k = nI (vl b n 2 st)) := by
  have lp : ∀ (P : xm_R → Prop) (len : Nat), len < 65536 → ∀ (d i : Nat) (st : St) (MI : Nat → Nat → Int32), i + d = len → Dm n (bBy b) MI → SM n st MI → (∀ M, M1 MI M → SM n (tl b n d st) M → P (none, xM M ML Q)) → xq123 P (24, [some (.ref 45), none, some (.int (nI len)), some (.int (nI i)), none, none], [], xM MI ML Q, 0, 0) := by
    intro P len hl d
    induction d with
    | zero =>
      intro i st MI hi hD hS hF
      exact xb123_24 (pk_le len i (fun _ => hF MI (M1.rf MI) hS) (fun h => absurd h (by omega)))
    | succ d ih =>
      intro i st MI hi hD hS hF
      refine xb123_24 (pk_le len i (fun h => absurd h (by omega)) (fun _ => ?_))
      cases st with
      | error p => exact ⟨fun _ => hF MI (M1.rf MI) hS, fun h => absurd hS.er h⟩
      | ok a =>
        obtain ⟨l1, l2, l3⟩ := hS.le
        have hn := hD.1
        refine ⟨fun h => absurd h hS.ner, fun _ => ⟨_, c119 hb hD hS (k := 1) (by decide), ?_⟩⟩
        rintro _ ⟨M, rfl, m1, m2⟩
        have hv := vl_lt hb n 1 (.ok a)
        have go : ∀ z : Bool, (!z) = decide (1 ≤ vl b n 1 (.ok a) ∧ vl b n 1 (.ok a) ≤ 127) → ∃ P0 : xm_R → Prop, xm_Ev xz 120 [.ref 45, .int (MI 45 2), .int (bI z)] (xM M ML Q) P0 ∧ ∀ r, P0 r → xq123 P (xm_bk 74 [some (.ref 45), none, some (.int (nI len)), some (.int (nI i)), none, none] [] 0 0 r) := by
          intro z hz
          refine ⟨_, c120 (p := a) m2 (fun _ _ _ => ⟨l2, by omega⟩), ?_⟩
          rintro _ ⟨M2, rfl, k1, k2⟩
          refine xb123_74 ?_
          rw [nI_1]
          have r1 := m1.tr k1
          refine ih (i + 1) _ M2 (by omega) (r1.dm hD) k2 (fun M3 g1 g2 => ?_)
          rw [hz] at g2
          exact hF M3 (r1.tr g1) g2
        refine xb123_47 ?_
        rw [l2i]
        refine pk_lt (vl b n 1 (.ok a)) 1 (fun h => go true ?_) (fun h => pk_le (vl b n 1 (.ok a)) 127 (fun h2 => go false ?_) (fun h2 => go true ?_))
        · rw [decide_eq_false (by omega)]; rfl
        · rw [decide_eq_true ⟨h, h2⟩]; rfl
        · rw [decide_eq_false (by omega)]; rfl
  refine xm_in (xb123_0 ⟨_, c121 hb hD hS, ?_⟩)
  rintro _ ⟨M, rfl, m1, m2⟩
  have hv := vl_lt hb n 2 st
  refine xb123_4 ⟨vp_in_nI hk (by decide), vp_in_nI hk (by decide), ?_⟩
  rw [nI_clamp (by omega)]
  have up : ∀ x y a j, ¬ (48 ≤ a ∧ a ≤ 49 ∧ j = k) → xm_up (xm_up M 48 k x) 49 k y a j = M a j := fun x y a j q => by rw [up_n (by omega), up_n (by omega)]
  have hD2 := m1.dm hD
  refine lp _ (vl b n 2 st) hv (vl b n 2 st) 0 _ _ (by omega) ⟨hD2.1, (up _ _ 45 1 (by omega)).trans hD2.2.1, fun i hi => (up _ _ 46 i (by omega)).trans (hD2.2.2 i hi)⟩ (m2.cg (up _ _ 45 2 (by omega)) (up _ _ 45 3 (by omega))) (fun M2 g1 g2 => ⟨M2, rfl, fun a j q q' => by rw [g1 a j q, up _ _ a j q', m1 a j q], g2, fun a ha => ?_⟩)
  obtain ⟨c, t1, t2, t3⟩ := txt_ok (b := b) (n := n) (st := st) ha
  rw [g1 48 k (by omega), g1 49 k (by omega), up_n (by omega), up_s, up_s]
  rw [t2] at m2 ⊢
  exact ⟨m2.le.2.1, rfl⟩
/-- an entry's state, as the reference goes -/
def zz (s k kd : Nat) : Bool := (!(decide (kd = 1 ∨ (3 ≤ kd ∧ kd ≤ 12)))) || (wd kd && decide (s ≤ k + 1))
def enM (b : Nat → Nat) (n kd : Nat) (st : St) : St := if kd = 1 then txt b n st else if 7 ≤ kd then (if kd ≤ 8 then itm n 2 st else itm n 2 (itm n 2 st)) else if kd ≤ 4 then itm n 4 st else itm n 4 (itm n 4 st)
theorem txt_er (b : Nat → Nat) (n p : Nat) : txt b n (.error p) = .error p := tl_er b n _ p
theorem enM_er (b : Nat → Nat) (n kd p : Nat) : enM b n kd (.error p) = .error p := by
  unfold enM
  rw [txt_er]
  split
  · rfl
  · split
    · split <;> rfl
    · split <;> rfl
theorem enS_enM {k a0 : Nat} : enS b n s k (.ok a0) = enM b n (vl b n 1 (.ok a0)) (dmd (!(zz s k (vl b n 1 (.ok a0)))) a0 (itm n 1 (.ok a0))) := by
  obtain ⟨kd, ekd⟩ : ∃ kd, kd = vl b n 1 (.ok a0) := ⟨_, rfl⟩
  unfold enS
  rw [← ekd]
  have e0 : atS (.ok a0) = a0 := rfl
  rw [e0]
  by_cases hk : kd = 1 ∨ (3 ≤ kd ∧ kd ≤ 12)
  · have e1 : (!(zz s k kd)) = (!(wd kd) || decide (k + 1 < s)) := by
      unfold zz
      rw [decide_eq_true hk]
      by_cases h : k + 1 < s
      · rw [decide_eq_true h, decide_eq_false (by omega)]
        cases wd kd <;> rfl
      · rw [decide_eq_false h, decide_eq_true (by omega)]
        cases wd kd <;> rfl
    rw [e1]
    generalize dmd (!(wd kd) || decide (k + 1 < s)) a0 (itm n 1 (.ok a0)) = S
    unfold enM
    by_cases q1 : kd = 1
    · rw [if_pos q1, if_pos q1]
    · rw [if_neg q1, if_neg q1]
      by_cases q2 : kd = 3 ∨ kd = 4
      · rw [if_pos q2, if_neg (by omega), if_pos (by omega)]
      · rw [if_neg q2]
        by_cases q3 : kd = 5 ∨ kd = 6
        · rw [if_pos q3, if_neg (by omega), if_neg (by omega)]
        · rw [if_neg q3]
          by_cases q4 : kd = 7 ∨ kd = 8
          · rw [if_pos q4, if_pos (by omega), if_pos (by omega)]
          · rw [if_neg q4, if_pos (by omega), if_pos (by omega), if_neg (by omega)]
  · have e1 : zz s k kd = true := by
      unfold zz
      rw [decide_eq_false hk]
      rfl
    have e2 : wd kd = false := by
      unfold wd
      exact decide_eq_false (by omega)
    rw [e1, e2, if_neg (by omega), if_neg (by omega), if_neg (by omega), if_neg (by omega), if_neg (by omega)]
    cases itm n 1 (.ok a0) with
    | error p => exact (enM_er b n kd p).symm
    | ok c => exact (enM_er b n kd a0).symm
theorem enM_ok {kd a : Nat} {st : St} (h : enM b n kd st = .ok a) : ∃ c, st = .ok c := by
  cases st with
  | error p => rw [enM_er] at h; cases h
  | ok c => exact ⟨c, rfl⟩
theorem QE0 {k : Nat} {MI : Nat → Nat → Int32} {e : Ent} (h : e.kd = 0) (h1 : MI 47 k = 0) : QE k e MI := by
  refine ⟨by rw [h, h1]; rfl, fun q => by omega, fun q => by omega, fun q => by omega⟩
theorem l122 (hb : ∀ i, b i < 256) {P : xm_R → Prop} : ∀ (N d : Nat), d < N → ∀ (k : Nat) (st : St) (T : Nat → Ent) (MI : Nat → Nat → Int32), 1 ≤ k → k ≤ 66 → Dm n (bBy b) MI → SM n st MI → (∀ a, st = .ok a → MI 45 4 = nI s ∧ s ≤ 64 ∧ (k + d = s ∨ (d = 0 ∧ s ≤ k)) ∧ (∀ j, k ≤ j → (T j).kd = 0) ∧ wd (kdo T s (k - 1)) = false ∧ QD T MI) → (∀ M, MQo MI M → SM n (rp b n s d k st T).1 M → (∀ a, (rp b n s d k st T).1 = .ok a → QD (rp b n s d k st T).2 M) → P (none, xM M ML Q)) → xq122 P (2, [some (.ref 45), some (.int (nI k)), none, none, none, none, none], [], xM MI ML Q, 0, 0) := by
  intro N
  induction N with
  | zero => intro d hd; omega
  | succ N ih =>
    intro d hd k st T MI h1 h66 hD hS hP hF
    have hn := hD.1
    cases st with
    | error p =>
      have fi : P (none, xM MI ML Q) := hF MI (fun _ _ _ _ => rfl) (by rw [rp_er]; exact hS) (fun a ha => by rw [rp_er] at ha; cases ha)
      exact xb122_2 ⟨fun _ => fi, fun _ => ⟨fun _ => fi, fun h => absurd hS.er h⟩⟩
    | ok a0 =>
      obtain ⟨hs, h64, hk, hT, hw, hQ⟩ := hP a0 rfl
      obtain ⟨l1, l2, l3⟩ := hS.le
      refine xb122_2 ?_
      rw [hs]
      refine pk_le s k (fun h => ?_) (fun hlt => ⟨fun h => absurd h hS.ner, fun _ => ⟨_, c119 hb hD hS (k := 1) (by decide), ?_⟩⟩)
      · have : d = 0 := by omega
        subst this
        exact hF MI (fun _ _ _ _ => rfl) hS (fun _ _ => hQ)
      · rintro _ ⟨M1', rfl, m1, m2⟩
        obtain ⟨d, rfl⟩ : ∃ d', d = d' + 1 := ⟨d - 1, by omega⟩
        have vk : vp_in (nI k) 65 := vp_in_nI (by omega) (by decide)
        have cl : (nI k).toNatClampNeg = k := nI_clamp (by omega)
        obtain ⟨kd, ekd⟩ : ∃ kd, kd = vl b n 1 (.ok a0) := ⟨_, rfl⟩
        have hkd : kd < 256 := by rw [ekd]; exact vl_lt hb n 1 _
        have eR : rp b n s (d + 1) k (.ok a0) T = rp b n s d (k + 1) (enS b n s k (.ok a0)) (updE T k (enE b n (.ok a0))) := by rw [rp, if_neg (by rw [hw]; decide)]
        rw [eR, enS_enM, ← ekd] at hF
        rw [← ekd]
        obtain ⟨st2, est⟩ : ∃ st2, st2 = dmd (!(zz s k kd)) a0 (itm n 1 (.ok a0)) := ⟨_, rfl⟩
        rw [← est] at hF
        have st1 : ∀ c, st2 = .ok c → itm n 1 (.ok a0) = .ok c ∧ zz s k kd = false := fun c h => by
          rw [est] at h
          obtain ⟨z1, z2⟩ := dmd_ok h
          refine ⟨z1, ?_⟩
          cases hz : zz s k kd with
          | false => rfl
          | true => rw [hz] at z2; cases z2
        have enE_kd : (enE b n (.ok a0)).kd = kd := ekd.symm
        -- behind the entry
        have nx : ∀ (q : Nat) (M : Nat → Nat → Int32), (q = if kd = 5 ∨ kd = 6 then k + 2 else k + 1) → ME k MI M → SM n (enM b n kd st2) M → (∀ a, enM b n kd st2 = .ok a → QE k (enE b n (.ok a0)) M) → xq122 P (2, [some (.ref 45), some (.int (nI q)), none, none, none, none, none], [], xM M ML Q, 0, 0) := by
          intro q M hq g1 g2 g3
          have qd : ∀ a, enM b n kd st2 = .ok a → QD (updE T k (enE b n (.ok a0))) M := by
            intro a ha j j1 j2
            unfold updE
            by_cases hj : j = k
            · subst hj
              rw [if_pos rfl]
              exact g3 a ha
            · rw [if_neg hj]
              exact (hQ j j1 j2).cg (fun a _ _ => g1 a j (by omega) (by omega))
          have tz : ∀ j, k + 1 ≤ j → (updE T k (enE b n (.ok a0)) j).kd = 0 := fun j hj => by
            unfold updE
            rw [if_neg (by omega)]
            exact hT j (by omega)
          have hs2 : M 45 4 = nI s := (g1 45 4 (by omega) (by omega)).trans hs
          have kk : kdo (updE T k (enE b n (.ok a0))) s k = kd := by
            unfold kdo updE
            rw [if_pos ⟨h1, hlt⟩, if_pos rfl]
            exact enE_kd
          by_cases hwd : kd = 5 ∨ kd = 6
          · rw [if_pos hwd] at hq
            subst hq
            cases hen : enM b n kd st2 with
            | error p =>
              rw [hen] at g2 hF
              rw [rp_er] at hF
              exact ih 0 (by omega) (k + 2) (.error p) T0 M (by omega) (by omega) (g1.mq.dm hD) g2 (fun a h => by cases h) (fun M2 w1 w2 w3 => hF M2 (g1.mq.tr w1) (by rw [rp_er] at w2; exact w2) (fun a ha => by cases ha))
            | ok a =>
              obtain ⟨c, hc⟩ := enM_ok hen
              have hz := (st1 c hc).2
              have hk2 : k + 1 < s := by
                unfold zz wd at hz
                rw [decide_eq_true (show kd = 1 ∨ (3 ≤ kd ∧ kd ≤ 12) by omega), decide_eq_true hwd] at hz
                have hz : decide (s ≤ k + 1) = false := hz
                have := of_decide_eq_false hz
                omega
              obtain ⟨d, rfl⟩ : ∃ d', d = d' + 1 := ⟨d - 1, by omega⟩
              have qd' := qd a hen
              rw [hen] at g2 hF
              have eR2 : rp b n s (d + 1) (k + 1) (.ok a) (updE T k (enE b n (.ok a0))) = rp b n s d (k + 1 + 1) (.ok a) (updE T k (enE b n (.ok a0))) := by
                rw [rp, Nat.add_sub_cancel, kk, if_pos (by unfold wd; exact decide_eq_true hwd)]
              rw [eR2] at hF
              refine ih d (by omega) (k + 2) (.ok a) _ M (by omega) (by omega) (g1.mq.dm hD) g2 (fun a' _ => ⟨hs2, h64, by omega, fun j hj => tz j (by omega), ?_, qd'⟩) (fun M2 w1 w2 w3 => hF M2 (g1.mq.tr w1) w2 w3)
              show wd (kdo _ s (k + 1)) = false
              unfold kdo
              rw [if_pos (by omega), tz (k + 1) (by omega)]
              rfl
          · rw [if_neg hwd] at hq
            subst hq
            refine ih d (by omega) (k + 1) _ _ M (by omega) (by omega) (g1.mq.dm hD) g2 (fun a' ha => ⟨hs2, h64, by omega, tz, ?_, qd a' ha⟩) (fun M2 w1 w2 w3 => hF M2 (g1.mq.tr w1) w2 w3)
            rw [Nat.add_sub_cancel, kk]
            unfold wd
            exact decide_eq_false hwd
        have jmp : ∀ (M : Nat → Nat → Int32), ME k MI M → SM n (enM b n kd st2) M → (∀ a, enM b n kd st2 = .ok a → QE k (enE b n (.ok a0)) M) → ((nI kd = 5 → xq122 P (2, [some (.ref 45), some (.int (nI k + 2)), none, none, none, none, none], [], xM M ML Q, 0, 0)) ∧ (¬ nI kd = 5 → ((nI kd = 6 → xq122 P (2, [some (.ref 45), some (.int (nI k + 2)), none, none, none, none, none], [], xM M ML Q, 0, 0)) ∧ (¬ nI kd = 6 → xq122 P (2, [some (.ref 45), some (.int (nI k + 1)), none, none, none, none, none], [], xM M ML Q, 0, 0))))) := by
          intro M g1 g2 g3
          have e2 : nI k + 2 = nI (k + 2) := nI_add k 2
          rw [e2, nI_1]
          exact pk_eq kd 5 (fun q5 => nx (k + 2) M (by rw [if_pos (Or.inl q5)]) g1 g2 g3) (fun q5 => pk_eq kd 6 (fun q6 => nx (k + 2) M (by rw [if_pos (Or.inr q6)]) g1 g2 g3) (fun q6 => nx (k + 1) M (by rw [if_neg (by omega)]) g1 g2 g3))
        -- the entry itself
        have g88 : ∀ M, M1 MI M → SM n st2 M → xq122 P (88, [some (.ref 45), some (.int (nI k)), none, some (.int (nI kd)), none, none, none], [], xM M ML Q, 0, 0) := by
          intro M r1 s2
          refine xb122_88 ⟨vk, ?_⟩
          rw [cl]
          have u47 : ∀ x a j, ¬ (a = 47 ∧ j = k) → xm_up M 47 k x a j = M a j := fun x a j q => up_n q
          have me47 : ∀ x, ME k MI (xm_up M 47 k x) := fun x a j q q' => by rw [u47 _ a j (by omega)]; exact r1 a j q
          have s47 : ∀ x, SM n st2 (xm_up M 47 k x) := fun x => s2.cg (u47 _ 45 2 (by omega)) (u47 _ 45 3 (by omega))
          refine pk_eq kd 1 (fun k1 => ⟨_, c123 hb ((me47 _).mq.dm hD) (s47 _) (k := k) (by omega), ?_⟩) (fun k1 => pk_le 7 kd (fun k7 => ⟨vk, ?_⟩) (fun k7 => ⟨_, c119 hb ((me47 _).mq.dm hD) (s47 _) (k := 4) (by decide), ?_⟩))
          · rintro _ ⟨M2, rfl, w1, w2, w3⟩
            have eM : enM b n kd st2 = txt b n st2 := by unfold enM; rw [if_pos k1]
            rw [← eM] at w2
            refine xb122_105 (jmp M2 ((me47 _).tr (fun a j q q' => w1 a j q (by omega))) w2 (fun a ha => ?_))
            rw [eM] at ha
            obtain ⟨c, t1, t2, t3⟩ := txt_ok ha
            obtain ⟨w4, w5⟩ := w3 a ha
            unfold QE
            rw [enE_kd]
            refine ⟨by rw [w1 47 k (by omega) (by omega), up_s], fun _ => ?_, fun q => by omega, fun q => by omega⟩
            rw [w4, w5]
            unfold enE Ent.f Ent.s
            rw [← ekd]
            show nI _ = nI (if kd = 1 then _ else _) ∧ nI _ = nI ((if kd = 1 then _ else if 9 ≤ kd then _ else 0) - (if kd = 1 then _ else _))
            rw [if_pos k1, if_pos k1, (st1 c t1).1, ← t1]
            exact ⟨rfl, by congr 1; omega⟩
          · have u50 : ∀ x y a j, ¬ (47 ≤ a ∧ a ≤ 50 ∧ j = k) → xm_up (xm_up M 47 k x) 50 k y a j = M a j := fun x y a j q => by rw [up_n (by omega), up_n (by omega)]
            have me50 : ∀ x y, ME k MI (xm_up (xm_up M 47 k x) 50 k y) := fun x y a j q q' => by rw [u50 _ _ a j (by omega)]; exact r1 a j q
            have s50 : ∀ x y, SM n st2 (xm_up (xm_up M 47 k x) 50 k y) := fun x y => s2.cg (u50 _ _ 45 2 (by omega)) (u50 _ _ 45 3 (by omega))
            refine ⟨_, c121 hb ((me50 _ _).mq.dm hD) (s50 _ _), ?_⟩
            rintro _ ⟨M2, rfl, w1, w2⟩
            have me2 : ME k MI M2 := (me50 _ _).tr w1.me
            have b47 : M2 47 k = nI kd := by rw [w1 47 k (by omega), up_n (by omega), up_s]
            have b50 : ∀ c, st2 = .ok c → M2 50 k = nI c := fun c hc => by
              rw [w1 50 k (by omega), up_s]
              rw [hc] at s2
              exact s2.le.2.1
            refine xb122_160 ⟨vk, vk, ?_⟩
            rw [cl]
            refine pk_le kd 8 (fun k8 => ⟨vk, ?_⟩) (fun k8 => ?_)
            · have eM : enM b n kd st2 = itm n 2 st2 := by unfold enM; rw [if_neg k1, if_pos k7, if_pos k8]
              have u3 : ∀ x y z a j, ¬ (48 ≤ a ∧ a ≤ 51 ∧ j = k) → xm_up (xm_up (xm_up M2 48 k x) 51 k y) 49 k z a j = M2 a j := fun x y z a j q => by rw [up_n (by omega), up_n (by omega), up_n (by omega)]
              refine jmp _ (me2.tr (fun a j q q' => u3 _ _ _ a j (by omega))) (by rw [eM]; exact w2.cg (u3 _ _ _ 45 2 (by omega)) (u3 _ _ _ 45 3 (by omega))) (fun a ha => ?_)
              rw [eM] at ha
              obtain ⟨c, t1, t2, t3⟩ := itm_ok ha
              obtain ⟨t4, -⟩ := st1 c t1
              obtain ⟨c', t5, t6, -⟩ := itm_ok t4
              cases t5
              unfold QE
              rw [enE_kd]
              refine ⟨by rw [u3 _ _ _ 47 k (by omega)]; exact b47, fun q => by omega, fun _ => ⟨?_, ?_⟩, fun q => by omega⟩
              · rw [up_n (by omega), up_n (by omega), up_s]
                unfold enE Ent.f
                rw [← ekd]
                show nI _ = nI (if kd = 1 then _ else _)
                rw [if_neg k1, t4, ← t1]
              · rw [up_n (by omega), up_n (by omega), up_n (by omega), b50 c t1, t6]
                rfl
            · have u2 : ∀ x y a j, ¬ (48 ≤ a ∧ a ≤ 51 ∧ j = k) → xm_up (xm_up M2 48 k x) 51 k y a j = M2 a j := fun x y a j q => by rw [up_n (by omega), up_n (by omega)]
              have me3 : ∀ x y, ME k MI (xm_up (xm_up M2 48 k x) 51 k y) := fun x y => me2.tr (fun a j q q' => u2 _ _ a j (by omega))
              have s3 : ∀ x y, SM n (itm n 2 st2) (xm_up (xm_up M2 48 k x) 51 k y) := fun x y => w2.cg (u2 _ _ 45 2 (by omega)) (u2 _ _ 45 3 (by omega))
              refine ⟨_, c121 hb ((me3 _ _).mq.dm hD) (s3 _ _), ?_⟩
              rintro _ ⟨M3, rfl, w3, w4⟩
              refine xb122_186 ⟨vk, ?_⟩
              rw [cl]
              have eM : enM b n kd st2 = itm n 2 (itm n 2 st2) := by unfold enM; rw [if_neg k1, if_pos k7, if_neg (by omega)]
              have u4 : ∀ x a j, ¬ (a = 49 ∧ j = k) → xm_up M3 49 k x a j = M3 a j := fun x a j q => up_n q
              refine jmp _ ((me3 _ _).tr (fun a j q q' => by rw [u4 _ a j (by omega)]; exact w3 a j q)) (by rw [eM]; exact w4.cg (u4 _ 45 2 (by omega)) (u4 _ 45 3 (by omega))) (fun a ha => ?_)
              rw [eM] at ha
              obtain ⟨c2, t1', t2', t3'⟩ := itm_ok ha
              obtain ⟨c, t1, t2, t3⟩ := itm_ok t1'
              obtain ⟨t4, -⟩ := st1 c t1
              obtain ⟨c', t5, t6, -⟩ := itm_ok t4
              cases t5
              unfold QE
              rw [enE_kd]
              refine ⟨by rw [u4 _ 47 k (by omega), w3 47 k (by omega), u2 _ _ 47 k (by omega)]; exact b47, fun q => by omega, fun _ => ⟨?_, ?_⟩, fun _ => ⟨?_, ?_⟩⟩
              · rw [u4 _ 48 k (by omega), w3 48 k (by omega), up_n (by omega), up_s]
                unfold enE Ent.f
                rw [← ekd]
                show nI _ = nI (if kd = 1 then _ else _)
                rw [if_neg k1, t4, ← t1]
              · rw [u4 _ 50 k (by omega), w3 50 k (by omega), up_n (by omega), up_n (by omega), b50 c t1, t6]
                rfl
              · rw [up_s]
                unfold enE Ent.s
                rw [← ekd]
                show nI _ = nI (if kd = 1 then _ else if 9 ≤ kd then _ else 0)
                rw [if_neg k1, if_pos (by omega), t4, ← t1]
              · rw [u4 _ 51 k (by omega), w3 51 k (by omega), up_s]
                rw [t1'] at w2
                rw [w2.le.2.1, t2, t6]
                rfl
          · rintro _ ⟨M2, rfl, w1, w2⟩
            have me2 : ME k MI M2 := (me47 _).tr w1.me
            have b47 : M2 47 k = nI kd := by rw [w1 47 k (by omega), up_s]
            have qe : ∀ M', M' 47 k = nI kd → QE k (enE b n (.ok a0)) M' := fun M' h => by
              unfold QE
              rw [enE_kd]
              exact ⟨h, fun q => absurd q k1, fun q => by omega, fun q => by omega⟩
            refine xb122_119 (pk_le kd 4 (fun k4 => ?_) (fun k4 => ⟨_, c119 hb (me2.mq.dm hD) w2 (k := 4) (by decide), ?_⟩))
            · have eM : enM b n kd st2 = itm n 4 st2 := by unfold enM; rw [if_neg k1, if_neg (by omega), if_pos k4]
              exact jmp M2 me2 (by rw [eM]; exact w2) (fun _ _ => qe M2 b47)
            · rintro _ ⟨M3, rfl, w3, w4⟩
              have eM : enM b n kd st2 = itm n 4 (itm n 4 st2) := by unfold enM; rw [if_neg k1, if_neg (by omega), if_neg (by omega)]
              exact xb122_131 (jmp M3 (me2.tr w3.me) (by rw [eM]; exact w4) (fun _ _ => qe M3 (by rw [w3 47 k (by omega)]; exact b47)))
        -- the kind
        have go : ∀ z : Bool, z = zz s k kd → ∃ P0 : xm_R → Prop, xm_Ev xz 120 [.ref 45, .int (MI 45 2), .int (bI z)] (xM M1' ML Q) P0 ∧ ∀ r, P0 r → xq122 P (xm_bk 88 [some (.ref 45), some (.int (nI k)), none, some (.int (nI kd)), none, none, none] [] 0 0 r) := by
          intro z hz
          refine ⟨_, c120 (p := a0) m2 (fun _ _ _ => ⟨l2, by omega⟩), ?_⟩
          rintro _ ⟨M2, rfl, w1, w2⟩
          refine g88 M2 (m1.tr w1) ?_
          rw [est, ← hz]
          exact w2
        have hs1 : M1' 45 4 = nI s := (m1 45 4 (by decide)).trans hs
        refine xb122_27 ?_
        rw [l2i, hs1, nI_1]
        refine pk_eq kd 1 (fun k1 => ⟨fun h => absurd h (by decide), fun _ => pk_eq kd 5 (fun q => by omega) (fun _ => pk_eq kd 6 (fun q => by omega) (fun _ => go false ?_))⟩) (fun k1 => pk_lt kd 3 (fun k3 => ⟨fun _ => go true ?_, fun h => absurd rfl h⟩) (fun k3 => pk_lt 12 kd (fun k12 => ⟨fun _ => go true ?_, fun h => absurd rfl h⟩) (fun k12 => ⟨fun h => absurd h (by decide), fun _ => pk_eq kd 5 (fun k5 => pk_lt (k + 1) s (fun q => go false ?_) (fun q => go true ?_)) (fun k5 => pk_eq kd 6 (fun k6 => pk_lt (k + 1) s (fun q => go false ?_) (fun q => go true ?_)) (fun k6 => go false ?_))⟩)))
        · unfold zz wd
          rw [decide_eq_true (Or.inl k1), decide_eq_false (by omega)]; rfl
        · unfold zz
          rw [decide_eq_false (by omega)]; rfl
        · unfold zz
          rw [decide_eq_false (by omega)]; rfl
        · unfold zz
          rw [decide_eq_true (Or.inr ⟨k3, k12⟩), decide_eq_false (show ¬ s ≤ k + 1 by omega), Bool.and_false]; rfl
        · unfold zz wd
          rw [decide_eq_true (show kd = 5 ∨ kd = 6 from Or.inl k5), decide_eq_true q, Bool.and_true, Bool.or_true]
        · unfold zz
          rw [decide_eq_true (Or.inr ⟨k3, k12⟩), decide_eq_false (show ¬ s ≤ k + 1 by omega), Bool.and_false]; rfl
        · unfold zz wd
          rw [decide_eq_true (show kd = 5 ∨ kd = 6 from Or.inr k6), decide_eq_true q, Bool.and_true, Bool.or_true]
        · unfold zz wd
          rw [decide_eq_true (Or.inr ⟨k3, k12⟩), decide_eq_false (show ¬ (kd = 5 ∨ kd = 6) by omega)]; rfl
end MP
