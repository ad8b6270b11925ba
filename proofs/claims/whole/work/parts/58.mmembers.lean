/-- the members as the reference keeps them -/
def MDm (m : Nat) (G : Nat → Nat × Nat) (MI : Nat → Nat → Int32) : Prop := MI 45 15 = nI m ∧ ∀ i, i < m → MI 53 i = nI (G i).1 ∧ MI 54 i = nI (G i).2
theorem M1.md {A B : Nat → Nat → Int32} (h : M1 A B) {m : Nat} {G : Nat → Nat × Nat} (hm : MDm m G A) : MDm m G B := ⟨(h 45 15 (by decide)).trans hm.1, fun i hi => by rw [h 53 i (by omega), h 54 i (by omega)]; exact hm.2 i hi⟩
def MN (MI M : Nat → Nat → Int32) : Prop := ∀ a j, ¬ (a = 45 ∧ ((2 ≤ j ∧ j ≤ 3) ∨ j = 15)) → a ≠ 53 → a ≠ 54 → M a j = MI a j
theorem MN.tr {A B C : Nat → Nat → Int32} (h : MN A B) (h' : MN B C) : MN A C := fun a j q q' q'' => (h' a j q q' q'').trans (h a j q q' q'')
theorem M1.mn {A B : Nat → Nat → Int32} (h : M1 A B) : MN A B := fun a j q _ _ => h a j (by omega)
theorem MN.dm {A B : Nat → Nat → Int32} (h : MN A B) {n : Nat} {c : Nat → Int32} (hD : Dm n c A) : Dm n c B := ⟨hD.1, (h 45 1 (by decide) (by decide) (by decide)).trans hD.2.1, fun i hi => (h 46 i (by omega) (by omega) (by omega)).trans (hD.2.2 i hi)⟩
theorem MN.qw {A B : Nat → Nat → Int32} (h : MN A B) {n s : Nat} {T : Nat → Ent} (hq : QW n s T A) : QW n s T B := hq.cg (h 45 4 (by decide) (by decide) (by decide)) (fun a j q1 q2 => h a j (by omega) (by omega) (by omega))
section MM
variable {MI : Nat → Nat → Int32} {ML : Nat → Nat → Int64} {Q : Nat → Nat} {b : Nat → Nat} {n s : Nat} {T : Nat → Ent}
theorem c134 (hD : Dm n (bBy b) MI) (hQ : QW n s T MI) (hC : CKd b T s) {x : Nat} (hx : x < 65536) : xm_Ev xz 134 [.ref 45, .int (nI x)] (xM MI ML Q) (fun r => r = (some (.int (bI (nmd b T s x))), xM MI ML Q)) := by
  have h64 := hQ.2.1
  have hn := hD.1
  have kl := kdo_lt (s := s) hQ.2.2.1 x
  refine xm_in (xb134_0 ⟨_, c126 hQ hx, ?_⟩)
  rintro _ rfl
  refine xb134_5 (pk_eq (kdo T s x) 7 (fun h => ?_) (fun h => ⟨Or.inl rfl, ?_⟩))
  · obtain ⟨q1, q2, q3⟩ := kdo_in h (by decide)
    obtain ⟨-, -, e7, -⟩ := hQ.2.2.2 x q1 (by omega)
    obtain ⟨e1, -⟩ := e7 (by omega)
    have hca := hC.c7 q1 q2 q3
    have en : nmd b T s x = isC b T s (T x).f := by
      unfold nmd
      rw [decide_eq_true h, Bool.true_and]
    have key : 1 ≤ (T x).f ∧ (T x).f < s ∧ (T (T x).f).kd = 1 ∧ (T (T x).f).f < (T (T x).f).s ∧ (bBy b (T (T x).f).f = 91 ↔ isC b T s (T x).f = false) := by
      cases hi : isC b T s (T x).f with
      | true =>
        obtain ⟨a1, a2, a3, a4, a5⟩ := isC_sp hi
        exact ⟨a1, a2, a3, a4, fun q => absurd q a5, fun q => by cases q⟩
      | false =>
        rw [hi, Bool.false_or] at hca
        obtain ⟨a1, a2, a3, a4, a5⟩ := isA_sp hca
        exact ⟨a1, a2, a3, a4, fun _ => rfl, fun _ => a5⟩
    obtain ⟨k1, k2, k3, k4, k5⟩ := key
    obtain ⟨-, -, -, -, t5⟩ := hQ.2.2.1 (T x).f
    obtain ⟨t6, t7⟩ := t5 k3
    obtain ⟨-, e2, -, -⟩ := hQ.2.2.2 (T x).f k1 (by omega)
    obtain ⟨e3, -⟩ := e2 k3
    rw [nI_clamp (by omega), e1, nI_clamp (by omega), e3, nI_clamp (by omega), hD.2.2 _ (by omega), en]
    refine ⟨vp_in_nI (by omega) (by decide), vp_in_nI (by omega) (by decide), vp_in_nI (by omega) (by decide), fun w => ⟨Or.inl rfl, ?_⟩, fun w => ⟨Or.inr rfl, ?_⟩⟩
    · rw [k5.mp w]; rfl
    · rw [ts_nf (fun q => w (k5.mpr q))]; rfl
  · unfold nmd
    rw [decide_eq_false h]; rfl
theorem c133 (hb : ∀ i, b i < 256) (hD : Dm n (bBy b) MI) {st : St} (hS : SM n st MI) (hQ : ∀ a, st = .ok a → QW n s T MI ∧ CKd b T s) (no : Bool) : xm_Ev xz 133 [.ref 45, .int (bI no)] (xM MI ML Q) (fun r => ∃ M, r = (some (.int (nI (vl b n 2 st))), xM M ML Q) ∧ M1 MI M ∧ SM n (dmd ((no && decide (vl b n 2 st = 0)) || nmd b T s (vl b n 2 st)) (atS st) (itm n 2 st)) M) := by
  have hn := hD.1
  have v := vl_lt hb n 2 st
  refine xm_in (xb133_0 ⟨_, c121 hb hD hS, ?_⟩)
  rintro _ ⟨M1', rfl, m1, m2⟩
  have fi : ∀ z : Bool, (∀ a, itm n 2 st = .ok a → (!z) = ((no && decide (vl b n 2 st = 0)) || nmd b T s (vl b n 2 st))) → ∃ P0 : xm_R → Prop, xm_Ev xz 120 [.ref 45, .int (MI 45 2), .int (bI z)] (xM M1' ML Q) P0 ∧ ∀ r, P0 r → xq133 (fun r => ∃ M, r = (some (.int (nI (vl b n 2 st))), xM M ML Q) ∧ M1 MI M ∧ SM n (dmd ((no && decide (vl b n 2 st = 0)) || nmd b T s (vl b n 2 st)) (atS st) (itm n 2 st)) M) (xm_bk 43 [none, none, none, some (.int (nI (vl b n 2 st)))] [] 0 0 r) := by
    intro z hz
    refine ⟨_, c120 (p := atS st) m2 (fun a ha _ => mplace hn hS ha), ?_⟩
    rintro _ ⟨M2, rfl, k1, k2⟩
    refine xb133_43 ⟨M2, rfl, m1.tr k1, ?_⟩
    have ez : dmd (!z) (atS st) (itm n 2 st) = dmd ((no && decide (vl b n 2 st = 0)) || nmd b T s (vl b n 2 st)) (atS st) (itm n 2 st) := by
      cases hi : itm n 2 st with
      | error p => rfl
      | ok a => rw [hz a hi]
    rw [← ez]
    exact k2
  cases hi : itm n 2 st with
  | error p =>
    rw [hi] at m2
    rw [← hi]
    refine xb133_9 ⟨fun _ => fi false (fun a ha => by rw [hi] at ha; cases ha), fun h => absurd m2.er h⟩
  | ok c =>
    rw [hi] at m2
    obtain ⟨c0, t1, -⟩ := itm_ok hi
    obtain ⟨hQW, hC⟩ := hQ c0 t1
    have pc : (no && decide (vl b n 2 st = 0)) = false → ∃ P0 : xm_R → Prop, xm_Ev xz 134 [.ref 45, .int (nI (vl b n 2 st))] (xM M1' ML Q) P0 ∧ ∀ r, P0 r → xq133 (fun r => ∃ M, r = (some (.int (nI (vl b n 2 st))), xM M ML Q) ∧ M1 MI M ∧ SM n (dmd ((no && decide (vl b n 2 st = 0)) || nmd b T s (vl b n 2 st)) (atS st) (itm n 2 st)) M) (xm_bk 32 [none, none, none, some (.int (nI (vl b n 2 st)))] [.int (MI 45 2), .ref 45] 0 0 r) := by
      intro hno
      refine ⟨_, c134 (m1.dm hD) (m1.qw hQW) hC v, ?_⟩
      rintro _ rfl
      refine xb133_32 ⟨fun g => fi true (fun a _ => ?_), fun g => fi false (fun a _ => ?_)⟩
      · rw [bI_0] at g
        rw [hno, g]; rfl
      · rw [bI_ne] at g
        rw [hno, g]; rfl
    rw [← hi]
    refine xb133_9 ⟨fun h => absurd h m2.ner, fun _ => ⟨fun g => ?_, fun g => pk_eq (vl b n 2 st) 0 (fun g2 => fi false (fun a _ => ?_)) (fun g2 => ?_)⟩⟩
    · rw [bI_0] at g
      exact pc (by rw [g]; rfl)
    · rw [bI_ne] at g
      rw [g, decide_eq_true g2]; rfl
    · exact pc (by rw [decide_eq_false g2, Bool.and_false])
theorem c136 (hb : ∀ i, b i < 256) (hD : Dm n (bBy b) MI) {st : St} (hS : SM n st MI) (hQ : ∀ a, st = .ok a → QW n s T MI) {so : Nat} (hso : so ≤ 5) : xm_Ev xz 136 [.ref 45, .int (nI so)] (xM MI ML Q) (fun r => ∃ M, r = (some (.int (nI (vl b n 2 st))), xM M ML Q) ∧ M1 MI M ∧ SM n (dmd (txB b T s so (vl b n 2 st)) (atS st) (itm n 2 st)) M) := by
  have hn := hD.1
  have v := vl_lt hb n 2 st
  refine xm_in (xb136_0 ⟨_, c121 hb hD hS, ?_⟩)
  rintro _ ⟨M1', rfl, m1, m2⟩
  have fi : ∀ z : Bool, (∀ a, itm n 2 st = .ok a → (!z) = txB b T s so (vl b n 2 st)) → ∃ P0 : xm_R → Prop, xm_Ev xz 120 [.ref 45, .int (MI 45 2), .int (bI z)] (xM M1' ML Q) P0 ∧ ∀ r, P0 r → xq136 (fun r => ∃ M, r = (some (.int (nI (vl b n 2 st))), xM M ML Q) ∧ M1 MI M ∧ SM n (dmd (txB b T s so (vl b n 2 st)) (atS st) (itm n 2 st)) M) (xm_bk 36 [none, none, none, some (.int (nI (vl b n 2 st)))] [] 0 0 r) := by
    intro z hz
    refine ⟨_, c120 (p := atS st) m2 (fun a ha _ => mplace hn hS ha), ?_⟩
    rintro _ ⟨M2, rfl, k1, k2⟩
    refine xb136_36 ⟨M2, rfl, m1.tr k1, ?_⟩
    have ez : dmd (!z) (atS st) (itm n 2 st) = dmd (txB b T s so (vl b n 2 st)) (atS st) (itm n 2 st) := by
      cases hi : itm n 2 st with
      | error p => rfl
      | ok a => rw [hz a hi]
    rw [← ez]
    exact k2
  cases hi : itm n 2 st with
  | error p =>
    rw [hi] at m2
    rw [← hi]
    refine xb136_9 ⟨fun _ => fi false (fun a ha => by rw [hi] at ha; cases ha), fun h => absurd m2.er h⟩
  | ok c =>
    rw [hi] at m2
    obtain ⟨c0, t1, -⟩ := itm_ok hi
    have hQW := hQ c0 t1
    rw [← hi]
    refine xb136_9 ⟨fun h => absurd h m2.ner, fun _ => ⟨_, c125 (m1.dm hD) (m1.qw hQW) v hso, ?_⟩⟩
    rintro _ rfl
    refine xb136_25 ⟨fun g => fi true (fun a _ => ?_), fun g => fi false (fun a _ => ?_)⟩
    · rw [bI_0] at g
      rw [g]; rfl
    · rw [bI_ne] at g
      rw [g]; rfl
theorem c137 (hb : ∀ i, b i < 256) (hD : Dm n (bBy b) MI) {st : St} (hS : SM n st MI) (hQ : ∀ a, st = .ok a → QW n s T MI) : xm_Ev xz 137 [.ref 45] (xM MI ML Q) (fun r => ∃ M, r = (none, xM M ML Q) ∧ M1 MI M ∧ SM n (raS b n T s st) M) := by
  have lp : ∀ (P : xm_R → Prop) (c : Nat), c < 65536 → ∀ (d i : Nat) (st : St) (MI : Nat → Nat → Int32), i + d = c → Dm n (bBy b) MI → SM n st MI → (∀ a, st = .ok a → QW n s T MI) → (∀ M, M1 MI M → SM n (ra b n T s d st) M → P (none, xM M ML Q)) → xq137 P (7, [some (.ref 45), some (.int (nI c)), some (.int (nI i)), none, none, none, none], [], xM MI ML Q, 0, 0) := by
    intro P c hc d
    induction d with
    | zero =>
      intro i st MI hi hD hS hQ hF
      exact xb137_7 (pk_le c i (fun _ => hF MI (M1.rf MI) hS) (fun h => absurd h (by omega)))
    | succ d ih =>
      intro i st MI hi hD hS hQ hF
      refine xb137_7 (pk_le c i (fun h => absurd h (by omega)) (fun _ => ?_))
      cases st with
      | error p => exact ⟨fun _ => hF MI (M1.rf MI) hS, fun h => absurd hS.er h⟩
      | ok a =>
        have hn := hD.1
        have hQW := hQ a rfl
        refine ⟨fun h => absurd h hS.ner, fun _ => ⟨_, c136 (so := 0) hb hD hS hQ (by decide), ?_⟩⟩
        rintro _ ⟨M2, rfl, m1, m2⟩
        have v2 := vl_lt hb n 2 (.ok a)
        have m2 : SM n (raT b n T s a) M2 := m2
        obtain ⟨st1, e1⟩ : ∃ st1, st1 = raT b n T s a := ⟨_, rfl⟩
        have eR : ra b n T s (d + 1) (.ok a) = ra b n T s d (raN b n st1) := by rw [e1]; rfl
        rw [← e1] at m2
        rw [eR] at hF
        refine xb137_24 ⟨_, c119 hb (m1.dm hD) m2 (k := 4) (by decide), ?_⟩
        rintro _ ⟨M3, rfl, k3, k4⟩
        have r3 := m1.tr k3
        have v4 := vl_lt hb n 4 st1
        have go : ∀ z : Bool, (∀ c, itm n 4 st1 = .ok c → (!z) = decide (vl b n 4 st1 ≤ n - c)) → ∃ P0 : xm_R → Prop, xm_Ev xz 120 [.ref 45, .int (M2 45 2), .int (bI z)] (xM M3 ML Q) P0 ∧ ∀ r, P0 r → xq137 P (xm_bk 69 [some (.ref 45), some (.int (nI c)), some (.int (nI i)), none, none, some (.long (lN (vl b n 4 st1))), none] [] 0 0 r) := by
          intro z hz
          refine ⟨_, c120 (p := atS st1) k4 (fun c hc' _ => mplace hn m2 hc'), ?_⟩
          rintro _ ⟨M4, rfl, k5, k6⟩
          have r4 := r3.tr k5
          have ez : dmd (!z) (atS st1) (itm n 4 st1) = dmd (decide (vl b n 4 st1 ≤ n - atS (itm n 4 st1))) (atS st1) (itm n 4 st1) := by
            cases hi4 : itm n 4 st1 with
            | error p => rfl
            | ok c => rw [hz c hi4]; rfl
          rw [ez] at k6
          have eN : raN b n st1 = adv (vl b n 4 st1) (dmd (decide (vl b n 4 st1 ≤ n - atS (itm n 4 st1))) (atS st1) (itm n 4 st1)) := rfl
          cases hd : dmd (decide (vl b n 4 st1 ≤ n - atS (itm n 4 st1))) (atS st1) (itm n 4 st1) with
          | error p =>
            rw [hd] at k6 eN
            refine xb137_69 ⟨fun _ => ?_, fun h => absurd k6.er h⟩
            rw [nI_1]
            rw [eN] at hF
            have r5 : M1 M4 (xm_up M4 45 2 (M4 45 2)) := fun a j q => up_n (by omega)
            have r6 := r4.tr r5
            obtain ⟨at4, y1, y2, y3⟩ := k6
            exact ih (i + 1) (.error p) _ (by omega) (r6.dm hD) ⟨at4, by rw [up_s]; exact y1, y2, by rw [up_n (by decide)]; exact y3⟩ (fun a' h => by cases h) (fun M5 g1 g2 => hF M5 (r6.tr g1) (by rw [ra_er] at g2; show SM n (ra b n T s d (.error p)) M5; rw [ra_er]; exact g2))
          | ok c' =>
            rw [hd] at k6 eN
            obtain ⟨w1, w2, w3⟩ := k6.le
            obtain ⟨u1, u2⟩ := dmd_ok hd
            rw [u1] at u2
            have u2 : vl b n 4 st1 ≤ n - c' := of_decide_eq_true u2
            refine xb137_69 ⟨fun h => absurd h k6.ner, fun _ => ?_⟩
            rw [nI_1, w2, l2i, nI_add]
            rw [eN] at hF
            have r5 : M1 M4 (xm_up M4 45 2 (nI (c' + vl b n 4 st1))) := fun a j q => up_n (by omega)
            have r6 := r4.tr r5
            refine ih (i + 1) (.ok (c' + vl b n 4 st1)) _ (by omega) (r6.dm hD) ⟨c' + vl b n 4 st1, up_s _ _ _ _, by omega, rfl, ?_⟩ (fun _ _ => r6.qw hQW) (fun M5 g1 g2 => hF M5 (r6.tr g1) g2)
            rw [up_n (by decide)]
            exact w3
        have hlen : M3 45 1 = nI n := (r3 45 1 (by decide)).trans hD.2.1
        obtain ⟨at3, x1, x2, x3⟩ := k4
        refine xb137_36 ⟨fun h => absurd h (nI_pos (by omega)), fun _ => ?_⟩
        rw [hlen, x1, pk_sub x2, nI_l (by omega), lg_cmp_le, pk_lLE (by omega) (by omega)]
        refine ⟨fun h => go false (fun c hc' => ?_), fun h => go true (fun c hc' => ?_)⟩
        · rw [hc'] at x3
          obtain ⟨y1, -⟩ := x3.ok
          rw [decide_eq_true (by omega)]; rfl
        · rw [hc'] at x3
          obtain ⟨y1, -⟩ := x3.ok
          rw [decide_eq_false (by omega)]; rfl
  have v2 := vl_lt hb n 2 st
  refine xm_in (xb137_0 ⟨_, c121 hb hD hS, ?_⟩)
  rintro _ ⟨M, rfl, m1, m2⟩
  refine xb137_4 (lp _ (vl b n 2 st) v2 (vl b n 2 st) 0 _ M (by omega) (m1.dm hD) m2 (fun a ha => ?_) (fun M2 g1 g2 => ⟨M2, rfl, m1.tr g1, g2⟩))
  obtain ⟨c, t1, -⟩ := itm_ok ha
  exact m1.qw (hQ c t1)
theorem ra_fe {st : St} {p : Nat} (h : st = .error p) : raS b n T s st = .error p := by
  subst h
  rfl
theorem c135 (hb : ∀ i, b i < 256) {so : Nat} (hso : so ≤ 5) (hD : Dm n (bBy b) MI) {st : St} {m : Nat} {G : Nat → Nat × Nat} (hS : SM n st MI) (hQ : ∀ a, st = .ok a → QW n s T MI ∧ MDm m G MI ∧ 8 * m ≤ a) : xm_Ev xz 135 [.ref 45, .int (nI so)] (xM MI ML Q) (fun r => ∃ M, r = (some (.int (nI (vl b n 2 st))), xM M ML Q) ∧ MN MI M ∧ SM n (rmS b n T s (txB b T s so) st m G).1 M ∧ (∀ a, (rmS b n T s (txB b T s so) st m G).1 = .ok a → MDm (rmS b n T s (txB b T s so) st m G).2.1 (rmS b n T s (txB b T s so) st m G).2.2 M ∧ 8 * (rmS b n T s (txB b T s so) st m G).2.1 ≤ a)) := by
  have lp : ∀ (P : xm_R → Prop) (c : Nat), c < 65536 → ∀ (d i : Nat) (st : St) (m : Nat) (G : Nat → Nat × Nat) (MI : Nat → Nat → Int32), i + d = c → Dm n (bBy b) MI → SM n st MI → (∀ a, st = .ok a → QW n s T MI ∧ MDm m G MI ∧ 8 * m ≤ a) → (∀ M, MN MI M → SM n (rm b n T s (txB b T s so) d st m G).1 M → (∀ a, (rm b n T s (txB b T s so) d st m G).1 = .ok a → MDm (rm b n T s (txB b T s so) d st m G).2.1 (rm b n T s (txB b T s so) d st m G).2.2 M ∧ 8 * (rm b n T s (txB b T s so) d st m G).2.1 ≤ a) → P (some (.int (nI c)), xM M ML Q)) → xq135 P (7, [some (.ref 45), some (.int (nI so)), some (.int (nI c)), some (.int (nI i)), none, none, none], [], xM MI ML Q, 0, 0) := by
    intro P c hc d
    induction d with
    | zero =>
      intro i st m G MI hi hD hS hQ hF
      exact xb135_7 (pk_le c i (fun _ => hF MI (fun _ _ _ _ _ => rfl) hS (fun a ha => (hQ a ha).2)) (fun h => absurd h (by omega)))
    | succ d ih =>
      intro i st m G MI hi hD hS hQ hF
      refine xb135_7 (pk_le c i (fun h => absurd h (by omega)) (fun _ => ?_))
      cases st with
      | error p => exact ⟨fun _ => hF MI (fun _ _ _ _ _ => rfl) hS (fun a ha => by cases ha), fun h => absurd hS.er h⟩
      | ok a =>
        have hn := hD.1
        obtain ⟨hQW, hMD, h8⟩ := hQ a rfl
        refine ⟨fun h => absurd h hS.ner, fun _ => ⟨_, c121 hb hD hS, ?_⟩⟩
        rintro _ ⟨M1', rfl, m1, m2⟩
        refine xb135_23 ⟨_, c136 (so := 0) hb (m1.dm hD) m2 (fun _ _ => m1.qw hQW) (by decide), ?_⟩
        rintro _ ⟨M2, rfl, m3, m4⟩
        have m4 : SM n (rm1 b n T s a) M2 := m4
        have r2 := m1.tr m3
        refine xb135_30 ⟨_, c136 (so := so) hb (r2.dm hD) m4 (fun _ _ => r2.qw hQW) hso, ?_⟩
        rintro _ ⟨M3, rfl, m5, m6⟩
        have m6 : SM n (rm2 b n (txB b T s so) (rm1 b n T s a)) M3 := m6
        have r3 := r2.tr m5
        have vN := vl_lt hb n 2 (itm n 2 (.ok a))
        have eR : rm b n T s (txB b T s so) (d + 1) (.ok a) m G = rm b n T s (txB b T s so) d (raS b n T s (rm2 b n (txB b T s so) (rm1 b n T s a))) (m + 1) (updG G m (vl b n 2 (.ok a), vl b n 2 (rm1 b n T s a))) := rfl
        rw [eR] at hF
        cases hst : rm2 b n (txB b T s so) (rm1 b n T s a) with
        | error p =>
          rw [hst] at m6 hF
          rw [ra_fe rfl] at hF
          refine xb135_37 ⟨fun _ => xb135_87 ?_, fun h => absurd m6.er h⟩
          rw [nI_1]
          refine ih (i + 1) (.error p) (m + 1) _ M3 (by omega) (r3.dm hD) m6 (fun a h => by cases h) (fun M4 g1 g2 g3 => hF M4 (r3.mn.tr g1) g2 g3)
        | ok a' =>
          obtain ⟨q1, q2, q3, -⟩ := rm2_ok hst
          rw [hst] at m6 hF
          have hm := r3.md hMD
          have cl : (nI m).toNatClampNeg = m := nI_clamp (by omega)
          have hname : 1 ≤ vl b n 2 (itm n 2 (.ok a)) := (kdo_in (of_decide_eq_true q3) (by decide)).1
          refine xb135_37 ⟨fun h => absurd h m6.ner, fun _ => ⟨fun h => absurd h (nI_nle hname (by omega)), fun _ => ?_⟩⟩
          rw [hm.1, cl, nI_1]
          have up : ∀ x y z a j, ¬ (a = 45 ∧ j = 15) → a ≠ 53 → a ≠ 54 → xm_up (xm_up (xm_up M3 53 m x) 54 m y) 45 15 z a j = M3 a j := fun x y z a j z1 z2 z3 => by rw [up_n (by omega), up_n (by omega), up_n (by omega)]
          have r4 : ∀ x y z, MN MI (xm_up (xm_up (xm_up M3 53 m x) 54 m y) 45 15 z) := fun x y z => r3.mn.tr (fun a j z1 z2 z3 => up _ _ _ a j (by omega) z2 z3)
          refine ⟨vp_in_nI (by omega) (by decide), vp_in_nI (by omega) (by decide), _, c137 hb ((r4 _ _ _).dm hD) (m6.cg (up _ _ _ 45 2 (by omega) (by omega) (by omega)) (up _ _ _ 45 3 (by omega) (by omega) (by omega))) (fun _ _ => (r4 _ _ _).qw hQW), ?_⟩
          rintro _ ⟨M5, rfl, k1, k2⟩
          refine xb135_87 ?_
          rw [nI_1]
          have r5 := (r4 _ _ _).tr k1.mn
          refine ih (i + 1) _ (m + 1) _ M5 (by omega) (r5.dm hD) k2 (fun a'' ha => ⟨r5.qw hQW, ?_⟩) (fun M6 g1 g2 g3 => hF M6 (r5.tr g1) g2 g3)
          obtain ⟨c1, t1, t2⟩ := ra_ok ha
          obtain ⟨c2, t3, t4, -⟩ := itm_ok t1
          cases t3
          refine ⟨k1.md ⟨up_s _ _ _ _, fun i hi => ?_⟩, by omega⟩
          unfold updG
          by_cases him : i = m
          · subst him
            rw [if_pos rfl, up_n (by omega), up_n (by omega), up_s, up_n (by omega), up_s]
            exact ⟨rfl, rfl⟩
          · rw [if_neg him, up_n (by omega), up_n (by omega), up_n (by omega), up_n (by omega), up_n (by omega), up_n (by omega)]
            exact hm.2 i (by omega)
  have v2 := vl_lt hb n 2 st
  refine xm_in (xb135_0 ⟨_, c121 hb hD hS, ?_⟩)
  rintro _ ⟨M, rfl, m1, m2⟩
  refine xb135_4 (lp _ (vl b n 2 st) v2 (vl b n 2 st) 0 _ m G M (by omega) (m1.dm hD) m2 (fun a ha => ?_) (fun M2 g1 g2 g3 => ⟨M2, rfl, m1.mn.tr g1, g2, g3⟩))
  obtain ⟨c, t1, t2, -⟩ := itm_ok ha
  obtain ⟨q1, q2, q3⟩ := hQ c t1
  exact ⟨m1.qw q1, m1.md q2, by omega⟩
end MM
