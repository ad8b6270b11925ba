theorem c104 {MI : Nat → Nat → Int32} {ML : Nat → Nat → Int64} {Q : Nat → Nat} {j : Nat} (hj : j < 5) : xm_Ev xz 104 [.ref 39, .int (nI j)] (xM MI ML Q) (fun z => ∃ w, z = (some (.long w), xM MI ML Q) ∧ ∀ n, hasB w n = true ↔ (∃ i, i < 5 ∧ i ≠ j ∧ hasB (ML 41 i) n = true) ∧ hasB (ML 40 j) n = true) := by
  have lp : ∀ (d i : Nat), i + d = 5 → ∀ w, (∀ n, hasB w n = true ↔ ∃ i', i' < i ∧ i' ≠ j ∧ hasB (ML 41 i') n = true) → xq104 (fun z => ∃ w, z = (some (.long w), xM MI ML Q) ∧ ∀ n, hasB w n = true ↔ (∃ i, i < 5 ∧ i ≠ j ∧ hasB (ML 41 i) n = true) ∧ hasB (ML 40 j) n = true) (5, [some (.ref 39), some (.int (nI j)), some (.long w), none, some (.int (nI i))], [], xM MI ML Q, 0, 0) := by
    intro d
    induction d with
    | zero =>
      intro i hi w hw
      have : i = 5 := by omega
      subst this
      refine xb104_5 ⟨fun _ => ⟨vp_in_nI hj (by decide), _, rfl, fun n => ?_⟩, fun hl => absurd (by decide) hl⟩
      rw [hasB_and, Bool.and_eq_true, hw n, nI_clamp (by omega)]
    | succ d ih =>
      intro i hi w hw
      refine xb104_5 ⟨fun hl => absurd hl (nI_ge (a := i) (b := 5) (by omega) (by decide)), fun _ => ⟨fun e => ?_, fun e => ⟨vp_in_nI (by omega) (by decide), ?_⟩⟩⟩
      · have e := (nI_eq (by omega) (by omega)).mp e
        rw [nI_1]
        refine ih (i + 1) (by omega) w (fun n => ?_)
        rw [hw n]
        constructor
        · rintro ⟨i', q1, q2⟩; exact ⟨i', by omega, q2⟩
        · rintro ⟨i', q1, q2, q3⟩; exact ⟨i', by omega, q2, q3⟩
      · rw [nI_1, nI_clamp (by omega)]
        refine ih (i + 1) (by omega) _ (fun n => ?_)
        rw [hasB_or, Bool.or_eq_true, hw n]
        constructor
        · rintro (⟨i', q1, q2⟩ | q)
          · exact ⟨i', by omega, q2⟩
          · exact ⟨i, by omega, fun q' => e (by rw [q']), q⟩
        · rintro ⟨i', q1, q2, q3⟩
          by_cases ei : i' = i
          · subst ei; exact Or.inr q3
          · exact Or.inl ⟨i', by omega, q2, q3⟩
  refine xm_in (xb104_0 ?_)
  refine lp 5 0 rfl 0 (fun n => ?_)
  rw [hasB_0]
  constructor
  · intro q; cases q
  · rintro ⟨i, q, -⟩; exact absurd q (Nat.not_lt_zero i)
def vM (MI : Nat → Nat → Int32) (a : Nat) : Nat := Int32.toNatClampNeg (MI 16 a)
theorem IP.hm {k : Nat} {MI : Nat → Nat → Int32} (hk : k ≤ 48) (h : IP k MI) {a : Nat} (ha : a < k) : MI 16 a = nI (vM MI a) ∧ vM MI a ≤ a ∧ SP MI (vM MI a) a ∧ ∀ b, b < vM MI a → ¬ SP MI b a := by
  obtain ⟨g, g1, g2, g3⟩ := h a ha
  have : vM MI a = g := by unfold vM; rw [g2, nI_clamp (by omega)]
  rw [this]
  exact ⟨g2, g1, g3⟩
/-- a name of jar j that another jar's class file uses -/
def WX (c : Nat) (N J : Nat → Nat) (U : Nat → Int64) (j n : Nat) : Prop := (∃ p, FD c N J n p ∧ J p = j) ∧ ∃ f, f < c ∧ J f ≠ j ∧ hasB (U f) n = true
theorem c103 {MI : Nat → Nat → Int32} {ML : Nat → Nat → Int64} {Q : Nat → Nat} {k c j : Nat} {N J : Nat → Nat} {U S : Nat → Int64} (hk : k ≤ 48) (h12 : MI 12 4 = nI k) (hP : IP k MI) (hJ : JM c N J U S MI ML) (hJ5 : ∀ f, f < c → J f < 5) (hj : j < 5) : xm_Ev xz 103 [.ref 0, .int (nI j)] (xM MI ML Q) (fun z => ∃ w, z = (some (.long w), xM MI ML Q) ∧ ∀ b, hasB w b = true ↔ ∃ n, n < k ∧ WX c N J U j n ∧ vM MI n = b) := by
  refine xm_in (xb103_0 ⟨_, c14 _, ?_⟩)
  rintro _ rfl
  rw [decide_eq_true ⟨nI_pos (by omega), nI_lt (a := j) (b := 5) hj (by decide)⟩]
  refine xb103_4 ⟨fun h => absurd h (by decide), fun _ => ⟨_, c104 hj, ?_⟩⟩
  rintro _ ⟨want, rfl, hw⟩
  have hw : ∀ n, hasB want n = true ↔ WX c N J U j n := fun n => by
    rw [hw n, (hJ j hj).1 n]
    constructor
    · rintro ⟨⟨i, i1, i2, i3⟩, q⟩
      obtain ⟨f, f1, f2, f3⟩ := ((hJ i i1).2.1 n).mp i3
      exact ⟨q, f, f1, by rw [f2]; exact i2, f3⟩
    · rintro ⟨q, f, f1, f2, f3⟩
      exact ⟨⟨J f, hJ5 f f1, f2, ((hJ (J f) (hJ5 f f1)).2.1 n).mpr ⟨f, f1, rfl, f3⟩⟩, q⟩
  have lp : ∀ (d n : Nat), n + d = k → ∀ w, (∀ b, hasB w b = true ↔ ∃ n', n' < n ∧ WX c N J U j n' ∧ vM MI n' = b) → xq103 (fun z => ∃ w, z = (some (.long w), xM MI ML Q) ∧ ∀ b, hasB w b = true ↔ ∃ n, n < k ∧ WX c N J U j n ∧ vM MI n = b) (24, [some (.ref 0), none, some (.long want), none, some (.long w), none, some (.int (nI n))], [], xM MI ML Q, 0, 0) := by
    intro d
    induction d with
    | zero =>
      intro n hn w h
      have : n = k := by omega
      subst this
      refine xb103_24 ⟨fun _ => ⟨w, rfl, h⟩, fun hl => ?_⟩
      rw [h12] at hl
      exact absurd (nI_le (Nat.le_refl n) (by omega)) hl
    | succ d ih =>
      intro n hn w h
      refine xb103_24 ⟨fun hl => ?_, fun _ => ⟨_, c74 want (k := n) (by omega), ?_⟩⟩
      · rw [h12] at hl
        exact absurd hl (nI_ge (by omega) (by omega))
      · rintro _ rfl
        refine xb103_42 ⟨fun q => ?_, fun q => ⟨_, c97' hk h12 (a := n) (by omega), ?_⟩⟩
        · rw [bI_0] at q
          rw [nI_1]
          refine ih (n + 1) (by omega) w (fun b => ?_)
          rw [h b]
          constructor
          · rintro ⟨n', q1, q2⟩; exact ⟨n', by omega, q2⟩
          · rintro ⟨n', q1, q2, q3⟩
            by_cases e : n' = n
            · subst e
              rw [(hw n').mpr q2] at q
              cases q
            · exact ⟨n', by omega, q2, q3⟩
        · rw [bI_ne] at q
          rintro _ rfl
          refine xb103_57 ?_
          obtain ⟨e1, e2, -⟩ := hP.hm hk (a := n) (by omega)
          rw [nI_1, e1]
          refine ih (n + 1) (by omega) _ (fun b => ?_)
          rw [hasB_or, Bool.or_eq_true, h b]
          show _ ∨ hasB (one (vM MI n)) b = true ↔ _
          rw [hasB_one (by omega), decide_eq_true_eq]
          constructor
          · rintro (⟨n', q1, q2⟩ | q')
            · exact ⟨n', by omega, q2⟩
            · exact ⟨n, by omega, (hw n).mp q, q'.symm⟩
          · rintro ⟨n', q1, q2, q3⟩
            by_cases e : n' = n
            · subst e; exact Or.inr q3.symm
            · exact Or.inl ⟨n', by omega, q2, q3⟩
  refine xb103_17 (lp k 0 (by omega) 0 (fun b => ?_))
  rw [hasB_0]
  constructor
  · intro q; cases q
  · rintro ⟨n, q, -⟩; exact absurd q (Nat.not_lt_zero n)
theorem c167 {MI : Nat → Nat → Int32} {ML : Nat → Nat → Int64} {Q : Nat → Nat} {k c j : Nat} {N J : Nat → Nat} (hV : VM k c MI ML N J) (hB : ∀ a, a < k → IBn MI a) (hP : IP k MI) (hj : j < 5) : xm_Ev xz 167 [.ref 45, .int (nI j)] (xM MI ML Q) (fun z => ∃ w, z = (some (.long w), xM MI ML Q) ∧ ∀ b, hasB w b = true ↔ ∃ n, n < k ∧ WX c N J (ML 64) j n ∧ vM MI n = b) := by
  have hV0 := hV
  obtain ⟨a1, a2, a3, a4, a5⟩ := hV
  have lp : ∀ (d n : Nat), n + d = k → ∀ w, (∀ b, hasB w b = true ↔ ∃ n', n' < n ∧ WX c N J (ML 64) j n' ∧ vM MI n' = b) → xq167 (fun z => ∃ w, z = (some (.long w), xM MI ML Q) ∧ ∀ b, hasB w b = true ↔ ∃ n, n < k ∧ WX c N J (ML 64) j n ∧ vM MI n = b) (5, [some (.ref 45), some (.int (nI j)), some (.long w), none, some (.int (nI n)), none, none, none], [], xM MI ML Q, 0, 0) := by
    intro d
    induction d with
    | zero =>
      intro n hn w h
      have : n = k := by omega
      subst this
      refine xb167_5 ⟨fun _ => ⟨w, rfl, h⟩, fun hl => ?_⟩
      rw [a3] at hl
      exact absurd (nI_le (Nat.le_refl n) (by omega)) hl
    | succ d ih =>
      intro n hn w h
      have nk : n < k := by omega
      have no : ¬ WX c N J (ML 64) j n → xq167 (fun z => ∃ w, z = (some (.long w), xM MI ML Q) ∧ ∀ b, hasB w b = true ↔ ∃ n, n < k ∧ WX c N J (ML 64) j n ∧ vM MI n = b) (5, [some (.ref 45), some (.int (nI j)), some (.long w), none, some (.int (nI n + 1)), none, none, none], [], xM MI ML Q, 0, 0) := fun hno => by
        rw [nI_1]
        refine ih (n + 1) (by omega) w (fun b => ?_)
        rw [h b]
        constructor
        · rintro ⟨n', q1, q2⟩; exact ⟨n', by omega, q2⟩
        · rintro ⟨n', q1, q2, q3⟩
          by_cases e : n' = n
          · subst e; exact absurd q2 hno
          · exact ⟨n', by omega, q2, q3⟩
      have yes : WX c N J (ML 64) j n → (∃ P0 : xm_R → Prop, xm_Ev xz 160 [.ref 45, .int (nI n)] (xM MI ML Q) P0 ∧ ∀ r, P0 r → xq167 (fun z => ∃ w, z = (some (.long w), xM MI ML Q) ∧ ∀ b, hasB w b = true ↔ ∃ n, n < k ∧ WX c N J (ML 64) j n ∧ vM MI n = b) (xm_bk 117 [some (.ref 45), some (.int (nI j)), none, none, some (.int (nI n)), none, none, none] [.long (1 : Int64), .long w] 0 0 r)) := fun hy => by
        obtain ⟨e1, e2, e3, e4⟩ := hP.hm a1 nk
        refine ⟨_, c160 a1 a3 hB nk e2 e3 e4, ?_⟩
        rintro _ rfl
        refine xb167_117 ?_
        rw [nI_1]
        refine ih (n + 1) (by omega) _ (fun b => ?_)
        rw [hasB_or, Bool.or_eq_true, h b]
        show _ ∨ hasB (one (vM MI n)) b = true ↔ _
        rw [hasB_one (by omega), decide_eq_true_eq]
        constructor
        · rintro (⟨n', q1, q2⟩ | q')
          · exact ⟨n', by omega, q2⟩
          · exact ⟨n, by omega, hy, q'.symm⟩
        · rintro ⟨n', q1, q2, q3⟩
          by_cases e : n' = n
          · subst e; exact Or.inr q3.symm
          · exact Or.inl ⟨n', by omega, q2, q3⟩
      refine xb167_5 ⟨fun hl => ?_, fun _ => ⟨_, c117 _, ?_⟩⟩
      · rw [a3] at hl
        exact absurd hl (nI_ge (by omega) (by omega))
      · rintro _ rfl
        rw [decide_eq_true ⟨nI_pos (by omega), nI_lt (a := j) (b := 5) hj (by decide)⟩]
        refine xb167_18 ⟨fun h => absurd h (by decide), fun _ => ⟨_, c150 a2 a4 (nI n), ?_⟩⟩
        rintro _ ⟨v, rfl, hv⟩
        refine xb167_27 ?_
        rcases isPr_FD hV0.pr (a := n) (by omega) hv with ⟨e, hno⟩ | ⟨p, p1, e⟩
        · subst e
          have hno : ¬ WX c N J (ML 64) j n := fun ⟨⟨p, q, _⟩, _⟩ => hno p q.1 q.2.1
          exact xb167_35 ⟨fun _ => ⟨fun _ => no hno, fun h => absurd rfl h⟩, fun _ => ⟨fun _ => ⟨fun _ => no hno, fun h => absurd rfl h⟩, fun h => absurd (by decide) h⟩⟩
        · subst e
          have pc := p1.1
          obtain ⟨-, -, m3, m4, -⟩ := a5 p pc
          by_cases ej : J p = j
          · have inn : ∀ (d' f : Nat), f + d' = c → ∀ z : Bool, (z = true ↔ ∃ f', f' < f ∧ J f' ≠ j ∧ hasB (ML 64 f') n = true) → xq167 (fun z => ∃ w, z = (some (.long w), xM MI ML Q) ∧ ∀ b, hasB w b = true ↔ ∃ n, n < k ∧ WX c N J (ML 64) j n ∧ vM MI n = b) (35, [some (.ref 45), some (.int (nI j)), some (.long w), none, some (.int (nI n)), some (.int (nI p)), some (.int (bI z)), some (.int (nI f))], [], xM MI ML Q, 0, 0) := by
              intro d'
              induction d' with
              | zero =>
                intro f hf z hz
                have : f = c := by omega
                subst this
                refine xb167_35 ⟨fun _ => ⟨fun q => no fun hy => ?_, fun q => yes ?_⟩, fun hl => ?_⟩
                · rw [bI_0] at q
                  rw [hz.mpr hy.2] at q
                  cases q
                · rw [bI_ne] at q
                  exact ⟨⟨p, p1, ej⟩, hz.mp q⟩
                · rw [a4] at hl
                  exact absurd (nI_le (Nat.le_refl f) (by omega)) hl
              | succ d' ihd =>
                intro f hf z hz
                have v1 : vp_in (nI f) 16 := vp_in_nI (by omega) (by decide)
                obtain ⟨-, -, r3, r4, -⟩ := a5 f (by omega)
                refine xb167_35 ⟨fun hl => ?_, fun _ => ⟨fun q => absurd q (nI_pos (by omega)), fun _ => ⟨vp_in_nI (by omega) (by decide), ?_⟩⟩⟩
                · rw [a4] at hl
                  exact absurd hl (nI_ge (by omega) (by omega))
                · rw [nI_clamp (n := p) (by omega), m3, nI_1, nI_clamp (n := f) (by omega), r3]
                  refine ⟨fun _ => ⟨fun q => ⟨v1, fun e => ?_, fun e => ⟨v1, ?_⟩⟩, fun q => ?_⟩, fun e => absurd (by rw [ej]) e⟩
                  · have e := (nI_eq (by omega) (by omega)).mp e
                    rw [bI_0] at q
                    subst q
                    refine ihd (f + 1) (by omega) false ?_
                    rw [hz]
                    constructor
                    · rintro ⟨f', q1, q2⟩; exact ⟨f', by omega, q2⟩
                    · rintro ⟨f', q1, q2, q3⟩
                      by_cases ef : f' = f
                      · subst ef; exact absurd e q2
                      · exact ⟨f', by omega, q2, q3⟩
                  · have ne : J f ≠ j := fun q => e (by rw [q])
                    rw [bI_0] at q
                    subst q
                    refine ⟨_, c155 _ (k := n) (by omega), ?_⟩
                    rintro _ rfl
                    refine xb167_88 ⟨fun q => ?_, fun q => ?_⟩
                    · rw [bI_0] at q
                      rw [nI_1]
                      refine ihd (f + 1) (by omega) false ?_
                      rw [hz]
                      constructor
                      · rintro ⟨f', q1, q2⟩; exact ⟨f', by omega, q2⟩
                      · rintro ⟨f', q1, q2, q3⟩
                        by_cases ef : f' = f
                        · subst ef; rw [q] at q3; cases q3
                        · exact ⟨f', by omega, q2, q3⟩
                    · rw [bI_ne] at q
                      rw [nI_1]
                      exact ihd (f + 1) (by omega) true ⟨fun _ => ⟨f, by omega, ne, q⟩, fun _ => rfl⟩
                  · rw [bI_ne] at q
                    subst q
                    obtain ⟨f', q1, q2⟩ := hz.mp rfl
                    exact ihd (f + 1) (by omega) true ⟨fun _ => ⟨f', by omega, q2⟩, fun _ => rfl⟩
            refine inn c 0 (by omega) false ?_
            constructor
            · intro q; cases q
            · rintro ⟨f, q, -⟩; exact absurd q (Nat.not_lt_zero f)
          · have hno : ¬ WX c N J (ML 64) j n := fun ⟨⟨p', q1, q2⟩, _⟩ => ej (by rw [p1.uniq q1]; exact q2)
            refine xb167_35 ⟨fun _ => ⟨fun _ => no hno, fun h => absurd rfl h⟩, fun _ => ⟨fun q => absurd q (nI_pos (by omega)), fun _ => ⟨vp_in_nI (by omega) (by decide), ?_⟩⟩⟩
            rw [nI_clamp (n := p) (by omega), m3]
            exact ⟨fun e => absurd ((nI_eq (by omega) (by omega)).mp e) ej, fun _ => ⟨fun _ => no hno, fun h => absurd rfl h⟩⟩
  refine xm_in (xb167_0 (lp k 0 (by omega) 0 (fun b => ?_)))
  rw [hasB_0]
  constructor
  · intro q; cases q
  · rintro ⟨n, q, -⟩; exact absurd q (Nat.not_lt_zero n)
section OPS9
variable {R : (Nat → Nat → Int32) → (Nat → Nat → Int64) → (Nat → Nat) → Prop}
theorem op15 (hR : ∀ DI DL Q, R DI DL Q → ∃ k c, IB k DI ∧ IP k DI ∧ IC k c DI DL Q ∧ SJ c DI DL) (x : Int32) : xOpL (xInv R) 103 167 [.int x] := by
  intro MI ML Q hI
  obtain ⟨k, c, hB0, hP0, hC0, hJ0⟩ := hR _ _ _ hI.2
  have hB : IB k MI := hB0
  have hP : IP k MI := hP0
  have hC := hC0.get
  have hV := IC.vm hB hC
  have hJ : JM c (vN MI) (vJ MI) (ML 64) (ML 65) MI ML := hJ0
  obtain ⟨b1, b2, b3, b4⟩ := hB
  by_cases hn : ¬ x < 0 ∧ x < 5
  · obtain ⟨j, hj, rfl⟩ := nI_in2 (k := 5) (by decide) hn
    refine (c103 b1 b2 hP hJ (fun f hf => (hV.2.2.2.2 f hf).2.2.2.1) hj).imp ?_
    rintro _ ⟨w, rfl, hw⟩
    refine ⟨w, MI, ML, Q, rfl, (c167 hV b4 hP hj).imp ?_⟩
    rintro _ ⟨w', rfl, hw'⟩
    have : w' = w := hasB_ext fun b _ => bool_iff ((hw' b).trans (hw b).symm)
    subst this
    exact ⟨MI, ML, Q, rfl, hI⟩
  · refine xm_in (xb103_0 ⟨_, c14 x, ?_⟩)
    rintro _ rfl
    rw [decide_eq_false hn]
    refine xb103_4 ⟨fun _ => ⟨0, MI, ML, Q, rfl, xm_in (xb167_0 ?_)⟩, fun h => absurd rfl h⟩
    refine xb167_5 ⟨fun _ => ⟨MI, ML, Q, rfl, hI⟩, fun _ => ⟨_, c117 x, ?_⟩⟩
    rintro _ rfl
    rw [decide_eq_false hn]
    exact xb167_18 ⟨fun _ => ⟨MI, ML, Q, rfl, hI⟩, fun h => absurd rfl h⟩
end OPS9
