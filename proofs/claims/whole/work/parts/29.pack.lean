/-- the length of a name's package as the scanner keeps it -/
def vP (MI : Nat → Nat → Int32) (a : Nat) : Nat := Int32.toNatClampNeg (MI 15 a)
/-- the same package -/
def SP (MI : Nat → Nat → Int32) (a b : Nat) : Prop := vP MI a = vP MI b ∧ ∀ i, i < vP MI a → MI 13 (16 * a + i) = MI 13 (16 * b + i)
theorem SP.rf (MI : Nat → Nat → Int32) (a : Nat) : SP MI a a := ⟨rfl, fun _ _ => rfl⟩
theorem SP.sy {MI : Nat → Nat → Int32} {a b : Nat} (h : SP MI a b) : SP MI b a := ⟨h.1.symm, fun i hi => (h.2 i (by rw [h.1]; exact hi)).symm⟩
theorem SP.tr {MI : Nat → Nat → Int32} {a b c : Nat} (h : SP MI a b) (h' : SP MI b c) : SP MI a c := ⟨h.1.trans h'.1, fun i hi => (h.2 i hi).trans (h'.2 i (by rw [← h.1]; exact hi))⟩
/-- homes: the least name of the same package -/
def IP (k : Nat) (DI : Nat → Nat → Int32) : Prop := ∀ a, a < k → ∃ h, h ≤ a ∧ DI 16 a = nI h ∧ SP DI h a ∧ ∀ b, b < h → ¬ SP DI b a
/-- the length of the package with its slash, as the reference counts it -/
def vH (MI : Nat → Nat → Int32) (a : Nat) : Nat := if vP MI a = 0 then 0 else vP MI a + 1
theorem IBn.pl {MI : Nat → Nat → Int32} {a : Nat} (h : IBn MI a) : ∃ len : Nat, 1 ≤ len ∧ len ≤ 16 ∧ MI 14 a = nI len ∧ MI 56 a = nI len ∧ (∀ i, i < len → MI 55 (16 * a + i) = MI 13 (16 * a + i)) ∧ vP MI a < len ∧ vH MI a ≤ len ∧ (vP MI a ≠ 0 → MI 13 (16 * a + vP MI a) = 47) ∧ ∀ i, i < len → MI 13 (16 * a + i) = 47 → i + 1 ≤ vH MI a := by
  obtain ⟨len, l1, l2, l3, l4, l5, l6, pl, p1, p2, p3, p4⟩ := h
  have e : vP MI a = pl := by unfold vP; rw [p1, nI_clamp (by omega)]
  refine ⟨len, l1, l2, l3, l4, l5, by omega, ?_, by rw [e]; exact p4, fun i hi h47 => ?_⟩
  · unfold vH
    rw [e]
    split <;> omega
  · have := p3 i hi h47
    unfold vH
    rw [e]
    by_cases hp : pl = 0
    · have hi0 : i = 0 := by omega
      subst hi0
      exact absurd h47 l6
    · rw [if_neg hp]
      omega
theorem ix16 {a i : Nat} : (16 : Int32) * nI a + nI i = nI (16 * a + i) := by rw [show (16 : Int32) = nI 16 from rfl, pk_mul, nI_add]
theorem c162 {MI : Nat → Nat → Int32} {ML : Nat → Nat → Int64} {Q : Nat → Nat} {a : Nat} (ha : a < 48) (h : IBn MI a) : xm_Ev xz 162 [.ref 45, .int (nI a)] (xM MI ML Q) (fun r => r = (some (.int (nI (vH MI a))), xM MI ML Q)) := by
  obtain ⟨len, l1, l2, l3, l4, l5, l6, l7, l8, l9⟩ := h.pl
  have lp : ∀ n, vH MI a ≤ n → n ≤ len → xq162 (fun r => r = (some (.int (nI (vH MI a))), xM MI ML Q)) (7, [some (.ref 45), some (.int (nI a)), some (.int (nI n))], [], xM MI ML Q, 0, 0) := by
    intro n
    induction n with
    | zero =>
      intro h1 h2
      have : vH MI a = 0 := by omega
      exact xb162_7 ⟨fun _ => by rw [this], fun hl => absurd (by decide) hl⟩
    | succ n ih =>
      intro h1 h2
      have e : (16 : Int32) * nI a + nI (n + 1) - 1 = nI (16 * a + n) := by rw [ix16, ← Nat.add_assoc, nI_pred]
      refine xb162_7 ⟨fun hl => absurd hl (nI_nle (by omega) (by omega)), fun _ => ?_⟩
      rw [e, nI_clamp (by omega), l5 n (by omega)]
      refine ⟨vp_in_nI (by omega) (by decide), fun h47 => ?_, fun h47 => ?_⟩
      · have := l9 n (by omega) h47
        rw [show n + 1 = vH MI a by omega]
      · have hne : vH MI a ≠ n + 1 := fun q => by
          unfold vH at q
          split at q
          · omega
          · rename_i hp
            have := l8 hp
            rw [show vP MI a = n by omega] at this
            exact h47 this
        rw [show nI (n + 1) + (-1) = nI n from pk_m1 n]
        exact ih (by omega) (by omega)
  refine xm_in (xb162_0 ⟨vp_in_nI ha (by decide), ?_⟩)
  rw [nI_clamp (by omega), l4]
  exact lp len l7 (Nat.le_refl len)
theorem SP_vH {MI : Nat → Nat → Int32} {a b : Nat} (ha : IBn MI a) (hb : IBn MI b) : SP MI a b ↔ vH MI a = vH MI b ∧ ∀ i, i < vH MI a → MI 13 (16 * a + i) = MI 13 (16 * b + i) := by
  obtain ⟨-, -, -, -, -, -, -, -, a8, -⟩ := ha.pl
  obtain ⟨-, -, -, -, -, -, -, -, b8, -⟩ := hb.pl
  constructor
  · rintro ⟨h1, h2⟩
    refine ⟨by unfold vH; rw [h1], fun i hi => ?_⟩
    unfold vH at hi
    split at hi
    · omega
    · rename_i hp
      by_cases e : i = vP MI a
      · subst e
        rw [a8 hp, h1, b8 (by rw [← h1]; exact hp)]
      · exact h2 i (by omega)
  · rintro ⟨h1, h2⟩
    have e : vP MI a = vP MI b := by
      unfold vH at h1
      split at h1 <;> split at h1 <;> omega
    refine ⟨e, fun i hi => h2 i ?_⟩
    unfold vH
    rw [if_neg (by omega)]
    omega
theorem c161 {MI : Nat → Nat → Int32} {ML : Nat → Nat → Int64} {Q : Nat → Nat} {a b : Nat} (ha : a < 48) (hb : b < 48) (hA : IBn MI a) (hB : IBn MI b) : xm_Ev xz 161 [.ref 45, .int (nI a), .int (nI b)] (xM MI ML Q) (fun r => ∃ z : Bool, r = (some (.int (bI z)), xM MI ML Q) ∧ (z = true ↔ SP MI a b)) := by
  have hS := SP_vH hA hB
  obtain ⟨la, a1, a2, -, -, a5, -, a7, -, -⟩ := hA.pl
  obtain ⟨lb, b1, b2, -, -, b5, -, b7, -, -⟩ := hB.pl
  have no : ∀ (i : Nat), ¬ SP MI a b → xq161 (fun r => ∃ z : Bool, r = (some (.int (bI z)), xM MI ML Q) ∧ (z = true ↔ SP MI a b)) (25, [some (.ref 45), some (.int (nI a)), some (.int (nI b)), some (.int (nI (vH MI a))), some (.int 0), some (.int (nI i))], [], xM MI ML Q, 0, 0) := fun i hn =>
    xb161_25 ⟨fun _ => ⟨Or.inl rfl, false, rfl, fun q => (by cases q), fun q => absurd q hn⟩, fun _ => ⟨fun _ => ⟨Or.inl rfl, false, rfl, fun q => (by cases q), fun q => absurd q hn⟩, fun h => absurd rfl h⟩⟩
  have lp : vH MI a = vH MI b → ∀ (d i : Nat), i + d = vH MI a → (∀ j, j < i → MI 13 (16 * a + j) = MI 13 (16 * b + j)) → xq161 (fun r => ∃ z : Bool, r = (some (.int (bI z)), xM MI ML Q) ∧ (z = true ↔ SP MI a b)) (25, [some (.ref 45), some (.int (nI a)), some (.int (nI b)), some (.int (nI (vH MI a))), some (.int 1), some (.int (nI i))], [], xM MI ML Q, 0, 0) := by
    intro hh d
    induction d with
    | zero =>
      intro i hi hj
      have : i = vH MI a := by omega
      exact xb161_25 ⟨fun _ => ⟨Or.inr rfl, true, rfl, fun _ => hS.mpr ⟨hh, fun j q => hj j (by omega)⟩, fun _ => rfl⟩, fun hl => absurd (nI_le (by omega) (by omega)) hl⟩
    | succ d ih =>
      intro i hi hj
      refine xb161_25 ⟨fun hl => absurd hl (nI_ge (by omega) (by omega)), fun _ => ⟨fun h => absurd h (by decide), fun _ => ?_⟩⟩
      rw [ix16, ix16, nI_clamp (by omega), nI_clamp (by omega), a5 i (by omega), b5 i (by omega), nI_1]
      refine ⟨vp_in_nI (by omega) (by decide), vp_in_nI (by omega) (by decide), fun e => ?_, fun e => ?_⟩
      · refine ih (i + 1) (by omega) (fun j q => ?_)
        by_cases hji : j = i
        · subst hji; exact e
        · exact hj j (by omega)
      · exact no (i + 1) (fun q => e ((hS.mp q).2 i (by omega)))
  refine xm_in (xb161_0 ⟨_, c162 ha hA, ?_⟩)
  rintro _ rfl
  refine xb161_5 ⟨_, c162 hb hB, ?_⟩
  rintro _ rfl
  refine xb161_11 ⟨fun e => ?_, fun e => ?_⟩
  · have e := (nI_eq (by omega) (by omega)).mp e
    exact lp e.symm (vH MI a) 0 (by omega) (fun j q => absurd q (Nat.not_lt_zero j))
  · exact no 0 (fun q => e (by rw [(hS.mp q).1]))
theorem c160 {MI : Nat → Nat → Int32} {ML : Nat → Nat → Int64} {Q : Nat → Nat} {k a h : Nat} (hk : k ≤ 48) (h1 : MI 45 19 = nI k) (hB : ∀ a, a < k → IBn MI a) (ha : a < k) (hh : h ≤ a) (hs : SP MI h a) (hl : ∀ b, b < h → ¬ SP MI b a) : xm_Ev xz 160 [.ref 45, .int (nI a)] (xM MI ML Q) (fun r => r = (some (.int (nI h)), xM MI ML Q)) := by
  have lp : ∀ (d n : Nat), n + d = h → xq160 (fun r => r = (some (.int (nI h)), xM MI ML Q)) (12, [some (.ref 45), some (.int (nI a)), some (.int (nI n))], [], xM MI ML Q, 0, 0) := by
    intro d
    induction d with
    | zero =>
      intro n hn
      have : n = h := by omega
      subst this
      refine xb160_12 ⟨_, c161 (a := n) (b := a) (by omega) (by omega) (hB n (by omega)) (hB a ha), ?_⟩
      rintro _ ⟨z, rfl, hz⟩
      refine xb160_18 ⟨fun q => ?_, fun _ => rfl⟩
      rw [bI_0] at q
      rw [hz.mpr hs] at q
      cases q
    | succ d ih =>
      intro n hn
      refine xb160_12 ⟨_, c161 (a := n) (b := a) (by omega) (by omega) (hB n (by omega)) (hB a ha), ?_⟩
      rintro _ ⟨z, rfl, hz⟩
      refine xb160_18 ⟨fun _ => ?_, fun q => ?_⟩
      · rw [nI_1]
        exact ih (n + 1) (by omega)
      · rw [bI_ne] at q
        exact absurd (hz.mp q) (hl n (by omega))
  refine xm_in (xb160_0 ⟨_, c148 _, ?_⟩)
  rintro _ rfl
  rw [h1, decide_eq_true ⟨nI_pos (by omega), nI_lt ha (by omega)⟩]
  exact xb160_5 ⟨fun q => absurd q (by decide), fun _ => lp h 0 (by omega)⟩
theorem c97 {MI : Nat → Nat → Int32} {ML : Nat → Nat → Int64} {Q : Nat → Nat} {k : Nat} (hk : k ≤ 48) (h1 : MI 12 4 = nI k) (x : Int32) : xm_Ev xz 97 [.ref 12, .int x] (xM MI ML Q) (fun r => (∃ a : Nat, a < k ∧ x = nI a ∧ r = (some (.int (MI 16 a)), xM MI ML Q)) ∨ (¬ (¬ x < 0 ∧ x < nI k) ∧ r = (some (.int (-1)), xM MI ML Q))) := by
  refine xm_in (xb97_0 ⟨_, c86 _, ?_⟩)
  rintro _ rfl
  rw [h1]
  by_cases hn : ¬ x < 0 ∧ x < nI k
  · rw [decide_eq_true hn]
    obtain ⟨a, ha, rfl⟩ := nI_in2 (by omega) hn
    refine xb97_5 ⟨fun q => absurd q (by decide), fun _ => ⟨vp_in_nI (by omega) (by decide), ?_⟩⟩
    rw [nI_clamp (by omega)]
    exact Or.inl ⟨a, ha, rfl, rfl⟩
  · rw [decide_eq_false hn]
    exact xb97_5 ⟨fun _ => Or.inr ⟨hn, rfl⟩, fun q => absurd rfl q⟩
theorem c97' {MI : Nat → Nat → Int32} {ML : Nat → Nat → Int64} {Q : Nat → Nat} {k a : Nat} (hk : k ≤ 48) (h1 : MI 12 4 = nI k) (ha : a < k) : xm_Ev xz 97 [.ref 12, .int (nI a)] (xM MI ML Q) (fun r => r = (some (.int (MI 16 a)), xM MI ML Q)) := by
  refine (c97 hk h1 (nI a)).imp ?_
  rintro r (⟨b, b1, b2, b3⟩ | ⟨hn, -⟩)
  · have : a = b := (nI_eq (by omega) (by omega)).mp b2
    subst this
    exact b3
  · exact absurd ⟨nI_pos (by omega), nI_lt ha (by omega)⟩ hn
/-- the jars of those that p names -/
def JS (J : Nat → Int32) (p : Nat → Prop) : Nat → Int32 → Prop
  | 0, v => v = 0
  | i + 1, v => ∃ w, JS J p i w ∧ ((p i ∧ v = w ||| ((1 : Int32) <<< (J i &&& (31 : Int32)))) ∨ (¬ p i ∧ v = w))
theorem JS.uniq {J : Nat → Int32} {p : Nat → Prop} : ∀ {i : Nat} {v v' : Int32}, JS J p i v → JS J p i v' → v = v'
  | 0, _, _, h, h' => h.trans h'.symm
  | i + 1, v, v', ⟨w, h1, h2⟩, ⟨w', h1', h2'⟩ => by
    have := JS.uniq h1 h1'
    subst this
    rcases h2 with ⟨a, b⟩ | ⟨a, b⟩ <;> rcases h2' with ⟨a', b'⟩ | ⟨a', b'⟩
    · rw [b, b']
    · exact absurd a a'
    · exact absurd a' a
    · rw [b, b']
theorem JS.cg {J J' : Nat → Int32} {p q : Nat → Prop} : ∀ {i : Nat} {v : Int32}, (∀ j, j < i → J j = J' j ∧ (p j ↔ q j)) → JS J p i v → JS J' q i v
  | 0, _, _, h => h
  | i + 1, v, e, ⟨w, h1, h2⟩ => by
    obtain ⟨e1, e2⟩ := e i (by omega)
    refine ⟨w, JS.cg (fun j hj => e j (by omega)) h1, ?_⟩
    rw [← e1, ← e2]
    exact h2
theorem c99 {MI : Nat → Nat → Int32} {ML : Nat → Nat → Int64} {Q : Nat → Nat} {k c : Nat} {N J : Nat → Nat} {U : Nat → Int64} (hV : VS k c MI ML Q N J U) (h1 : MI 12 4 = nI k) (x : Int32) : xm_Ev xz 99 [.ref 0, .int x] (xM MI ML Q) (fun r => ∃ v, r = (some (.int v), xM MI ML Q) ∧ JS (fun i => nI (J i)) (fun i => MI 16 (N i) = x) c v) := by
  obtain ⟨a1, a2, a3, a4, a5⟩ := hV
  have lp : ∀ (d i : Nat), i + d = c → ∀ v, JS (fun i => nI (J i)) (fun i => MI 16 (N i) = x) i v → xq99 (fun r => ∃ v, r = (some (.int v), xM MI ML Q) ∧ JS (fun i => nI (J i)) (fun i => MI 16 (N i) = x) c v) (4, [some (.ref 0), some (.int x), some (.int v), some (.int (nI i))], [], xM MI ML Q, 0, 0) := by
    intro d
    induction d with
    | zero =>
      intro i hi v hv
      have : i = c := by omega
      subst this
      refine xb99_4 ⟨fun _ => ⟨v, rfl, hv⟩, fun hl => ?_⟩
      rw [a3] at hl
      exact absurd (nI_le (Nat.le_refl i) (by omega)) hl
    | succ d ih =>
      intro i hi v hv
      have v1 : vp_in (nI i) 16 := vp_in_nI (by omega) (by decide)
      obtain ⟨q1, q2, q3, q4⟩ := a4.at (i := i) (by omega)
      obtain ⟨n1, n2, n3, n4, -⟩ := a5 i (by omega)
      refine xb99_4 ⟨fun hl => ?_, fun _ => ⟨v1, Q i - 1, q1, q2, ?_⟩⟩
      · rw [a3] at hl
        exact absurd hl (nI_ge (by omega) (by omega))
      · rw [n1]
        refine ⟨_, c97' a1 h1 n2, ?_⟩
        rintro _ rfl
        refine xb99_34 ⟨fun e => ⟨v1, Q i - 1, q1, q2, ?_⟩, fun e => ?_⟩
        · rw [n3, nI_1]
          exact ih (i + 1) (by omega) _ ⟨v, hv, Or.inl ⟨e, rfl⟩⟩
        · rw [nI_1]
          exact ih (i + 1) (by omega) _ ⟨v, hv, Or.inr ⟨e, rfl⟩⟩
  refine xm_in (xb99_0 ?_)
  exact lp c 0 (by omega) 0 rfl
theorem c163 {MI : Nat → Nat → Int32} {ML : Nat → Nat → Int64} {Q : Nat → Nat} {k c a : Nat} {N J : Nat → Nat} (hV : VM k c MI ML N J) (hB : ∀ a, a < k → IBn MI a) (ha : a < k) : xm_Ev xz 163 [.ref 45, .int (nI a)] (xM MI ML Q) (fun r => ∃ v, r = (some (.int v), xM MI ML Q) ∧ JS (fun i => nI (J i)) (fun i => SP MI (N i) a) c v) := by
  obtain ⟨a1, a2, a3, a4, a5⟩ := hV
  have lp : ∀ (d i : Nat), i + d = c → ∀ v, JS (fun i => nI (J i)) (fun i => SP MI (N i) a) i v → xq163 (fun r => ∃ v, r = (some (.int v), xM MI ML Q) ∧ JS (fun i => nI (J i)) (fun i => SP MI (N i) a) c v) (4, [some (.ref 45), some (.int (nI a)), some (.int v), some (.int (nI i))], [], xM MI ML Q, 0, 0) := by
    intro d
    induction d with
    | zero =>
      intro i hi v hv
      have : i = c := by omega
      subst this
      refine xb163_4 ⟨fun _ => ⟨v, rfl, hv⟩, fun hl => ?_⟩
      rw [a4] at hl
      exact absurd (nI_le (Nat.le_refl i) (by omega)) hl
    | succ d ih =>
      intro i hi v hv
      have v1 : vp_in (nI i) 16 := vp_in_nI (by omega) (by decide)
      obtain ⟨n1, n2, n3, n4, -⟩ := a5 i (by omega)
      refine xb163_4 ⟨fun hl => ?_, fun _ => ⟨_, c148 _, ?_⟩⟩
      · rw [a4] at hl
        exact absurd hl (nI_ge (by omega) (by omega))
      · rintro _ rfl
        rw [a3, decide_eq_true ⟨nI_pos (by omega), nI_lt ha (by omega)⟩]
        refine xb163_17 ⟨fun q => absurd q (by decide), fun _ => ⟨v1, ?_⟩⟩
        rw [nI_clamp (by omega), n1]
        refine ⟨_, c161 (a := N i) (b := a) (by omega) (by omega) (hB _ n2) (hB a ha), ?_⟩
        rintro _ ⟨z, rfl, hz⟩
        refine xb163_31 ⟨fun e => ?_, fun e => ⟨v1, ?_⟩⟩
        · rw [bI_0] at e
          rw [nI_1]
          exact ih (i + 1) (by omega) _ ⟨v, hv, Or.inr ⟨fun q => (by rw [hz.mpr q] at e; cases e), rfl⟩⟩
        · rw [bI_ne] at e
          rw [nI_clamp (by omega), n3, nI_1]
          exact ih (i + 1) (by omega) _ ⟨v, hv, Or.inl ⟨hz.mp e, rfl⟩⟩
  refine xm_in (xb163_0 ?_)
  exact lp c 0 (by omega) 0 rfl
