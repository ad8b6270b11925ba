/-- the draft as the scanner keeps it, and as the reference does -/
def Dr (n : Nat) (B : Nat → Int32) (MI : Nat → Nat → Int32) : Prop := n ≤ 400 ∧ MI 2 1 = nI n ∧ ∀ i, i < n → MI 3 i = B i
def Dm (n : Nat) (B : Nat → Int32) (MI : Nat → Nat → Int32) : Prop := n ≤ 400 ∧ MI 45 1 = nI n ∧ ∀ i, i < n → MI 46 i = B i
/-- a letter of a name -/
def ltr (x : Int32) : Bool := decide ((¬ x < 97 ∧ x ≤ 122) ∨ (¬ x < 65 ∧ x ≤ 90) ∨ (¬ x < 48 ∧ x ≤ 57) ∨ x = 95 ∨ x = 36)
/-- a plain type -/
def pty (x : Int32) : Bool := decide (x = 66 ∨ x = 67 ∨ x = 68 ∨ x = 70 ∨ x = 73 ∨ x = 74 ∨ x = 83 ∨ x = 90)
/-- the rest of a class name; p: a part has begun -/
def cnF (B : Nat → Int32) : Nat → Nat → Bool → Bool
  | 0, _, p => p
  | d + 1, i, p => if B i = 47 then p && cnF B d (i + 1) false else ltr (B i) && cnF B d (i + 1) true
def cn (B : Nat → Int32) (f t : Nat) : Bool := decide (t - f ≤ 16) && cnF B (t - f) f false
/-- the first semicolon -/
def sc (B : Nat → Int32) : Nat → Nat → Nat
  | 0, i => i
  | d + 1, i => if B i = 59 then i else sc B d (i + 1)
/-- the place behind a type -/
def te (B : Nat → Int32) : Nat → Nat → Option Nat
  | 0, _ => none
  | d + 1, i => if B i = 91 then te B d (i + 1) else if pty (B i) = true then some (i + 1) else if B i = 76 ∧ sc B d (i + 1) < i + 1 + d ∧ cn B (i + 1) (sc B d (i + 1)) = true then some (sc B d (i + 1) + 1) else none
def oI : Option Nat → Int32
  | none => -1
  | some e => nI e
/-- the place of the bracket behind the types -/
def mtE (B : Nat → Int32) (t : Nat) : Nat → Nat → Option Nat
  | 0, _ => none
  | g + 1, a => if t ≤ a then none else if B a = 41 then some a else (te B (t - a) a).bind (mtE B t g)
def mfin (B : Nat → Int32) (t : Nat) : Option Nat → Bool
  | none => false
  | some a => decide ((B (a + 1) = 86 ∧ a + 2 = t) ∨ te B (t - (a + 1)) (a + 1) = some t)
def mtB (B : Nat → Int32) (f t : Nat) : Bool := decide (f < t ∧ B f = 40) && mfin B t (mtE B t (t - f) (f + 1))
theorem sc_ge (B : Nat → Int32) : ∀ d i, i ≤ sc B d i ∧ sc B d i ≤ i + d
  | 0, i => ⟨Nat.le_refl _, Nat.le_refl _⟩
  | d + 1, i => by
    rw [sc]
    split
    · omega
    · have := sc_ge B d (i + 1)
      omega
theorem te_bd {B : Nat → Int32} : ∀ {d i e : Nat}, te B d i = some e → i < e ∧ e ≤ i + d
  | 0, i, e, h => by cases h
  | d + 1, i, e, h => by
    rw [te] at h
    split at h
    · have := te_bd h
      omega
    · split at h
      · cases h
        omega
      · split at h
        · rename_i hq
          cases h
          have := sc_ge B d (i + 1)
          omega
        · cases h
theorem mtE_bd {B : Nat → Int32} {t : Nat} : ∀ {g a e : Nat}, mtE B t g a = some e → a ≤ e ∧ e < t ∧ B e = 41
  | 0, a, e, h => by cases h
  | g + 1, a, e, h => by
    rw [mtE] at h
    split at h
    · cases h
    · split at h
      · cases h
        rename_i hq
        exact ⟨Nat.le_refl _, by omega, hq⟩
      · cases ht : te B (t - a) a with
        | none => rw [ht] at h; cases h
        | some a' =>
          rw [ht] at h
          have h1 := te_bd ht
          have h2 := mtE_bd (g := g) h
          exact ⟨by omega, h2.2⟩
section GR
variable {MI : Nat → Nat → Int32} {ML : Nat → Nat → Int64} {Q : Nat → Nat} {B : Nat → Int32} {n : Nat}
theorem c33 (x : Int32) : xm_Ev xz 33 [.int x] (xM MI ML Q) (fun r => r = (some (.int (bI (ltr x))), xM MI ML Q)) := by
  have T : ∀ {p : Prop} [Decidable p], p → ((1 : Int32) = 0 ∨ (1 : Int32) = 1) ∧ (some (Value.int (1 : Int32)), xM MI ML Q) = (some (.int (bI (decide p))), xM MI ML Q) := fun h => ⟨Or.inr rfl, by rw [decide_eq_true h]; rfl⟩
  have F : ∀ {p : Prop} [Decidable p], ¬ p → ((0 : Int32) = 0 ∨ (0 : Int32) = 1) ∧ (some (Value.int (0 : Int32)), xM MI ML Q) = (some (.int (bI (decide p))), xM MI ML Q) := fun h => ⟨Or.inl rfl, by rw [decide_eq_false h]; rfl⟩
  refine xm_in (xb33_0 ?_)
  unfold ltr
  repeat' (first | exact T (by simp [*]) | exact F (by simp [*]) | (apply And.intro <;> intro _))
theorem c131 (x : Int32) : xm_Ev xz 131 [.int x] (xM MI ML Q) (fun r => r = (some (.int (bI (ltr x))), xM MI ML Q)) := by
  have T : ∀ {p : Prop} [Decidable p], p → ((1 : Int32) = 0 ∨ (1 : Int32) = 1) ∧ (some (Value.int (1 : Int32)), xM MI ML Q) = (some (.int (bI (decide p))), xM MI ML Q) := fun h => ⟨Or.inr rfl, by rw [decide_eq_true h]; rfl⟩
  have F : ∀ {p : Prop} [Decidable p], ¬ p → ((0 : Int32) = 0 ∨ (0 : Int32) = 1) ∧ (some (Value.int (0 : Int32)), xM MI ML Q) = (some (.int (bI (decide p))), xM MI ML Q) := fun h => ⟨Or.inl rfl, by rw [decide_eq_false h]; rfl⟩
  refine xm_in (xb131_0 ?_)
  unfold ltr
  repeat' (first | exact T (by simp [*]) | exact F (by simp [*]) | (apply And.intro <;> intro _))
theorem c35 (x : Int32) : xm_Ev xz 35 [.int x] (xM MI ML Q) (fun r => r = (some (.int (bI (pty x))), xM MI ML Q)) := by
  have T : ∀ {p : Prop} [Decidable p], p → ((1 : Int32) = 0 ∨ (1 : Int32) = 1) ∧ (some (Value.int (1 : Int32)), xM MI ML Q) = (some (.int (bI (decide p))), xM MI ML Q) := fun h => ⟨Or.inr rfl, by rw [decide_eq_true h]; rfl⟩
  have F : ∀ {p : Prop} [Decidable p], ¬ p → ((0 : Int32) = 0 ∨ (0 : Int32) = 1) ∧ (some (Value.int (0 : Int32)), xM MI ML Q) = (some (.int (bI (decide p))), xM MI ML Q) := fun h => ⟨Or.inl rfl, by rw [decide_eq_false h]; rfl⟩
  refine xm_in (xb35_0 ?_)
  unfold pty
  repeat' (first | exact T (by simp [*]) | exact F (by simp [*]) | (apply And.intro <;> intro _))
theorem c128 (x : Int32) : xm_Ev xz 128 [.int x] (xM MI ML Q) (fun r => r = (some (.int (bI (pty x))), xM MI ML Q)) := by
  have T : ∀ {p : Prop} [Decidable p], p → ((1 : Int32) = 0 ∨ (1 : Int32) = 1) ∧ (some (Value.int (1 : Int32)), xM MI ML Q) = (some (.int (bI (decide p))), xM MI ML Q) := fun h => ⟨Or.inr rfl, by rw [decide_eq_true h]; rfl⟩
  have F : ∀ {p : Prop} [Decidable p], ¬ p → ((0 : Int32) = 0 ∨ (0 : Int32) = 1) ∧ (some (Value.int (0 : Int32)), xM MI ML Q) = (some (.int (bI (decide p))), xM MI ML Q) := fun h => ⟨Or.inl rfl, by rw [decide_eq_false h]; rfl⟩
  refine xm_in (xb128_0 ?_)
  unfold pty
  repeat' (first | exact T (by simp [*]) | exact F (by simp [*]) | (apply And.intro <;> intro _))
theorem c32 (hD : Dr n B MI) {i : Nat} (hi : i < n) : xm_Ev xz 32 [.ref 2, .int (nI i)] (xM MI ML Q) (fun r => r = (some (.int (B i)), xM MI ML Q)) := by
  obtain ⟨h1, h2, h3⟩ := hD
  refine xm_in (xb32_0 ⟨fun h => absurd h (nI_pos (by omega)), fun _ => ?_⟩)
  rw [h2]
  refine pk_le n i (fun h => absurd h (by omega)) (fun _ => ⟨vp_in_nI (by omega) (by decide), ?_⟩)
  rw [nI_clamp (by omega), h3 i hi]
theorem l31 (hD : Dr n B MI) {t : Nat} (ht : t ≤ n) : ∀ (d i : Nat) (p : Bool), i + d = t → xq31 (fun r => r = (some (.int (bI (cnF B d i p))), xM MI ML Q)) (15, [some (.ref 2), none, some (.int (nI t)), some (.int (bI p)), some (.int (nI i)), none, none], [], xM MI ML Q, 0, 0) := by
  have hn := hD.1
  intro d
  induction d with
  | zero =>
    intro i p hi
    exact xb31_15 (pk_le t i (fun _ => ⟨bI01 p, rfl⟩) (fun h => absurd h (by omega)))
  | succ d ih =>
    intro i p hi
    refine xb31_15 (pk_le t i (fun h => absurd h (by omega)) (fun _ => ⟨_, c32 hD (i := i) (by omega), ?_⟩))
    rintro _ rfl
    refine xb31_27 ⟨fun h47 => ⟨fun h => absurd h (by decide), fun _ => ⟨fun hp => ?_, fun hp => ⟨fun h => absurd h (by decide), fun _ => ?_⟩⟩⟩, fun h47 => ⟨fun _ => ⟨_, c33 _, ?_⟩, fun h => absurd rfl h⟩⟩
    · rw [bI_0] at hp
      subst hp
      refine ⟨Or.inl rfl, ?_⟩
      rw [cnF, if_pos h47]
      rfl
    · rw [bI_ne] at hp
      subst hp
      have e : cnF B (d + 1) i true = cnF B d (i + 1) false := by rw [cnF, if_pos h47, Bool.true_and]
      rw [e, nI_1]
      exact ih (i + 1) false (by omega)
    · rintro _ rfl
      have e : cnF B (d + 1) i p = (ltr (B i) && cnF B d (i + 1) true) := by rw [cnF, if_neg h47]
      rw [e]
      refine xb31_60 ⟨fun h => ⟨Or.inl rfl, ?_⟩, fun h => ⟨fun _ => ?_, fun h => absurd rfl h⟩⟩
      · rw [bI_0] at h
        rw [h]
        rfl
      · rw [bI_ne] at h
        rw [h, Bool.true_and, nI_1]
        exact ih (i + 1) true (by omega)
theorem c31 (hD : Dr n B MI) {f t : Nat} (hf : f ≤ t) (ht : t ≤ n) : xm_Ev xz 31 [.ref 2, .int (nI f), .int (nI t)] (xM MI ML Q) (fun r => r = (some (.int (bI (cn B f t))), xM MI ML Q)) := by
  have hn := hD.1
  refine xm_in (xb31_0 ?_)
  rw [pk_sub hf]
  refine pk_le (t - f) 16 (fun h => ?_) (fun h => ⟨Or.inl rfl, ?_⟩)
  · unfold cn
    rw [decide_eq_true h, Bool.true_and]
    exact l31 hD ht (t - f) f false (by omega)
  · unfold cn
    rw [decide_eq_false (by omega)]
    rfl
theorem l130 (hD : Dm n B MI) {t : Nat} (ht : t ≤ n) : ∀ (d i : Nat) (g p : Bool), i + d = t → xq130 (fun r => r = (some (.int (bI (g && cnF B d i p))), xM MI ML Q)) (25, [some (.ref 45), none, some (.int (nI t)), some (.int (bI g)), some (.int (bI p)), some (.int (nI i))], [], xM MI ML Q, 0, 0) := by
  have hn := hD.1
  have no : ∀ (d i : Nat) (p : Bool), xq130 (fun r => r = (some (.int (bI (false && cnF B d i p))), xM MI ML Q)) (25, [some (.ref 45), none, some (.int (nI t)), some (.int (bI false)), some (.int (bI p)), some (.int (nI i))], [], xM MI ML Q, 0, 0) := fun d i p =>
    xb130_25 ⟨fun _ => ⟨fun _ => ⟨Or.inl rfl, rfl⟩, fun h => absurd rfl h⟩, fun _ => ⟨fun _ => ⟨fun _ => ⟨Or.inl rfl, rfl⟩, fun h => absurd rfl h⟩, fun h => absurd rfl h⟩⟩
  intro d
  induction d with
  | zero =>
    intro i g p hi
    cases g with
    | false => exact no 0 i p
    | true =>
      refine xb130_25 (pk_le t i (fun _ => ⟨fun h => absurd h (by decide), fun _ => ⟨fun h => ⟨Or.inl rfl, ?_⟩, fun h => ⟨Or.inr rfl, ?_⟩⟩⟩) (fun h => absurd h (by omega)))
      · rw [bI_0] at h
        subst h
        rfl
      · rw [bI_ne] at h
        subst h
        rfl
  | succ d ih =>
    intro i g p hi
    cases g with
    | false => exact no (d + 1) i p
    | true =>
      refine xb130_25 (pk_le t i (fun h => absurd h (by omega)) (fun _ => ⟨fun h => absurd h (by decide), fun _ => ⟨vp_in_nI (by omega) (by decide), ?_⟩⟩))
      have e0 : MI 46 (nI i).toNatClampNeg = B i := by rw [nI_clamp (by omega), hD.2.2 i (by omega)]
      rw [e0]
      refine ⟨fun h47 => ?_, fun h47 => ⟨vp_in_nI (by omega) (by decide), _, c131 _, ?_⟩⟩
      · have e : cnF B (d + 1) i p = (p && cnF B d (i + 1) false) := by rw [cnF, if_pos h47]
        refine xb130_62 ⟨vp_in_nI (by omega) (by decide), ?_⟩
        rw [e0, e, nI_1, Bool.true_and]
        exact ⟨fun _ => ih (i + 1) p false (by omega), fun h => absurd h47 h⟩
      · rintro _ rfl
        have e : cnF B (d + 1) i p = (ltr (B i) && cnF B d (i + 1) true) := by rw [cnF, if_neg h47]
        refine xb130_62 ⟨vp_in_nI (by omega) (by decide), ?_⟩
        rw [e0, e, nI_1, Bool.true_and]
        exact ⟨fun h => absurd h h47, fun _ => ih (i + 1) (ltr (B i)) true (by omega)⟩
theorem c130 (hD : Dm n B MI) {f t : Nat} (hf : f ≤ t) (ht : t ≤ n) : xm_Ev xz 130 [.ref 45, .int (nI f), .int (nI t)] (xM MI ML Q) (fun r => r = (some (.int (bI (cn B f t))), xM MI ML Q)) := by
  have hn := hD.1
  refine xm_in (xb130_0 (pk_le t f (fun h => ?_) (fun h => ?_)))
  · have : t = f := by omega
    subst this
    have e : cn B t t = (false && cnF B 0 t false) := by
      unfold cn
      rw [Nat.sub_self, Bool.false_and, cnF, Bool.and_false]
    rw [e]
    exact l130 hD ht 0 t false false (by omega)
  · rw [pk_sub hf]
    unfold cn
    refine pk_lt 16 (t - f) (fun h => ?_) (fun h => ?_)
    · rw [decide_eq_false (by omega)]
      exact l130 hD ht (t - f) f false false (by omega)
    · rw [decide_eq_true h]
      exact l130 hD ht (t - f) f true false (by omega)
theorem c129 (hD : Dm n B MI) {t : Nat} (ht : t ≤ n) : ∀ (d i : Nat), i + d = t → xm_Ev xz 129 [.ref 45, .int (nI i), .int (nI t)] (xM MI ML Q) (fun r => r = (some (.int (nI (sc B d i))), xM MI ML Q)) := by
  have hn := hD.1
  have lp : ∀ (d i : Nat), i + d = t → xq129 (fun r => r = (some (.int (nI (sc B d i))), xM MI ML Q)) (2, [some (.ref 45), none, some (.int (nI t)), some (.int (nI i))], [], xM MI ML Q, 0, 0) := by
    intro d
    induction d with
    | zero =>
      intro i hi
      exact xb129_2 (pk_le t i (fun _ => rfl) (fun h => absurd h (by omega)))
    | succ d ih =>
      intro i hi
      refine xb129_2 (pk_le t i (fun h => absurd h (by omega)) (fun _ => ⟨vp_in_nI (by omega) (by decide), ?_⟩))
      rw [nI_clamp (by omega), hD.2.2 i (by omega), nI_1]
      refine ⟨fun h => ?_, fun h => ?_⟩
      · rw [sc, if_pos h]
      · rw [sc, if_neg h]
        exact ih (i + 1) (by omega)
  intro d i hi
  exact xm_in (xb129_0 (lp d i hi))
/-- the type's end on the scanner's side -/
theorem c34 (hD : Dr n B MI) {t : Nat} (ht : t ≤ n) : ∀ (d f : Nat), f + d = t → xm_Ev xz 34 [.ref 2, .int (nI f), .int (nI t)] (xM MI ML Q) (fun r => r = (some (.int (oI (te B d f))), xM MI ML Q)) := by
  have hn := hD.1
  have lp : ∀ (a S : Nat) (v : Int32), a < t → (S < t → cn B (a + 1) S = true → v = nI (S + 1)) → (¬ (S < t ∧ cn B (a + 1) S = true) → v = -1) → ∀ (d e : Nat), e + d = t → a + 1 ≤ e → sc B d e = S → xq34 (fun r => r = (some (.int v), xM MI ML Q)) (64, [some (.ref 2), none, some (.int (nI t)), some (.int (nI a)), some (.int (nI e))], [], xM MI ML Q, 0, 0) := by
    intro a S v ha v1 v2 d
    induction d with
    | zero =>
      intro e he h1 hS
      have : S = e := hS.symm
      subst this
      exact xb34_64 (pk_le t S (fun _ => pk_le t S (fun _ => by rw [v2 (by omega)]) (fun h => absurd h (by omega))) (fun h => absurd h (by omega)))
    | succ d ih =>
      intro e he h1 hS
      refine xb34_64 (pk_le t e (fun h => absurd h (by omega)) (fun _ => ⟨_, c32 hD (i := e) (by omega), ?_⟩))
      rintro _ rfl
      refine xb34_76 ⟨fun h => pk_le t e (fun h => absurd h (by omega)) (fun _ => ?_), fun h => ?_⟩
      · rw [sc, if_pos h] at hS
        subst hS
        rw [nI_1]
        refine ⟨_, c31 hD (f := a + 1) (t := e) h1 (by omega), ?_⟩
        rintro _ rfl
        refine xb34_102 ⟨fun h => ?_, fun h => ?_⟩
        · rw [bI_0] at h
          rw [v2 (fun q => by rw [q.2] at h; cases h)]
        · rw [bI_ne] at h
          rw [v1 (by omega) h, nI_1]
      · rw [sc, if_neg h] at hS
        rw [nI_1]
        exact ih (e + 1) (by omega) (by omega) hS
  have l2 : ∀ (d f : Nat), f + d = t → xq34 (fun r => r = (some (.int (oI (te B d f))), xM MI ML Q)) (2, [some (.ref 2), none, some (.int (nI t)), some (.int (nI f)), none], [], xM MI ML Q, 0, 0) := by
    intro d
    induction d with
    | zero =>
      intro f hf
      exact xb34_2 (pk_le t f (fun _ => pk_lt f t (fun h => absurd h (by omega)) (fun _ => rfl)) (fun h => absurd h (by omega)))
    | succ d ih =>
      intro f hf
      refine xb34_2 (pk_le t f (fun h => absurd h (by omega)) (fun _ => ⟨_, c32 hD (i := f) (by omega), ?_⟩))
      rintro _ rfl
      refine xb34_12 ⟨fun h91 => ?_, fun h91 => pk_lt f t (fun _ => ⟨_, c32 hD (i := f) (by omega), ?_⟩) (fun h => absurd h (by omega))⟩
      · rw [te, if_pos h91, nI_1]
        exact ih (f + 1) (by omega)
      · rintro _ rfl
        rw [te, if_neg h91]
        refine xb34_35 ⟨fun h76 => ?_, fun h76 => ⟨_, c32 hD (i := f) (by omega), ?_⟩⟩
        · have hp : ¬ pty (B f) = true := by rw [h76]; decide
          rw [if_neg hp, nI_1]
          refine lp f (sc B d (f + 1)) _ (by omega) (fun h1 h2 => ?_) (fun h1 => ?_) d (f + 1) (by omega) (Nat.le_refl _) rfl
          · rw [if_pos ⟨h76, by omega, h2⟩]
            rfl
          · rw [if_neg (fun q => h1 ⟨by omega, q.2.2⟩)]
            rfl
        · rintro _ rfl
          refine xb34_45 ⟨_, c35 _, ?_⟩
          rintro _ rfl
          refine xb34_48 ⟨fun h => ?_, fun h => ?_⟩
          · rw [bI_0] at h
            rw [if_neg (by rw [h]; decide), if_neg (fun q => h76 q.1)]
            rfl
          · rw [bI_ne] at h
            rw [if_pos h, nI_1]
            rfl
  intro d f hf
  exact xm_in (xb34_0 (l2 d f hf))
theorem c127 (hD : Dm n B MI) {t : Nat} (ht : t ≤ n) : ∀ (d f : Nat), f + d = t → xm_Ev xz 127 [.ref 45, .int (nI f), .int (nI t)] (xM MI ML Q) (fun r => r = (some (.int (oI (te B d f))), xM MI ML Q)) := by
  have hn := hD.1
  have l2 : ∀ (d f : Nat), f + d = t → xq127 (fun r => r = (some (.int (oI (te B d f))), xM MI ML Q)) (2, [some (.ref 45), none, some (.int (nI t)), some (.int (nI f)), none], [], xM MI ML Q, 0, 0) := by
    intro d
    induction d with
    | zero =>
      intro f hf
      exact xb127_2 (pk_le t f (fun _ => pk_lt f t (fun h => absurd h (by omega)) (fun _ => rfl)) (fun h => absurd h (by omega)))
    | succ d ih =>
      intro f hf
      have e0 : MI 46 (nI f).toNatClampNeg = B f := by rw [nI_clamp (by omega), hD.2.2 f (by omega)]
      refine xb127_2 (pk_le t f (fun h => absurd h (by omega)) (fun _ => ⟨vp_in_nI (by omega) (by decide), ?_⟩))
      rw [e0]
      refine ⟨fun h91 => ?_, fun h91 => pk_lt f t (fun _ => ⟨vp_in_nI (by omega) (by decide), _, c128 _, ?_⟩) (fun h => absurd h (by omega))⟩
      · rw [te, if_pos h91, nI_1]
        exact ih (f + 1) (by omega)
      · rintro _ rfl
        rw [te, if_neg h91]
        refine xb127_40 ⟨fun h => ⟨_, c129 hD ht (d + 1) f (by omega), ?_⟩, fun h => ?_⟩
        · rintro _ rfl
          rw [bI_0] at h
          refine xb127_53 ⟨vp_in_nI (by omega) (by decide), ?_⟩
          rw [e0, if_neg (by rw [h]; decide)]
          refine ⟨fun h76 => ?_, fun h76 => ?_⟩
          · have e1 : sc B (d + 1) f = sc B d (f + 1) := by rw [sc, if_neg (by rw [h76]; decide)]
            have g := sc_ge B d (f + 1)
            rw [e1]
            refine pk_le t (sc B d (f + 1)) (fun h => ?_) (fun h => ?_)
            · rw [if_neg (fun q => by omega)]
              rfl
            · rw [nI_1]
              refine ⟨_, c130 hD (f := f + 1) (t := sc B d (f + 1)) (by omega) (by omega), ?_⟩
              rintro _ rfl
              refine xb127_81 ⟨fun h => ?_, fun h => ?_⟩
              · rw [bI_0] at h
                rw [if_neg (fun q => by rw [q.2.2] at h; cases h)]
                rfl
              · rw [bI_ne] at h
                rw [if_pos ⟨h76, by omega, h⟩, nI_1]
                rfl
          · rw [if_neg (fun q => h76 q.1)]
            rfl
        · rw [bI_ne] at h
          rw [if_pos h, nI_1]
          rfl
  intro d f hf
  exact xm_in (xb127_0 (l2 d f hf))
end GR
