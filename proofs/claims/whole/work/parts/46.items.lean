theorem up_s {α : Type} (f : Nat → Nat → α) (k i : Nat) (v : α) : xm_up f k i v k i = v := by rw [xu, if_pos ⟨rfl, rfl⟩]
theorem up_n {α : Type} {f : Nat → Nat → α} {k i a j : Nat} {v : α} (h : ¬ (a = k ∧ j = i)) : xm_up f k i v a j = f a j := by rw [xu, if_neg h]
/-- a number of k bytes -/
def num (b : Nat → Nat) : Nat → Nat → Nat
  | 0, _ => 0
  | k + 1, a => num b k a * 256 + b (a + k)
theorem num_lt {b : Nat → Nat} (hb : ∀ i, b i < 256) : ∀ k a, num b k a < 256 ^ k
  | 0, a => Nat.one_pos
  | k + 1, a => by
    have h1 := num_lt hb k a
    have h2 := hb (a + k)
    rw [num, Nat.pow_succ]
    omega
theorem or_num (x c m : Nat) (hc : c < 256) : ((x <<< 8) % 2 ^ m ||| c % 2 ^ m) = (x * 256 + c) % 2 ^ m := by
  rw [← Nat.or_mod_two_pow, ← Nat.shiftLeft_add_eq_or_of_lt hc, Nat.shiftLeft_eq]
theorem num_or (x c : Nat) (hc : c < 256) : (nI x <<< ((8 : Int32) &&& (31 : Int32))) ||| nI c = nI (x * 256 + c) := by
  apply Int32.toBitVec_inj.mp
  apply BitVec.eq_of_toNat_eq
  have e1 : (nI x <<< ((8 : Int32) &&& (31 : Int32))).toBitVec.toNat = (x <<< 8) % 2 ^ 32 := by
    rw [pk_shl (nI x) ((8 : Int32) &&& (31 : Int32)) 8 (by decide)]
    show (x % 2 ^ 32) * 2 ^ 8 % 2 ^ 32 = _
    rw [Nat.shiftLeft_eq]
    omega
  rw [Int32.toBitVec_or, BitVec.toNat_or, e1]
  show (x <<< 8) % 2 ^ 32 ||| (c % 2 ^ 32) = (x * 256 + c) % 2 ^ 32
  exact or_num x c 32 hc
theorem num_orL (x c : Nat) (hc : c < 256) : (lN x <<< (Int32.toInt64 (8 : Int32) &&& (63 : Int64))) ||| (Int32.toInt64 (nI c)) = lN (x * 256 + c) := by
  have e0 : Int32.toInt64 (nI c) = lN c := nI_l (by omega)
  have e2 : (Int32.toInt64 (8 : Int32) &&& (63 : Int64)) = 8 := by decide
  rw [e0, e2]
  apply Int64.toBitVec_inj.mp
  apply BitVec.eq_of_toNat_eq
  have e1 : (lN x <<< (8 : Int64)).toBitVec.toNat = (x <<< 8) % 2 ^ 64 := by
    show ((BitVec.ofNat 64 x) <<< ((8 : Int64).toBitVec.smod 64)).toNat = _
    have e3 : ((8 : Int64).toBitVec.smod 64) = 8#64 := by decide
    rw [e3]
    show ((BitVec.ofNat 64 x) <<< (8#64).toNat).toNat = _
    rw [BitVec.toNat_shiftLeft]
    show ((x % 2 ^ 64) <<< 8) % 2 ^ 64 = _
    rw [Nat.shiftLeft_eq, Nat.shiftLeft_eq]
    omega
  rw [Int64.toBitVec_or, BitVec.toNat_or, e1]
  show (x <<< 8) % 2 ^ 64 ||| (c % 2 ^ 64) = (x * 256 + c) % 2 ^ 64
  exact or_num x c 64 hc
theorem l2i (x : Nat) : Int64.toInt32 (lN x) = nI x := Int64.toInt32_ofNat
abbrev bBy (b : Nat → Nat) : Nat → Int32 := fun i => nI (b i)
/-- how the reading stands: at a place, or a fault -/
abbrev St := Except Nat Nat
def itm (n k : Nat) : St → St
  | .ok a => if a + k ≤ n then .ok (a + k) else .error a
  | .error p => .error p
def vl (b : Nat → Nat) (n k : Nat) : St → Nat
  | .ok a => if a + k ≤ n then num b k a else 0
  | .error _ => 0
def dmd (r : Bool) (p : Nat) : St → St
  | .ok a => if r = true then .ok a else .error p
  | .error q => .error q
def atS : St → Nat
  | .ok a => a
  | .error _ => 0
/-- the reading on the scanner's side, and on the reference's -/
def SSf (st : St) (a : Nat) (x : Int32) : Prop := match st with
  | .ok a' => a' = a ∧ x = -1
  | .error p => x = nI p ∧ p ≤ 500
def SS (n : Nat) (st : St) (MI : Nat → Nat → Int32) : Prop := ∃ a, MI 1 1 = nI a ∧ a ≤ n ∧ SSf st a (MI 1 2)
def SM (n : Nat) (st : St) (MI : Nat → Nat → Int32) : Prop := ∃ a, MI 45 2 = nI a ∧ a ≤ n ∧ SSf st a (MI 45 3)
theorem SSf.ok {a a' : Nat} {x : Int32} (h : SSf (.ok a) a' x) : a = a' ∧ x = -1 := h
theorem SSf.er {p a' : Nat} {x : Int32} (h : SSf (.error p) a' x) : x = nI p ∧ p ≤ 500 := h
theorem vl_lt {b : Nat → Nat} (hb : ∀ i, b i < 256) (n k : Nat) (st : St) : vl b n k st < 256 ^ k := by
  unfold vl
  split
  · split
    · exact num_lt hb k _
    · exact Nat.pow_pos (by decide)
  · exact Nat.pow_pos (by decide)
/-- all but the place and the fault are as they were -/
def R1 (MI MI' : Nat → Nat → Int32) : Prop := ∀ a j, ¬ (a = 1 ∧ j ≤ 2) → MI' a j = MI a j
def M1 (MI MI' : Nat → Nat → Int32) : Prop := ∀ a j, ¬ (a = 45 ∧ 2 ≤ j ∧ j ≤ 3) → MI' a j = MI a j
theorem R1.rf (MI : Nat → Nat → Int32) : R1 MI MI := fun _ _ _ => rfl
theorem M1.rf (MI : Nat → Nat → Int32) : M1 MI MI := fun _ _ _ => rfl
theorem R1.tr {A B C : Nat → Nat → Int32} (h : R1 A B) (h' : R1 B C) : R1 A C := fun a j q => (h' a j q).trans (h a j q)
theorem M1.tr {A B C : Nat → Nat → Int32} (h : M1 A B) (h' : M1 B C) : M1 A C := fun a j q => (h' a j q).trans (h a j q)
theorem R1.dr {A B : Nat → Nat → Int32} (h : R1 A B) {n : Nat} {c : Nat → Int32} (hD : Dr n c A) : Dr n c B := ⟨hD.1, (h 2 1 (by decide)).trans hD.2.1, fun i hi => (h 3 i (by omega)).trans (hD.2.2 i hi)⟩
theorem M1.dm {A B : Nat → Nat → Int32} (h : M1 A B) {n : Nat} {c : Nat → Int32} (hD : Dm n c A) : Dm n c B := ⟨hD.1, (h 45 1 (by decide)).trans hD.2.1, fun i hi => (h 46 i (by omega)).trans (hD.2.2 i hi)⟩
theorem SS.put {n a : Nat} {MI : Nat → Nat → Int32} {x y : Int32} {st : St} (h1 : x = nI a) (h2 : a ≤ n) (h3 : SSf st a y) : SS n st (xm_up (xm_up MI 1 1 x) 1 2 y) := ⟨a, by rw [up_n (by decide), up_s]; exact h1, h2, by rw [up_s]; exact h3⟩
section IT
variable {MI : Nat → Nat → Int32} {ML : Nat → Nat → Int64} {Q : Nat → Nat} {b : Nat → Nat} {n : Nat}
theorem c18 (hb : ∀ i, b i < 256) (hD : Dr n (bBy b) MI) {a k : Nat} (hk : a + k ≤ n) : xm_Ev xz 18 [.ref 2, .int (nI a), .int (nI k)] (xM MI ML Q) (fun r => r = (some (.int (nI (num b k a))), xM MI ML Q)) := by
  obtain ⟨h1, h2, h3⟩ := hD
  have lp : ∀ (d i : Nat), i + d = k → xq18 (fun r => r = (some (.int (nI (num b k a))), xM MI ML Q)) (21, [some (.ref 2), some (.int (nI a)), some (.int (nI k)), some (.int (nI (num b i a))), some (.int (nI i))], [], xM MI ML Q, 0, 0) := by
    intro d
    induction d with
    | zero =>
      intro i hi
      have : i = k := by omega
      subst this
      exact xb18_21 (pk_le i i (fun _ => rfl) (fun h => absurd h (by omega)))
    | succ d ih =>
      intro i hi
      refine xb18_21 (pk_le k i (fun h => absurd h (by omega)) (fun _ => ?_))
      rw [nI_add, nI_clamp (by omega), h3 (a + i) (by omega), num_or _ _ (hb _), nI_1]
      exact ⟨vp_in_nI (by omega) (by decide), ih (i + 1) (by omega)⟩
  refine xm_in (xb18_0 ⟨fun h => absurd h (nI_pos (by omega)), fun _ => ?_⟩)
  rw [h2, pk_sub (by omega)]
  exact pk_le k (n - a) (fun _ => lp k 0 (by omega)) (fun h => absurd h (by omega))
theorem c17 (hb : ∀ i, b i < 256) (hD : Dr n (bBy b) MI) {st : St} (hS : SS n st MI) {k : Nat} (hk : k ≤ 4) : xm_Ev xz 17 [.ref 1, .int (nI k)] (xM MI ML Q) (fun r => ∃ MI', r = (some (.int (nI (vl b n k st))), xM MI' ML Q) ∧ R1 MI MI' ∧ SS n (itm n k st) MI') := by
  obtain ⟨a, h1, h2, h3⟩ := hS
  have hn := hD.1
  cases st with
  | error p =>
    obtain ⟨q1, q2⟩ := h3.er
    refine xm_in (xb17_0 ⟨fun h => ?_, fun _ => ⟨MI, rfl, R1.rf MI, a, h1, h2, h3⟩⟩)
    rw [q1] at h
    exact absurd h (nI_nm1 (by omega))
  | ok a' =>
    obtain ⟨q1, q2⟩ := h3.ok
    subst q1
    refine xm_in (xb17_0 ⟨fun _ => ?_, fun h => absurd q2 h⟩)
    rw [hD.2.1, h1, pk_sub h2]
    refine pk_le k (n - a') (fun h => ?_) (fun h => ?_)
    · rw [nI_add, pk_sub (by omega), Nat.add_sub_cancel]
      have r1 : R1 MI (xm_up MI 1 1 (nI (a' + k))) := fun x j q => up_n (by omega)
      refine ⟨_, c18 hb (r1.dr hD) (a := a') (k := k) (by omega), ?_⟩
      rintro _ rfl
      refine xb17_60 ⟨_, ?_, r1, a' + k, up_s _ _ _ _, by omega, ?_⟩
      · rw [vl, if_pos (by omega)]
      · rw [itm, if_pos (by omega), up_n (by decide)]
        exact ⟨rfl, q2⟩
    · refine ⟨xm_up MI 1 2 (nI a'), ?_, fun x j q => up_n (by omega), a', by rw [up_n (by decide)]; exact h1, h2, ?_⟩
      · rw [vl, if_neg (by omega)]
        rfl
      · rw [itm, if_neg (by omega), up_s]
        exact ⟨rfl, by omega⟩
theorem c19 {st : St} (hS : SS n st MI) {r : Bool} {p : Nat} {x : Int32} (hx : ∀ a, st = .ok a → r = false → x = nI p ∧ p ≤ 500) : xm_Ev xz 19 [.ref 1, .int (bI r), .int x] (xM MI ML Q) (fun o => ∃ MI', o = (none, xM MI' ML Q) ∧ R1 MI MI' ∧ SS n (dmd r p st) MI') := by
  obtain ⟨a, h1, h2, h3⟩ := hS
  cases st with
  | error q =>
    obtain ⟨q1, q2⟩ := h3.er
    refine xm_in (xb19_0 ⟨fun _ => ⟨fun h => ?_, fun _ => ⟨MI, rfl, R1.rf MI, a, h1, h2, h3⟩⟩, fun _ => ⟨MI, rfl, R1.rf MI, a, h1, h2, h3⟩⟩)
    rw [q1] at h
    exact absurd h (nI_nm1 (by omega))
  | ok a' =>
    obtain ⟨q1, q2⟩ := h3.ok
    subst q1
    refine xm_in (xb19_0 ⟨fun h => ⟨fun _ => ?_, fun h => absurd q2 h⟩, fun h => ⟨MI, rfl, R1.rf MI, a', h1, h2, ?_⟩⟩)
    · rw [bI_0] at h
      subst h
      obtain ⟨e1, e2⟩ := hx a' rfl rfl
      refine ⟨_, rfl, fun x j q => up_n (by omega), a', by rw [up_n (by decide)]; exact h1, h2, ?_⟩
      rw [up_s]
      exact ⟨e1, e2⟩
    · rw [bI_ne] at h
      subst h
      exact ⟨rfl, q2⟩
theorem c120 {st : St} (hS : SM n st MI) {r : Bool} {p : Nat} {x : Int32} (hx : ∀ a, st = .ok a → r = true → x = nI p ∧ p ≤ 500) : xm_Ev xz 120 [.ref 45, .int x, .int (bI r)] (xM MI ML Q) (fun o => ∃ MI', o = (none, xM MI' ML Q) ∧ M1 MI MI' ∧ SM n (dmd (!r) p st) MI') := by
  obtain ⟨a, h1, h2, h3⟩ := hS
  have same : ∃ MI', ((none, xM (xm_up MI 45 3 (MI 45 3)) ML Q) : xm_R) = (none, xM MI' ML Q) ∧ M1 MI MI' ∧ SM n st MI' := ⟨_, rfl, fun x j q => up_n (by omega), a, by rw [up_n (by decide)]; exact h1, h2, by rw [up_s]; exact h3⟩
  cases st with
  | error q =>
    obtain ⟨q1, q2⟩ := h3.er
    refine xm_in (xb120_0 ⟨fun _ => same, fun _ => ⟨fun _ => same, fun h => ?_⟩⟩)
    rw [q1] at h
    exact absurd (nI_pos' (by omega)) h
  | ok a' =>
    obtain ⟨q1, q2⟩ := h3.ok
    subst q1
    refine xm_in (xb120_0 ⟨fun h => ?_, fun h => ⟨fun h => ?_, fun _ => ?_⟩⟩)
    · rw [bI_0] at h
      subst h
      exact same
    · rw [q2] at h
      exact absurd h (by decide)
    · rw [bI_ne] at h
      subst h
      obtain ⟨e1, e2⟩ := hx a' rfl rfl
      refine ⟨_, rfl, fun x j q => up_n (by omega), a', by rw [up_n (by decide)]; exact h1, h2, ?_⟩
      rw [up_s]
      exact ⟨e1, e2⟩
theorem c119 (hb : ∀ i, b i < 256) (hD : Dm n (bBy b) MI) {st : St} (hS : SM n st MI) {k : Nat} (hk : k ≤ 4) : xm_Ev xz 119 [.ref 45, .int (nI k)] (xM MI ML Q) (fun r => ∃ MI', r = (some (.long (lN (vl b n k st))), xM MI' ML Q) ∧ M1 MI MI' ∧ SM n (itm n k st) MI') := by
  have hS' := hS
  obtain ⟨a, h1, h2, h3⟩ := hS
  have hn := hD.1
  cases st with
  | error p =>
    obtain ⟨q1, q2⟩ := h3.er
    refine xm_in (xb119_0 ⟨fun _ => ⟨_, c120 (r := true) (p := p) (x := MI 45 2) hS' (fun _ h => by cases h), ?_⟩, fun h => ?_⟩)
    · rintro _ ⟨M', rfl, m1, m2⟩
      exact xb119_29 ⟨M', rfl, m1, m2⟩
    · rw [q1] at h
      exact absurd (nI_pos' (by omega)) h
  | ok a' =>
    obtain ⟨q1, q2⟩ := h3.ok
    subst q1
    have lp : a' + k ≤ n → ∀ (d i : Nat), i + d = k → xq119 (fun r => ∃ MI', r = (some (.long (lN (vl b n k (.ok a')))), xM MI' ML Q) ∧ M1 MI MI' ∧ SM n (itm n k (.ok a')) MI') (36, [some (.ref 45), some (.int (nI k)), some (.long (lN (num b i a'))), none, some (.int (nI i))], [], xM MI ML Q, 0, 0) := by
      intro hf d
      induction d with
      | zero =>
        intro i hi
        have : i = k := by omega
        subst this
        refine xb119_36 (pk_le i i (fun _ => ⟨xm_up MI 45 2 (MI 45 2 + nI i), ?_, ?_, a' + i, ?_, hf, ?_⟩) (fun h => absurd h (by omega)))
        · rw [vl, if_pos hf]
        · exact fun x j q => up_n (by omega)
        · rw [up_s, h1, nI_add]
        · rw [itm, if_pos hf, up_n (by decide)]
          exact ⟨rfl, q2⟩
      | succ d ih =>
        intro i hi
        refine xb119_36 (pk_le k i (fun h => absurd h (by omega)) (fun _ => ?_))
        rw [h1, nI_add, nI_clamp (by omega), hD.2.2 (a' + i) (by omega), num_orL _ _ (hb _), nI_1]
        exact ⟨vp_in_nI (by omega) (by decide), ih (i + 1) (by omega)⟩
    refine xm_in (xb119_0 ⟨fun h => ?_, fun _ => ?_⟩)
    · rw [q2] at h
      exact absurd h (by decide)
    · rw [hD.2.1, h1, nI_add]
      refine pk_le (a' + k) n (fun h => lp h k 0 (by omega)) (fun h => ⟨_, c120 (r := true) (p := a') (x := nI a') hS' (fun _ _ _ => ⟨rfl, by omega⟩), ?_⟩)
      rintro _ ⟨M', rfl, m1, m2⟩
      refine xb119_29 ⟨M', ?_, m1, ?_⟩
      · rw [vl, if_neg (by omega)]
        rfl
      · rw [itm, if_neg (by omega)]
        exact m2
theorem c121 (hb : ∀ i, b i < 256) (hD : Dm n (bBy b) MI) {st : St} (hS : SM n st MI) : xm_Ev xz 121 [.ref 45] (xM MI ML Q) (fun r => ∃ MI', r = (some (.int (nI (vl b n 2 st))), xM MI' ML Q) ∧ M1 MI MI' ∧ SM n (itm n 2 st) MI') := by
  refine xm_in (xb121_0 ⟨_, c119 hb hD hS (k := 2) (by decide), ?_⟩)
  rintro _ ⟨M', rfl, m1, m2⟩
  refine xb121_5 ⟨M', ?_, m1, m2⟩
  rw [l2i]
end IT
