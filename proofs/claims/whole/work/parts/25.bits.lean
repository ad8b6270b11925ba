theorem ts_nf {x : Bool} (h : ¬ x = false) : x = true := by cases x <;> first | rfl | exact absurd rfl h
theorem ts_nt {x : Bool} (h : ¬ x = true) : x = false := by cases x <;> first | rfl | exact absurd rfl h
theorem ts_bit {w : Int64} {s : UInt64} {j : Nat} (hj : j < 64) (hs : s.toNat = j) : ((w.toUInt64 >>> s).toInt64 &&& 1) = 0 ↔ w.toBitVec.getLsbD j = false := by
  have e : (w.toUInt64 >>> s).toInt64.toBitVec = w.toBitVec >>> j := by
    apply BitVec.eq_of_toNat_eq
    show (w.toUInt64 >>> s).toNat = _
    rw [UInt64.toNat_shiftRight, hs, Nat.mod_eq_of_lt hj, BitVec.toNat_ushiftRight]
    rfl
  rw [← Int64.toBitVec_inj, Int64.toBitVec_and, e]
  show w.toBitVec >>> j &&& 1#64 = 0#64 ↔ _
  constructor
  · intro h
    have t := congrArg (fun x => x.getLsbD 0) h
    simpa using t
  · intro h
    apply BitVec.eq_of_getLsbD_eq
    intro i hi
    cases i with
    | zero => simp [h]
    | succ i => simp
theorem wb_tb (n : Nat) : (lN n).toBitVec = BitVec.ofNat 64 n := rfl
theorem wb_inj {a b : Int64} (h : a.toBitVec = b.toBitVec) : a = b := Int64.toBitVec_inj.mp h
theorem wb_tn {n : Nat} (h : n < 2 ^ 64) : (lN n).toBitVec.toNat = n := by rw [wb_tb, BitVec.toNat_ofNat, Nat.mod_eq_of_lt h]
theorem wb_of (x : Int64) : ∃ n, n < 2 ^ 64 ∧ x = lN n := ⟨x.toBitVec.toNat, x.toBitVec.isLt, wb_inj (by rw [wb_tb]; simp)⟩
theorem wb_of32 (x : Int32) : ∃ n, n < 2 ^ 32 ∧ x = nI n := ⟨x.toBitVec.toNat, x.toBitVec.isLt, Int32.toBitVec_inj.mp (by show _ = BitVec.ofNat 32 _; simp)⟩
theorem wb_c : ∀ k, k < 64 → ((nI k).toInt64 &&& 63) = lN k := by decide +kernel
theorem wb_cu : ∀ k, k < 64 → ((nI k).toInt64.toUInt64 &&& Int64.toUInt64 63) = UInt64.ofNat k := by decide +kernel
theorem wb_sm : ∀ k, k < 64 → (BitVec.ofNat 64 k).smod 64 = BitVec.ofNat 64 k := by decide +kernel
theorem wb_pw {a b : Nat} (h : a ≤ b) : 2 ^ b = 2 ^ a * 2 ^ (b - a) := by rw [← Nat.pow_add]; congr 1; omega
theorem wb_lt2 {a b : Nat} (h : a < b) : 2 ^ a < 2 ^ b := Nat.pow_lt_pow_right (by decide) h
theorem wb_mod (n : Nat) : lN n = lN (n % 2 ^ 64) := wb_inj (by rw [wb_tb, wb_tb]; apply BitVec.eq_of_toNat_eq; rw [BitVec.toNat_ofNat, BitVec.toNat_ofNat, Nat.mod_mod])
theorem wb_shl (n : Nat) {k : Nat} (hk : k < 64) : lN n <<< ((nI k).toInt64 &&& 63) = lN (n * 2 ^ k) := by
  rw [wb_c k hk]
  apply wb_inj
  rw [Int64.toBitVec_shiftLeft, wb_tb, wb_tb, wb_tb, wb_sm k hk]
  apply BitVec.eq_of_toNat_eq
  rw [BitVec.shiftLeft_eq', BitVec.toNat_shiftLeft, BitVec.toNat_ofNat, BitVec.toNat_ofNat, BitVec.toNat_ofNat, Nat.mod_eq_of_lt (show k < 2 ^ 64 by omega), Nat.shiftLeft_eq, Nat.mul_mod, Nat.mod_mod, ← Nat.mul_mod]
theorem wb_and {a b : Nat} (ha : a < 2 ^ 64) (hb : b < 2 ^ 64) : lN a &&& lN b = lN (a &&& b) := by
  apply wb_inj
  rw [Int64.toBitVec_and, wb_tb, wb_tb, wb_tb]
  apply BitVec.eq_of_toNat_eq
  rw [BitVec.toNat_and, BitVec.toNat_ofNat, BitVec.toNat_ofNat, BitVec.toNat_ofNat, Nat.mod_eq_of_lt ha, Nat.mod_eq_of_lt hb, Nat.mod_eq_of_lt (Nat.and_lt_two_pow _ hb)]
theorem wb_mask {n k : Nat} (hn : n < 2 ^ 64) (hk : k < 64) : lN n &&& lN (2 ^ k - 1) = lN (n % 2 ^ k) := by
  rw [wb_and hn (by have := wb_lt2 hk; omega), Nat.and_two_pow_sub_one_eq_mod]
theorem wb_a1 {n : Nat} (hn : n < 2 ^ 64) : lN n &&& 1 = lN (n % 2) := wb_mask (k := 1) hn (by decide)
theorem hasB_ext {w v : Int64} (h : ∀ b, b < 64 → hasB w b = hasB v b) : w = v := wb_inj (BitVec.eq_of_getLsbD_eq (fun i hi => h i hi))
theorem hasB_or (w v : Int64) (b : Nat) : hasB (w ||| v) b = (hasB w b || hasB v b) := by
  unfold hasB
  rw [Int64.toBitVec_or, BitVec.getLsbD_or]
theorem hasB_and (w v : Int64) (b : Nat) : hasB (w &&& v) b = (hasB w b && hasB v b) := by
  unfold hasB
  rw [Int64.toBitVec_and, BitVec.getLsbD_and]
theorem hasB_ge {w : Int64} {b : Nat} (h : 64 ≤ b) : hasB w b = false := BitVec.getLsbD_of_ge _ _ h
theorem hasB_lt {w : Int64} {b : Nat} (h : hasB w b = true) : b < 64 := by
  refine Nat.lt_of_not_le fun q => ?_
  rw [hasB_ge q] at h
  cases h
theorem hasB_0 (b : Nat) : hasB 0 b = false := by
  unfold hasB
  show (0#64).getLsbD b = false
  simp
theorem hasB_not {w : Int64} {b : Nat} (h : b < 64) : hasB (w ^^^ (-1)) b = !hasB w b := by
  unfold hasB
  rw [Int64.toBitVec_xor, BitVec.getLsbD_xor, show (-1 : Int64).toBitVec = BitVec.allOnes 64 by decide, BitVec.getLsbD_allOnes, decide_eq_true h]
  cases w.toBitVec.getLsbD b <;> rfl
/-- the set of one -/
def one (k : Nat) : Int64 := (1 : Int64) <<< (Int32.toInt64 (nI k) &&& (63 : Int64))
theorem hasB_one {k : Nat} (hk : k < 64) (b : Nat) : hasB (one k) b = decide (b = k) := by
  unfold one hasB
  rw [show (1 : Int64) = lN 1 from rfl, wb_shl 1 hk, wb_tb, Nat.one_mul]
  have : BitVec.ofNat 64 (2 ^ k) = BitVec.twoPow 64 k := by
    apply BitVec.eq_of_toNat_eq
    rw [BitVec.toNat_twoPow, BitVec.toNat_ofNat]
  rw [this, BitVec.getLsbD_twoPow]
  by_cases h : b = k
  · subst h
    simp [hk]
  · simp [h, Ne.symm h]
theorem and1 (x : Int64) : x &&& 1 = 0 ∨ x &&& 1 = 1 := by
  obtain ⟨n, hn, rfl⟩ := wb_of x
  rw [wb_a1 hn]
  rcases Nat.mod_two_eq_zero_or_one n with h | h <;> rw [h]
  · exact Or.inl rfl
  · exact Or.inr rfl
theorem bit0 {w : Int64} {k : Nat} (hk : k < 64) : ((UInt64.toInt64 (Int64.toUInt64 w >>> (Int64.toUInt64 (Int32.toInt64 (nI k)) &&& Int64.toUInt64 63))) &&& (1 : Int64)) = 0 ↔ hasB w k = false := by
  rw [wb_cu k hk]
  exact ts_bit hk (by rw [UInt64.toNat_ofNat']; omega)
theorem bit1 {w : Int64} {k : Nat} (hk : k < 64) : ((UInt64.toInt64 (Int64.toUInt64 w >>> (Int64.toUInt64 (Int32.toInt64 (nI k)) &&& Int64.toUInt64 63))) &&& (1 : Int64)) = 1 ↔ hasB w k = true := by
  rcases and1 (UInt64.toInt64 (Int64.toUInt64 w >>> (Int64.toUInt64 (Int32.toInt64 (nI k)) &&& Int64.toUInt64 63))) with h | h
  · rw [h]
    have := (bit0 hk).mp h
    rw [this]
    constructor <;> intro q
    · exact absurd q (by decide)
    · cases q
  · rw [h]
    refine ⟨fun _ => ?_, fun _ => rfl⟩
    refine ts_nf fun q => ?_
    have := (bit0 hk).mpr q
    rw [h] at this
    exact absurd this (by decide)
theorem c74 {MI : Nat → Nat → Int32} {ML : Nat → Nat → Int64} {Q : Nat → Nat} (w : Int64) {k : Nat} (hk : k < 64) : xm_Ev xz 74 [.long w, .int (nI k)] (xM MI ML Q) (fun r => r = (some (.int (bI (hasB w k))), xM MI ML Q)) := by
  refine xm_in (xb74_0 ?_)
  rw [lg_cmp_eq, bit0 hk]
  refine ⟨fun h => ⟨Or.inl rfl, ?_⟩, fun h => ⟨Or.inr rfl, ?_⟩⟩
  · rw [h]; rfl
  · rw [ts_nf h]; rfl
theorem c155 {MI : Nat → Nat → Int32} {ML : Nat → Nat → Int64} {Q : Nat → Nat} (w : Int64) {k : Nat} (hk : k < 64) : xm_Ev xz 155 [.long w, .int (nI k)] (xM MI ML Q) (fun r => r = (some (.int (bI (hasB w k))), xM MI ML Q)) := by
  refine xm_in (xb155_0 ?_)
  rw [lg_cmp_eq, bit1 hk]
  refine ⟨fun h => ⟨Or.inr rfl, ?_⟩, fun h => ⟨Or.inl rfl, ?_⟩⟩
  · rw [h]; rfl
  · rw [ts_nt h]; rfl
/-- the least reflexive and transitive relation that holds E -/
def Cl (E : Nat → Nat → Prop) (n t : Nat) : Prop := ∀ S : Nat → Nat → Prop, (∀ a, S a a) → (∀ a b, E a b → S a b) → (∀ a b c, S a b → S b c → S a c) → S n t
theorem Cl.rf {E : Nat → Nat → Prop} (n : Nat) : Cl E n n := fun _ h1 _ _ => h1 n
theorem Cl.ed {E : Nat → Nat → Prop} {n t : Nat} (h : E n t) : Cl E n t := fun _ _ h2 _ => h2 n t h
theorem Cl.tr {E : Nat → Nat → Prop} {a b c : Nat} (h : Cl E a b) (h' : Cl E b c) : Cl E a c := fun S h1 h2 h3 => h3 a b c (h S h1 h2 h3) (h' S h1 h2 h3)
/-- Warshall, behind the stops below p: rows i < K, those that count by act, of the names nm i -/
def WI (K : Nat) (act : Nat → Prop) (nm : Nat → Nat) (E : Nat → Nat → Prop) (p : Nat) (r : Nat → Int64) : Prop :=
  (∀ i, i < K → act i → hasB (r i) (nm i) = true) ∧ (∀ i t, i < K → act i → E (nm i) t → hasB (r i) t = true) ∧ (∀ i t, i < K → act i → hasB (r i) t = true → Cl E (nm i) t) ∧ (∀ i, i < K → ¬ act i → r i = 0) ∧ ∀ m, m < p → m < K → act m → ∀ i t, i < K → act i → hasB (r i) (nm m) = true → hasB (r m) t = true → hasB (r i) t = true
theorem WI.skip {K : Nat} {act : Nat → Prop} {nm : Nat → Nat} {E : Nat → Nat → Prop} {p : Nat} {r : Nat → Int64} (h : WI K act nm E p r) (hp : ¬ act p) : WI K act nm E (p + 1) r := by
  obtain ⟨h1, h2, h3, h4, h5⟩ := h
  refine ⟨h1, h2, h3, h4, fun m hm hmK hma => ?_⟩
  by_cases e : m = p
  · subst e; exact absurd hma hp
  · exact h5 m (by omega) hmK hma
theorem WI.step {K : Nat} {act : Nat → Prop} {nm : Nat → Nat} {E : Nat → Nat → Prop} {p : Nat} {r r' : Nat → Int64} (h : WI K act nm E p r) (hp : p < K) (ha : act p) (hr : ∀ i, i < K → r' i = if hasB (r i) (nm p) = true then r i ||| r p else r i) : WI K act nm E (p + 1) r' := by
  obtain ⟨h1, h2, h3, h4, h5⟩ := h
  have e : ∀ i t, i < K → (hasB (r' i) t = true ↔ hasB (r i) t = true ∨ (hasB (r i) (nm p) = true ∧ hasB (r p) t = true)) := by
    intro i t hi
    rw [hr i hi]
    by_cases hc : hasB (r i) (nm p) = true
    · rw [if_pos hc, hasB_or, Bool.or_eq_true]
      constructor
      · rintro (q | q)
        · exact Or.inl q
        · exact Or.inr ⟨hc, q⟩
      · rintro (q | ⟨-, q⟩)
        · exact Or.inl q
        · exact Or.inr q
    · rw [if_neg hc]
      constructor
      · exact Or.inl
      · rintro (q | ⟨q, -⟩)
        · exact q
        · exact absurd q hc
  refine ⟨fun i hi hia => (e i _ hi).mpr (Or.inl (h1 i hi hia)), fun i t hi hia q => (e i t hi).mpr (Or.inl (h2 i t hi hia q)), fun i t hi hia q => ?_, fun i hi hia => ?_, fun m hm hmK hma i t hi hia q1 q2 => ?_⟩
  · rcases (e i t hi).mp q with q | ⟨q1, q2⟩
    · exact h3 i t hi hia q
    · exact (h3 i _ hi hia q1).tr (h3 p t hp ha q2)
  · rw [hr i hi, h4 i hi hia, hasB_0]
    rfl
  · rw [e i t hi]
    by_cases em : m = p
    · subst em
      have q1 : hasB (r i) (nm m) = true := by
        rcases (e i _ hi).mp q1 with q | ⟨q, -⟩ <;> exact q
      have q2 : hasB (r m) t = true := by
        rcases (e m _ hmK).mp q2 with q | ⟨-, q⟩ <;> exact q
      exact Or.inr ⟨q1, q2⟩
    · have hm' : m < p := by omega
      rcases (e i _ hi).mp q1 with a | ⟨a1, a2⟩ <;> rcases (e m _ hmK).mp q2 with b | ⟨b1, b2⟩
      · exact Or.inl (h5 m hm' hmK hma i t hi hia a b)
      · exact Or.inr ⟨h5 m hm' hmK hma i _ hi hia a b1, b2⟩
      · exact Or.inr ⟨a1, h5 m hm' hmK hma p t hp ha a2 b⟩
      · exact Or.inr ⟨a1, b2⟩
theorem WI.all {K : Nat} {act : Nat → Prop} {nm : Nat → Nat} {E : Nat → Nat → Prop} {r : Nat → Int64} (h : WI K act nm E K r) (hE : ∀ a b, E a b → ∃ i, i < K ∧ act i ∧ nm i = a) (hin : ∀ i j, i < K → j < K → act i → act j → nm i = nm j → i = j) {i t : Nat} (hi : i < K) (ha : act i) : hasB (r i) t = true ↔ Cl E (nm i) t := by
  obtain ⟨h1, h2, h3, h4, h5⟩ := h
  refine ⟨h3 i t hi ha, fun hc => ?_⟩
  have := hc (fun a b => (∀ j, j < K → act j → nm j = a → hasB (r j) b = true) ∧ ((∀ j, j < K → act j → nm j ≠ a) → a = b)) ?_ ?_ ?_
  · exact this.1 i hi ha rfl
  · intro a
    refine ⟨fun j hj hja e => ?_, fun _ => rfl⟩
    rw [← e]
    exact h1 j hj hja
  · intro a b hab
    refine ⟨fun j hj hja e => ?_, fun q => ?_⟩
    · subst e
      exact h2 j b hj hja hab
    · obtain ⟨i, i1, i2, i3⟩ := hE a b hab
      exact absurd i3 (q i i1 i2)
  · intro a b c hab hbc
    refine ⟨fun j hj hja e => ?_, fun q => ?_⟩
    · have q1 := hab.1 j hj hja e
      by_cases hb : ∃ m, m < K ∧ act m ∧ nm m = b
      · obtain ⟨m, m1, m2, m3⟩ := hb
        subst m3
        exact h5 m m1 m1 m2 j c hj hja q1 (hbc.1 m m1 m2 rfl)
      · have := hbc.2 (fun m m1 m2 m3 => hb ⟨m, m1, m2, m3⟩)
        rw [← this]
        exact q1
    · have e1 := hab.2 q
      subst e1
      exact hbc.2 q
