theorem cnt_s {p : Nat → Prop} {n : Nat} (h : p n) : cnt p (n + 1) = cnt p n + 1 := ci_pos h (cnt p n + 1) (cnt p n)
theorem cnt_n {p : Nat → Prop} {n : Nat} (h : ¬ p n) : cnt p (n + 1) = cnt p n := by
  show ci (p n) (cnt p n + 1) (cnt p n) = _
  exact ci_neg h _ _
theorem cnt_cg {p q : Nat → Prop} : ∀ n, (∀ i, i < n → (p i ↔ q i)) → cnt p n = cnt q n
  | 0, _ => rfl
  | n + 1, h => by
    have ih := cnt_cg n (fun i hi => h i (by omega))
    by_cases hp : p n
    · rw [cnt_s hp, cnt_s ((h n (by omega)).mp hp), ih]
    · rw [cnt_n hp, cnt_n (fun q => hp ((h n (by omega)).mpr q)), ih]
theorem cnt_none {p : Nat → Prop} : ∀ n, (∀ i, i < n → ¬ p i) → cnt p n = 0
  | 0, _ => rfl
  | n + 1, h => by rw [cnt_n (h n (by omega)), cnt_none n (fun i hi => h i (by omega))]
theorem cnt_trim {p : Nat → Prop} {k : Nat} (h : ∀ i, k ≤ i → ¬ p i) : ∀ d, cnt p (k + d) = cnt p k
  | 0 => rfl
  | d + 1 => by
    have := cnt_trim h d
    rw [← Nat.add_assoc, cnt_n (h _ (by omega)), this]
theorem cnt_low (p : Nat → Prop) : ∀ k, cnt p (k + 1) = cnt p 1 + cnt (fun i => p (i + 1)) k
  | 0 => rfl
  | k + 1 => by
    have ih := cnt_low p k
    by_cases hp : p (k + 1)
    · rw [cnt_s hp, cnt_s (p := fun i => p (i + 1)) hp, ih]; omega
    · rw [cnt_n hp, cnt_n (p := fun i => p (i + 1)) hp, ih]
theorem pop_cnt : ∀ k n, pop k n = cnt (fun b => Nat.testBit n b = true) k
  | 0, _ => rfl
  | k + 1, n => by
    rw [cnt_low]
    show n % 2 + pop k (n / 2) = _
    rw [pop_cnt k (n / 2)]
    have e : cnt (fun b => Nat.testBit n b = true) 1 = n % 2 := by
      rcases Nat.mod_two_eq_zero_or_one n with h | h
      · rw [cnt_n (p := fun b => Nat.testBit n b = true) (n := 0) (by simp [h]), h]; rfl
      · rw [cnt_s (p := fun b => Nat.testBit n b = true) (n := 0) (by simp [h]), h]; rfl
    rw [e]
    congr 1
    refine cnt_cg k fun i _ => ?_
    rw [Nat.testBit_succ]
theorem wshr {n k : Nat} (hn : n < 2 ^ 64) (hk : k < 64) {s : UInt64} (hs : s.toNat = k) : UInt64.toInt64 (Int64.toUInt64 (lN n) >>> s) = lN (n / 2 ^ k) := by
  apply wb_inj
  apply BitVec.eq_of_toNat_eq
  show (Int64.toUInt64 (lN n) >>> s).toNat = _
  have : n / 2 ^ k ≤ n := Nat.div_le_self _ _
  rw [UInt64.toNat_shiftRight, hs, Nat.mod_eq_of_lt hk, wb_tn (by omega), Nat.shiftRight_eq_div_pow]
  show (lN n).toBitVec.toNat / 2 ^ k = _
  rw [wb_tn hn]
theorem wadd (a b : Nat) : lN a + lN b = lN (a + b) := (Int64.ofNat_add a b).symm
theorem wsub {a b : Nat} (h : b ≤ a) : lN a - lN b = lN (a - b) := by
  have e : lN a = lN (a - b) + lN b := by rw [wadd]; congr 1; omega
  rw [e, Int64.add_sub_cancel]
theorem lI (n : Nat) : Int64.toInt32 (lN n) &&& (127 : Int32) = nI (n % 128) := by
  have e1 : Int64.toInt32 (lN n) = nI n := by
    apply Int32.toBitVec_inj.mp
    show (lN n).toBitVec.signExtend 32 = BitVec.ofNat 32 _
    rw [wb_tb]
    apply BitVec.eq_of_getLsbD_eq
    intro i hi
    rw [BitVec.getLsbD_signExtend, BitVec.getLsbD_ofNat, BitVec.getLsbD_ofNat, if_pos (by omega), decide_eq_true hi, decide_eq_true (show i < 64 by omega)]
    rfl
  rw [e1]
  apply Int32.toBitVec_inj.mp
  rw [Int32.toBitVec_and]
  show BitVec.ofNat 32 n &&& BitVec.ofNat 32 127 = BitVec.ofNat 32 (n % 128)
  rw [← BitVec.ofNat_and]
  congr 1
  exact Nat.and_two_pow_sub_one_eq_mod n 7
theorem c107 {MI : Nat → Nat → Int32} {ML : Nat → Nat → Int64} {Q : Nat → Nat} (w : Int64) : xm_Ev xz 107 [.long w] (xM MI ML Q) (fun z => z = (some (.int (nI (cnt (fun b => hasB w b = true) 64))), xM MI ML Q)) := by
  obtain ⟨n, hn, rfl⟩ := wb_of w
  obtain ⟨a, b, c, d, e, f, q1, q2, q3, q4, q5, q6, q7, q8, q9, r1, r2, r3, r4, r5⟩ := swar hn
  have hc : cnt (fun b => hasB (lN n) b = true) 64 = f % 128 := by
    rw [r5, pop_cnt]
    refine cnt_cg 64 fun i hi => ?_
    unfold hasB
    rw [wb_tb, BitVec.getLsbD_ofNat, decide_eq_true hi, Bool.true_and]
  rw [hc]
  have s1 : ∀ x, x < 2 ^ 64 → UInt64.toInt64 (Int64.toUInt64 (lN x) >>> (Int64.toUInt64 (Int32.toInt64 (1 : Int32)) &&& Int64.toUInt64 63)) = lN (x / 2) := fun x hx => wshr (k := 1) hx (by decide) (by decide)
  have s2 : ∀ x, x < 2 ^ 64 → UInt64.toInt64 (Int64.toUInt64 (lN x) >>> (Int64.toUInt64 (Int32.toInt64 (2 : Int32)) &&& Int64.toUInt64 63)) = lN (x / 4) := fun x hx => wshr (k := 2) hx (by decide) (by decide)
  have s4 : ∀ x, x < 2 ^ 64 → UInt64.toInt64 (Int64.toUInt64 (lN x) >>> (Int64.toUInt64 (Int32.toInt64 (4 : Int32)) &&& Int64.toUInt64 63)) = lN (x / 16) := fun x hx => wshr (k := 4) hx (by decide) (by decide)
  have s8 : ∀ x, x < 2 ^ 64 → UInt64.toInt64 (Int64.toUInt64 (lN x) >>> (Int64.toUInt64 (Int32.toInt64 (8 : Int32)) &&& Int64.toUInt64 63)) = lN (x / 256) := fun x hx => wshr (k := 8) hx (by decide) (by decide)
  have s16 : ∀ x, x < 2 ^ 64 → UInt64.toInt64 (Int64.toUInt64 (lN x) >>> (Int64.toUInt64 (Int32.toInt64 (16 : Int32)) &&& Int64.toUInt64 63)) = lN (x / 65536) := fun x hx => wshr (k := 16) hx (by decide) (by decide)
  have s32 : ∀ x, x < 2 ^ 64 → UInt64.toInt64 (Int64.toUInt64 (lN x) >>> (Int64.toUInt64 (Int32.toInt64 (32 : Int32)) &&& Int64.toUInt64 63)) = lN (x / 4294967296) := fun x hx => wshr (k := 32) hx (by decide) (by decide)
  have eA : lN n - (lN (n / 2) &&& (6148914691236517205 : Int64)) = lN a := by
    rw [show (6148914691236517205 : Int64) = lN 6148914691236517205 from rfl, wb_and (by omega) (by decide), wsub q1, q2]
  have eB : (lN a &&& (3689348814741910323 : Int64)) + (lN (a / 4) &&& (3689348814741910323 : Int64)) = lN b := by
    rw [show (3689348814741910323 : Int64) = lN 3689348814741910323 from rfl, wb_and q3 (by decide), wb_and (by omega) (by decide), wadd, q4]
  have eC : (lN b + lN (b / 16)) &&& (1085102592571150095 : Int64) = lN c := by
    rw [show (1085102592571150095 : Int64) = lN 1085102592571150095 from rfl, wadd, wb_and (by omega) (by decide), q6]
  refine xm_in (xb107_0 ?_)
  rw [s1 n hn, eA, s2 a q3, eB, s4 b (by omega), eC, s8 c (by omega), wadd, q7, s16 d (by omega), wadd, q8, s32 e (by omega), wadd, q9, lI]
