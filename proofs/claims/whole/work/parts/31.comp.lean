/-- m is the least of n's bits -/
theorem ls_dec {n m : Nat} (h1 : Nat.testBit n m = true) (h2 : ∀ b, b < m → Nat.testBit n b = false) : ∃ q, n = 2 ^ m * (2 * q + 1) := by
  have e1 : n % 2 ^ m = 0 := by
    apply Nat.eq_of_testBit_eq
    intro i
    rw [Nat.testBit_mod_two_pow, Nat.zero_testBit]
    by_cases hi : i < m
    · rw [h2 i hi, Bool.and_false]
    · rw [decide_eq_false hi, Bool.false_and]
  have e2 : n / 2 ^ m % 2 = 1 := by
    have := h1
    rw [Nat.testBit_eq_decide_div_mod_eq] at this
    exact of_decide_eq_true this
  refine ⟨n / 2 ^ m / 2, ?_⟩
  have e3 := Nat.div_add_mod n (2 ^ m)
  have e4 := Nat.div_add_mod (n / 2 ^ m) 2
  rw [e2] at e4
  rw [e1, Nat.add_zero] at e3
  rw [e4]
  exact e3.symm
theorem ls_mask {n m : Nat} (h : n < 2 ^ 32) (h1 : Nat.testBit n m = true) (h2 : ∀ b, b < m → Nat.testBit n b = false) : (nI n ^^^ (-1 : Int32)) &&& (nI n - (1 : Int32)) = nI (2 ^ m - 1) := by
  obtain ⟨q, rfl⟩ := ls_dec h1 h2
  have hm : m < 32 := by
    refine Nat.lt_of_not_le fun hl => ?_
    have := Nat.pow_le_pow_right (n := 2) (by decide) hl
    have : 2 ^ m * 1 ≤ 2 ^ m * (2 * q + 1) := Nat.mul_le_mul_left _ (by omega)
    omega
  have hp : 0 < 2 ^ m := Nat.two_pow_pos m
  have e0 : 2 ^ m * (2 * q + 1) = (2 ^ m * (2 * q) + (2 ^ m - 1)) + 1 := by rw [Nat.mul_add]; omega
  have e1 : nI (2 ^ m * (2 * q + 1)) - 1 = nI (2 ^ m * (2 * q) + (2 ^ m - 1)) := by rw [e0, nI_pred]
  rw [e1]
  apply Int32.toBitVec_inj.mp
  rw [Int32.toBitVec_and, Int32.toBitVec_xor, show (-1 : Int32).toBitVec = BitVec.allOnes 32 by decide]
  show (BitVec.ofNat 32 _ ^^^ BitVec.allOnes 32) &&& BitVec.ofNat 32 _ = BitVec.ofNat 32 _
  apply BitVec.eq_of_getLsbD_eq
  intro i hi
  rw [BitVec.getLsbD_and, BitVec.getLsbD_xor, BitVec.getLsbD_allOnes, BitVec.getLsbD_ofNat, BitVec.getLsbD_ofNat, BitVec.getLsbD_ofNat, decide_eq_true hi, Bool.true_and, Bool.true_and, Bool.true_and, Nat.testBit_two_pow_sub_one, Nat.testBit_two_pow_mul_add _ (by omega), Nat.testBit_two_pow_sub_one, Nat.testBit_two_pow_mul]
  by_cases hl : i < m
  · rw [if_pos hl, decide_eq_true hl, decide_eq_false (by omega)]
    rfl
  · rw [if_neg hl, decide_eq_false hl, decide_eq_true (by omega), Bool.true_and]
    by_cases he : i = m
    · subst he
      rw [Nat.sub_self]
      simp
    · obtain ⟨j, hj⟩ : ∃ j, i - m = j + 1 := ⟨i - m - 1, by omega⟩
      rw [hj, Nat.testBit_succ, Nat.testBit_succ, show (2 * q + 1) / 2 = q by omega, show 2 * q / 2 = q by omega]
      cases Nat.testBit q j <;> rfl
theorem c94 {MI : Nat → Nat → Int32} {ML : Nat → Nat → Int64} {Q : Nat → Nat} {n m : Nat} (h : n < 2 ^ 32) (h1 : Nat.testBit n m = true) (h2 : ∀ b, b < m → Nat.testBit n b = false) : xm_Ev xz 94 [.int (nI n)] (xM MI ML Q) (fun r => r = (some (.int (nI m)), xM MI ML Q)) := by
  have hm : m < 32 := by
    refine Nat.lt_of_not_le fun hl => ?_
    have := Nat.pow_le_pow_right (n := 2) (by decide) hl
    rw [Nat.testBit_lt_two_pow (by omega)] at h1
    cases h1
  refine xm_in (xb94_0 ?_)
  rw [ls_mask h h1 h2]
  clear h h1 h2
  rcases m with _ | _ | _ | _ | _ | _ | _ | _ | _ | _ | _ | _ | _ | _ | _ | _ | _ | _ | _ | _ | _ | _ | _ | _ | _ | _ | _ | _ | _ | _ | _ | _ | m
  all_goals first
    | omega
    | (refine ⟨fun h => ?_, fun h => ?_⟩ <;> first
        | exact absurd h (by decide)
        | exact absurd (by decide) h
        | rfl
        | (refine ⟨fun h => ?_, fun h => ?_⟩ <;> first
            | exact absurd h (by decide)
            | exact absurd (by decide) h
            | rfl
            | (refine ⟨fun h => ?_, fun h => ?_⟩ <;> first
                | exact absurd h (by decide)
                | exact absurd (by decide) h
                | rfl
                | (refine ⟨fun h => ?_, fun h => ?_⟩ <;> first
                    | exact absurd h (by decide)
                    | exact absurd (by decide) h
                    | rfl
                    | (refine ⟨fun h => ?_, fun h => ?_⟩ <;> first
                        | exact absurd h (by decide)
                        | exact absurd (by decide) h
                        | rfl)))))
theorem c93 {MI : Nat → Nat → Int32} {ML : Nat → Nat → Int64} {Q : Nat → Nat} {w : Int64} {m : Nat} (h1 : hasB w m = true) (h2 : ∀ b, b < m → hasB w b = false) : xm_Ev xz 93 [.long w] (xM MI ML Q) (fun r => r = (some (.int (nI m)), xM MI ML Q)) := by
  obtain ⟨n, hn, rfl⟩ := wb_of w
  have hb : ∀ b, hasB (lN n) b = (decide (b < 64) && Nat.testBit n b) := fun b => by unfold hasB; rw [wb_tb, BitVec.getLsbD_ofNat]
  have e1 : Int64.toInt32 (lN n) = nI (n % 2 ^ 32) := by
    apply Int32.toBitVec_inj.mp
    show (lN n).toBitVec.signExtend 32 = BitVec.ofNat 32 _
    rw [wb_tb]
    apply BitVec.eq_of_getLsbD_eq
    intro i hi
    rw [BitVec.getLsbD_signExtend, BitVec.getLsbD_ofNat, BitVec.getLsbD_ofNat, Nat.testBit_mod_two_pow, if_pos (by omega), decide_eq_true hi, decide_eq_true (show i < 64 by omega)]
  have e2 : Int64.toInt32 (UInt64.toInt64 (Int64.toUInt64 (lN n) >>> (Int64.toUInt64 (Int32.toInt64 (32 : Int32)) &&& Int64.toUInt64 63))) = nI (n / 2 ^ 32) := by
    rw [show (Int64.toUInt64 (Int32.toInt64 (32 : Int32)) &&& Int64.toUInt64 63) = 32 by decide]
    have : UInt64.toInt64 (Int64.toUInt64 (lN n) >>> 32) = lN (n / 2 ^ 32) := by
      apply wb_inj
      apply BitVec.eq_of_toNat_eq
      show (Int64.toUInt64 (lN n) >>> 32).toNat = _
      rw [UInt64.toNat_shiftRight, wb_tn (by omega), Nat.shiftRight_eq_div_pow]
      show (lN n).toBitVec.toNat / 2 ^ 32 = _
      rw [wb_tn hn]
    rw [this]
    apply Int32.toBitVec_inj.mp
    show (lN _).toBitVec.signExtend 32 = BitVec.ofNat 32 _
    rw [wb_tb]
    apply BitVec.eq_of_getLsbD_eq
    intro i hi
    rw [BitVec.getLsbD_signExtend, BitVec.getLsbD_ofNat, BitVec.getLsbD_ofNat, if_pos (by omega), decide_eq_true hi, decide_eq_true (show i < 64 by omega)]
    rfl
  have hm := hasB_lt h1
  rw [hb, decide_eq_true hm, Bool.true_and] at h1
  have h2' : ∀ b, b < m → Nat.testBit n b = false := fun b hl => by
    have := h2 b hl
    rw [hb, decide_eq_true (by omega), Bool.true_and] at this
    exact this
  refine xm_in (xb93_0 ?_)
  rw [e1, e2]
  have hr : n % 2 ^ 32 < 2 ^ 32 := Nat.mod_lt _ (by decide)
  have zz : nI (n % 2 ^ 32) = 0 ↔ n % 2 ^ 32 = 0 := by
    constructor
    · intro q
      have := congrArg (fun x => x.toBitVec.toNat) q
      have e : (nI (n % 2 ^ 32)).toBitVec.toNat = n % 2 ^ 32 := by
        show (BitVec.ofNat 32 _).toNat = _
        rw [BitVec.toNat_ofNat, Nat.mod_mod]
      simp only [e] at this
      exact this
    · intro q
      rw [q]
      rfl
  refine ⟨fun h => ?_, fun h => ?_⟩
  · have h := zz.mp h
    have low : ∀ b, b < 32 → Nat.testBit n b = false := fun b hb => by
      have := congrArg (fun x => Nat.testBit x b) h
      simp only [Nat.testBit_mod_two_pow, decide_eq_true hb, Bool.true_and, Nat.zero_testBit] at this
      exact this
    have h32 : 32 ≤ m := Nat.le_of_not_lt fun hl => by rw [low m hl] at h1; cases h1
    refine ⟨_, c94 (n := n / 2 ^ 32) (m := m - 32) (by omega) ?_ (fun b hl => ?_), ?_⟩
    · rw [Nat.testBit_div_two_pow, show m - 32 + 32 = m by omega]
      exact h1
    · rw [Nat.testBit_div_two_pow]
      exact h2' _ (by omega)
    · rintro _ rfl
      refine xb93_17 (xb93_25 ?_)
      rw [show (32 : Int32) + nI (m - 32) = nI (32 + (m - 32)) from nI_add 32 (m - 32), show 32 + (m - 32) = m by omega]
  · have h32 : m < 32 := Nat.lt_of_not_le fun hl => h (zz.mpr (by
      apply Nat.eq_of_testBit_eq
      intro i
      rw [Nat.testBit_mod_two_pow, Nat.zero_testBit]
      by_cases hi : i < 32
      · rw [h2' i (by omega), Bool.and_false]
      · rw [decide_eq_false hi, Bool.false_and]))
    refine ⟨_, c94 (n := n % 2 ^ 32) (m := m) hr ?_ (fun b hl => ?_), ?_⟩
    · rw [Nat.testBit_mod_two_pow, decide_eq_true h32, h1]; rfl
    · rw [Nat.testBit_mod_two_pow, h2' b hl, Bool.and_false]
    · rintro _ rfl
      exact xb93_25 rfl
theorem least {p : Nat → Prop} : ∀ a, p a → ∃ m, m ≤ a ∧ p m ∧ ∀ b, b < m → ¬ p b := by
  intro a
  induction a using Nat.strongRecOn with
  | ind a ih =>
    intro ha
    by_cases h : ∃ b, b < a ∧ p b
    · obtain ⟨b, b1, b2⟩ := h
      obtain ⟨m, m1, m2, m3⟩ := ih b b1 b2
      exact ⟨m, by omega, m2, m3⟩
    · exact ⟨a, Nat.le_refl a, ha, fun b hb q => h ⟨b, hb, q⟩⟩
/-- each reaches the other -/
def Tg (E : Nat → Nat → Prop) (a t : Nat) : Prop := Cl E a t ∧ Cl E t a
/-- the scanner's components, settled -/
def SC (c : Nat) (DI : Nat → Nat → Int32) (DL : Nat → Nat → Int64) : Prop := ∀ i t, i < c → (hasB (DL 21 i) t = true ↔ ∃ o, o < c ∧ vN DI o = t ∧ hasB (DL 20 i) (vN DI o) = true ∧ hasB (DL 20 o) (vN DI i) = true)
theorem SC.tg {c : Nat} {DI : Nat → Nat → Int32} {DL : Nat → Nat → Int64} (h : SC c DI DL) (hS : SR c DI DL) {i : Nat} (hi : FD c (vN DI) (vJ DI) (vN DI i) i) (t : Nat) : hasB (DL 21 i) t = true ↔ Tg (ED c (vN DI) (vJ DI) (DL 64)) (vN DI i) t := by
  have hc := hi.1
  rw [h i t hc]
  constructor
  · rintro ⟨o, o1, o2, o3, o4⟩
    by_cases hf : FD c (vN DI) (vJ DI) (vN DI o) o
    · subst o2
      exact ⟨(hS.1 i _ hc hi).mp o3, (hS.1 o _ o1 hf).mp o4⟩
    · rw [hS.2 o o1 hf, hasB_0] at o4
      cases o4
  · rintro ⟨h1, h2⟩
    have : ∃ o, FD c (vN DI) (vJ DI) t o := by
      by_cases e : ∃ b, ED c (vN DI) (vJ DI) (DL 64) t b
      · obtain ⟨b, o, o1, -⟩ := e
        exact ⟨o, o1⟩
      · have := Cl_none (fun b q => e ⟨b, q⟩) h2
        subst this
        exact ⟨i, hi⟩
    obtain ⟨o, o1⟩ := this
    have o2 := o1.2.1
    subst o2
    exact ⟨o, o1.1, rfl, (hS.1 i _ hc hi).mpr h1, (hS.1 o _ o1.1 o1).mpr h2⟩
theorem c157 {MI : Nat → Nat → Int32} {ML : Nat → Nat → Int64} {Q : Nat → Nat} {a t : Nat} (ha : a < 48) (ht : t < 48) : xm_Ev xz 157 [.ref 45, .int (nI a), .int (nI t)] (xM MI ML Q) (fun r => r = (some (.int (bI (hasB (ML 66 a) t && hasB (ML 66 t) a))), xM MI ML Q)) := by
  refine xm_in (xb157_0 ⟨vp_in_nI ha (by decide), ?_⟩)
  rw [nI_clamp (by omega)]
  refine ⟨_, c155 _ (by omega), ?_⟩
  rintro _ rfl
  refine xb157_10 ⟨fun h => ⟨Or.inl rfl, ?_⟩, fun h => ⟨vp_in_nI ht (by decide), ?_⟩⟩
  · rw [bI_0] at h
    rw [h]; rfl
  · rw [bI_ne] at h
    rw [h, nI_clamp (by omega)]
    refine ⟨_, c155 _ (by omega), ?_⟩
    rintro _ rfl
    refine xb157_23 ⟨fun h => ⟨Or.inl rfl, ?_⟩, fun h => ⟨Or.inr rfl, ?_⟩⟩
    · rw [bI_0] at h
      rw [h]; rfl
    · rw [bI_ne] at h
      rw [h]; rfl
theorem nI_nm1 {i : Nat} (h : i < 2 ^ 31) : nI i ≠ -1 := fun q => by
  have := congrArg Int32.toInt q
  rw [nI_toInt h] at this
  have e2 : (-1 : Int32).toInt = -1 := rfl
  omega
section OPS6
variable {R : (Nat → Nat → Int32) → (Nat → Nat → Int64) → (Nat → Nat) → Prop}
theorem op10 (hR : ∀ DI DL Q, R DI DL Q → ∃ k c, IB k DI ∧ IC k c DI DL Q ∧ ID c DI ∧ SR c DI DL ∧ SC c DI DL) (x : Int32) : xOpI (xInv R) 92 156 [.int x] := by
  intro MI ML Q hI
  obtain ⟨k, c, hB0, hC0, hD0, hS0, hT0⟩ := hR _ _ _ hI.2
  have hB : IB k MI := hB0
  have hC := hC0.get
  have hV := IC.vm hB hC
  have hP : PV c MI (vN MI) (vJ MI) := ID.pv hV hD0
  have hS : SR c MI ML := hS0
  have hT : SC c MI ML := hT0
  obtain ⟨b1, b2, b3, -⟩ := hB
  by_cases hn : ¬ x < 0 ∧ x < nI k
  · obtain ⟨a, ha, rfl⟩ := nI_in2 (by omega) hn
    obtain ⟨m, m1, m2, m3⟩ := least (p := Tg (ED c (vN MI) (vJ MI) (ML 64)) a) a ⟨Cl.rf _, Cl.rf _⟩
    have key : xm_Ev xz 92 [.ref 0, .int (nI a)] (xM MI ML Q) (fun r => r = (some (.int (nI m)), xM MI ML Q)) := by
      refine xm_in (xb92_0 ⟨_, c86 _, ?_⟩)
      rintro _ rfl
      rw [b2, decide_eq_true hn]
      refine xb92_8 ⟨fun h => absurd h (by decide), fun _ => ⟨_, c69' (y := a) (by omega), ?_⟩⟩
      rintro _ rfl
      rcases hP a (by omega) with ⟨p1, p2⟩ | ⟨i, i1, i2⟩
      · have : m = a := Cl_none (fun b e => by
          obtain ⟨i, ⟨i1, i2, -⟩, -⟩ := e
          exact p2 i i1 i2) m2.1
        subst this
        exact xb92_21 ⟨fun _ => xb92_43 rfl, fun h => absurd p1 h⟩
      · have hci := i1.1
        have h16 := hC.1
        have e := i1.2.1
        have tg : ∀ t, hasB (ML 21 i) t = true ↔ Tg (ED c (vN MI) (vJ MI) (ML 64)) a t := fun t => by
          have := hT.tg hS (i := i) (by rw [e]; exact i1) t
          rw [e] at this
          exact this
        rw [i2]
        refine xb92_21 ⟨fun h => absurd h (nI_nm1 (by omega)), fun _ => ⟨vp_in_nI (by omega) (by decide), ?_⟩⟩
        rw [nI_clamp (by omega)]
        refine ⟨_, c93 ((tg m).mpr m2) (fun b hb => ts_nt fun q => m3 b hb ((tg b).mp q)), ?_⟩
        rintro _ rfl
        exact xb92_43 rfl
    refine key.imp ?_
    rintro _ rfl
    refine ⟨nI m, MI, ML, Q, rfl, xm_in (xb156_0 ⟨_, c148 _, ?_⟩)⟩
    rintro _ rfl
    rw [b3, decide_eq_true hn]
    refine xb156_5 ⟨fun h => absurd h (by decide), fun _ => ⟨_, c154 hV, ?_⟩⟩
    rintro _ ⟨ML', rfl, n1, n2⟩
    have lp : ∀ (d n : Nat), n + d = m → xq156 (fun r => ∃ MI' ML' Q', r = (some (.int (nI m)), (xSH, MI', ML', xmr Q')) ∧ xInv R MI' ML' Q') (16, [some (.ref 45), some (.int (nI a)), some (.int (nI n))], [], xM MI ML' Q, 0, 0) := by
      intro d
      induction d with
      | zero =>
        intro n hn
        have : n = m := by omega
        subst this
        refine xb156_16 ⟨_, c157 (by omega) (by omega), ?_⟩
        rintro _ rfl
        refine xb156_22 ⟨fun h => ?_, fun _ => ⟨MI, ML', Q, rfl, hI.1, ?_⟩⟩
        · rw [bI_0, (n2 a n ha).mpr m2.1, (n2 n a (by omega)).mpr m2.2] at h
          cases h
        · rw [dl_off n1]
          exact hI.2
      | succ d ih =>
        intro n hn
        refine xb156_16 ⟨_, c157 (by omega) (by omega), ?_⟩
        rintro _ rfl
        refine xb156_22 ⟨fun _ => ?_, fun h => ?_⟩
        · rw [nI_1]
          exact ih (n + 1) (by omega)
        · rw [bI_ne] at h
          obtain ⟨h1, h2⟩ := xm_and h
          exact absurd ⟨(n2 a n ha).mp h1, (n2 n a (by omega)).mp h2⟩ (m3 n (by omega))
    exact xb156_14 (lp m 0 (by omega))
  · refine xm_in (xb92_0 ⟨_, c86 _, ?_⟩)
    rintro _ rfl
    rw [b2, decide_eq_false hn]
    refine xb92_8 ⟨fun _ => ⟨-1, MI, ML, Q, rfl, xm_in (xb156_0 ⟨_, c148 _, ?_⟩)⟩, fun h => absurd rfl h⟩
    rintro _ rfl
    rw [b3, decide_eq_false hn]
    exact xb156_5 ⟨fun _ => ⟨MI, ML, Q, rfl, hI⟩, fun h => absurd rfl h⟩
end OPS6
