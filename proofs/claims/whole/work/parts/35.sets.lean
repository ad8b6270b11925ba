def hasI (x : Int32) (b : Nat) : Bool := x.toBitVec.getLsbD b
theorem hasI_ext {x y : Int32} (h : ∀ b, b < 32 → hasI x b = hasI y b) : x = y := Int32.toBitVec_inj.mp (BitVec.eq_of_getLsbD_eq (fun i hi => h i hi))
theorem hasI_or (x y : Int32) (b : Nat) : hasI (x ||| y) b = (hasI x b || hasI y b) := by
  unfold hasI
  rw [Int32.toBitVec_or, BitVec.getLsbD_or]
theorem hasI_and (x y : Int32) (b : Nat) : hasI (x &&& y) b = (hasI x b && hasI y b) := by
  unfold hasI
  rw [Int32.toBitVec_and, BitVec.getLsbD_and]
theorem hasI_ge {x : Int32} {b : Nat} (h : 32 ≤ b) : hasI x b = false := BitVec.getLsbD_of_ge _ _ h
theorem hasI_0 (b : Nat) : hasI 0 b = false := by
  unfold hasI
  show (0#32).getLsbD b = false
  simp
theorem hasI_not {x : Int32} {b : Nat} (h : b < 32) : hasI (x ^^^ (-1)) b = !hasI x b := by
  unfold hasI
  rw [Int32.toBitVec_xor, BitVec.getLsbD_xor, show (-1 : Int32).toBitVec = BitVec.allOnes 32 by decide, BitVec.getLsbD_allOnes, decide_eq_true h]
  cases x.toBitVec.getLsbD b <;> rfl
theorem hasI_one' : ∀ k, k < 5 → ∀ b, b < 32 → hasI ((1 : Int32) <<< (nI k &&& (31 : Int32))) b = decide (b = k) := by decide +kernel
theorem hasI_one {k : Nat} (hk : k < 5) (b : Nat) : hasI ((1 : Int32) <<< (nI k &&& (31 : Int32))) b = decide (b = k) := by
  by_cases h : b < 32
  · exact hasI_one' k hk b h
  · rw [hasI_ge (by omega), decide_eq_false (by omega)]
theorem hasI_l {x : Int32} {b : Nat} (h : b < 32) : hasB (Int32.toInt64 x) b = hasI x b := by
  unfold hasB hasI
  show (x.toBitVec.signExtend 64).getLsbD b = _
  rw [BitVec.getLsbD_signExtend, if_pos h, decide_eq_true (show b < 64 by omega), Bool.true_and]
theorem sh_c : ∀ k, k < 32 → ((nI k &&& (31 : Int32)).toBitVec.smod 32).toNat = k := by decide +kernel
theorem bitI {x : Int32} {k : Nat} (hk : k < 32) : ((x >>> (nI k &&& (31 : Int32))) &&& (1 : Int32)) = 1 ↔ hasI x k = true := by
  have e : (x >>> (nI k &&& (31 : Int32))).toBitVec.getLsbD 0 = x.toBitVec.getLsbD k := by
    rw [Int32.toBitVec_shiftRight, BitVec.sshiftRight_eq', sh_c k hk, BitVec.getLsbD_sshiftRight, Nat.add_zero, if_pos hk]
    rfl
  unfold hasI
  rw [← e, ← Int32.toBitVec_inj, Int32.toBitVec_and]
  generalize (x >>> (nI k &&& (31 : Int32))).toBitVec = y
  show y &&& 1#32 = 1#32 ↔ _
  constructor
  · intro h
    have t := congrArg (fun x => x.getLsbD 0) h
    simpa using t
  · intro h
    apply BitVec.eq_of_getLsbD_eq
    intro i hi
    cases i with
    | zero => simp [h]
    | succ i => simp
theorem bool_iff {a b : Bool} (h : a = true ↔ b = true) : a = b := by cases a <;> cases b <;> simp_all
theorem and_0 {a b : Int64} : a &&& b = 0 ↔ ∀ n, ¬ (hasB a n = true ∧ hasB b n = true) := by
  constructor
  · intro h n q
    have := congrArg (fun w => hasB w n) h
    simp only [hasB_and, hasB_0, q.1, q.2] at this
    cases this
  · intro h
    refine hasB_ext fun n _ => ?_
    rw [hasB_and, hasB_0]
    refine ts_nt fun q => ?_
    exact h n (xm_and q)
/-- the jar of b is one that jar j needs for what U names -/
def NJ (c : Nat) (N J : Nat → Nat) (U : Nat → Int64) (j b : Nat) : Prop := b ≠ j ∧ ∃ f, f < c ∧ J f = j ∧ ∃ n p, hasB (U f) n = true ∧ FD c N J n p ∧ J p = b
/-- jars, as the scanner keeps them -/
def JM (c : Nat) (N J : Nat → Nat) (U S : Nat → Int64) (MI : Nat → Nat → Int32) (ML : Nat → Nat → Int64) : Prop := ∀ j, j < 5 → (∀ n, hasB (ML 40 j) n = true ↔ ∃ p, FD c N J n p ∧ J p = j) ∧ (∀ n, hasB (ML 41 j) n = true ↔ ∃ f, f < c ∧ J f = j ∧ hasB (U f) n = true) ∧ (∀ b, hasI (MI 43 j) b = true ↔ NJ c N J U j b) ∧ ∀ b, hasI (MI 44 j) b = true ↔ NJ c N J S j b
theorem c80 {MI : Nat → Nat → Int32} {ML : Nat → Nat → Int64} {Q : Nat → Nat} {j : Nat} (w : Int64) : xm_Ev xz 80 [.ref 39, .int (nI j), .long w] (xM MI ML Q) (fun z => ∃ v, z = (some (.int v), xM MI ML Q) ∧ (j < 5 → ∀ b, hasI v b = true ↔ b < 5 ∧ b ≠ j ∧ ∃ n, hasB (ML 40 b) n = true ∧ hasB w n = true)) := by
  have lp : ∀ (d i : Nat), i + d = 5 → ∀ v, (j < 5 → ∀ b, hasI v b = true ↔ b < i ∧ b ≠ j ∧ ∃ n, hasB (ML 40 b) n = true ∧ hasB w n = true) → xq80 (fun z => ∃ v, z = (some (.int v), xM MI ML Q) ∧ (j < 5 → ∀ b, hasI v b = true ↔ b < 5 ∧ b ≠ j ∧ ∃ n, hasB (ML 40 b) n = true ∧ hasB w n = true)) (6, [some (.ref 39), some (.int (nI j)), some (.long w), none, some (.int v), some (.int (nI i))], [], xM MI ML Q, 0, 0) := by
    intro d
    induction d with
    | zero =>
      intro i hi v hv
      have : i = 5 := by omega
      subst this
      exact xb80_6 ⟨fun _ => ⟨v, rfl, hv⟩, fun hl => absurd (by decide) hl⟩
    | succ d ih =>
      intro i hi v hv
      have stay : (j < 5 → ¬ (i ≠ j ∧ ∃ n, hasB (ML 40 i) n = true ∧ hasB w n = true)) → xq80 (fun z => ∃ v, z = (some (.int v), xM MI ML Q) ∧ (j < 5 → ∀ b, hasI v b = true ↔ b < 5 ∧ b ≠ j ∧ ∃ n, hasB (ML 40 b) n = true ∧ hasB w n = true)) (6, [some (.ref 39), some (.int (nI j)), some (.long w), none, some (.int v), some (.int (nI i + 1))], [], xM MI ML Q, 0, 0) := fun hno => by
        rw [nI_1]
        refine ih (i + 1) (by omega) v (fun hj b => ?_)
        rw [hv hj b]
        constructor
        · rintro ⟨q1, q2⟩
          exact ⟨by omega, q2⟩
        · rintro ⟨q1, q2⟩
          by_cases e : b = i
          · subst e; exact absurd q2 (hno hj)
          · exact ⟨by omega, q2⟩
      refine xb80_6 ⟨fun hl => absurd hl (nI_ge (a := i) (b := 5) (by omega) (by decide)), fun _ => ⟨fun e => ?_, fun e => ⟨vp_in_nI (by omega) (by decide), ?_⟩⟩⟩
      · exact stay (fun hj q => q.1 ((nI_eq (by omega) (by omega)).mp e))
      · have ne : j < 5 → i ≠ j := fun _ q => e (by rw [q])
        rw [nI_clamp (by omega), lg_cmp_eq, and_0]
        refine ⟨fun h => stay (fun _ ⟨_, n, q⟩ => h n q), fun h => ?_⟩
        have h : ∃ n, hasB (ML 40 i) n = true ∧ hasB w n = true := by
          by_cases q : ∃ n, hasB (ML 40 i) n = true ∧ hasB w n = true
          · exact q
          · exact absurd (fun n hn => q ⟨n, hn⟩) h
        rw [nI_1]
        refine ih (i + 1) (by omega) _ (fun hj b => ?_)
        rw [hasI_or, Bool.or_eq_true, hasI_one (by omega), decide_eq_true_eq, hv hj b]
        constructor
        · rintro (⟨q1, q2⟩ | q)
          · exact ⟨by omega, q2⟩
          · subst q; exact ⟨by omega, ne hj, h⟩
        · rintro ⟨q1, q2⟩
          by_cases e : b = i
          · exact Or.inr e
          · exact Or.inl ⟨by omega, q2⟩
  refine xm_in (xb80_0 ?_)
  refine lp 5 0 rfl 0 (fun _ b => ?_)
  rw [hasI_0]
  constructor
  · intro q; cases q
  · rintro ⟨q, -⟩; exact absurd q (Nat.not_lt_zero b)
