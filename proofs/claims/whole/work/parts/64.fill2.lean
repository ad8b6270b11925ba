theorem TS.cg {S : Tb} {MI M : Nat → Nat → Int32} (h : TS S MI) (h1 : ∀ a j, 12 ≤ a → a ≤ 16 → M a j = MI a j) : TS S M := by
  obtain ⟨a1, a2, a3, a4, a5⟩ := h
  have ag : AG S.1.length MI M := fun a _ => ⟨h1 14 a (by decide) (by decide), h1 15 a (by decide) (by decide), h1 16 a (by decide) (by decide), fun i _ => h1 13 _ (by decide) (by decide)⟩
  exact ⟨a1, (h1 12 4 (by decide) (by decide)).trans a2, (h1 12 5 (by decide) (by decide)).trans a3, a4.cg ag, IP_cg a4 ag a5⟩
def wOwn (b : Nat → Nat) (n : Nat) : Wd := wc b (poT b n) (rSe b n)
def fW1 (b : Nat → Nat) (n : Nat) : List Wd := clW b (poT b n) (poZ b n) (poZ b n - 1) 1 ++ prW b (poT b n) (poZ b n - 1) 1
def fW2 (b : Nat → Nat) (n : Nat) : List Wd := mbW b (poT b n) (rMG b n) (rMm b n) 0
def fWp (b : Nat → Nat) (n : Nat) : List Wd := pbW b (poT b n) (rMG b n) (rMm b n) 0
def fWs (b : Nat → Nat) (n : Nat) : List Wd := if rPa b n = 0 then [] else [wc b (poT b n) (rPa b n)]
def fWi (b : Nat → Nat) (n : Nat) : List Wd := ifW b (poT b n) (rIa b n) (rIf b n) 0
/-- the table as the meetings go on -/
def fS1 (b : Nat → Nat) (n : Nat) (S : Tb) : Tb := mt S (wOwn b n)
def fS2 (b : Nat → Nat) (n : Nat) (S : Tb) : Tb := mts (fS1 b n S) (fW1 b n)
def fS3 (b : Nat → Nat) (n : Nat) (S : Tb) : Tb := mts (fS2 b n S) (fW2 b n)
def fS4 (b : Nat → Nat) (n : Nat) (S : Tb) : Tb := mts (fS3 b n S) (fWs b n)
def fS5 (b : Nat → Nat) (n : Nat) (S : Tb) : Tb := mts (fS4 b n S) (fWi b n)
theorem pa_ok {b : Nat → Nat} {n a : Nat} (h : fnS b n = .ok a) : nmd b (poT b n) (poZ b n) (rSe b n) = true ∧ (rPa b n = 0 ∨ nmd b (poT b n) (poZ b n) (rPa b n) = true) ∧ (∀ i, i < rIf b n → rIa b n + 2 * i + 2 ≤ n ∧ nmd b (poT b n) (poZ b n) (num b 2 (rIa b n + 2 * i)) = true) ∧ CKd b (poT b n) (poZ b n) := by
  obtain ⟨-, -, -, -, ⟨cc, hc⟩, ⟨ck', hk⟩, -⟩ := fn_fw h
  obtain ⟨-, -, ⟨c2, h2⟩, ⟨c3, h3⟩, ⟨c4, h4⟩⟩ := cl_fw hc
  have g2 := (dmd_ok h2).2
  have g3 := (dmd_ok h3).2
  refine ⟨g2, ?_, ?_, ck_CKd hk⟩
  · rw [Bool.or_eq_true] at g3
    exact g3.imp (fun z => of_decide_eq_true z) id
  · have hc2 : il b n (poT b n) (poZ b n) (rIf b n) (cl4 b n (poT b n) (poZ b n) (ckS b n)) = .ok cc := hc
    have e : rIa b n = c4 := by unfold rIa; rw [h4]; rfl
    rw [h4] at hc2
    rw [e]
    exact il_all hc2
section F2
variable {MI : Nat → Nat → Int32} {ML : Nat → Nat → Int64} {Q : Nat → Nat} {b : Nat → Nat} {n : Nat}
theorem SD.cg {M : Nat → Nat → Int32} (h : SD b n MI) (h1 : ∀ j, 4 ≤ j → j ≤ 10 → M 1 j = MI 1 j) (h2 : ∀ a j, 4 ≤ a → a ≤ 11 → M a j = MI a j) : SD b n M := by
  obtain ⟨d1, d2, d3, d4, d5, d6, d7, d8⟩ := h
  refine ⟨d1.cg (fun a j z1 z2 => h2 a j z1 (by omega)), ?_, ?_, ?_, ?_, ?_, ?_, ?_, fun i hi => ?_⟩
  · rw [h1 4 (by decide) (by decide)]; exact d2
  · rw [h1 5 (by decide) (by decide)]; exact d3
  · rw [h1 6 (by decide) (by decide)]; exact d4
  · rw [h1 7 (by decide) (by decide)]; exact d5
  · rw [h1 8 (by decide) (by decide)]; exact d6
  · rw [h1 9 (by decide) (by decide)]; exact d7
  · rw [h1 10 (by decide) (by decide)]; exact d8.1
  · rw [h2 10 i (by decide) (by decide), h2 11 i (by decide) (by decide)]; exact d8.2 i hi
theorem RT.sd {M : Nat → Nat → Int32} (h : RT MI M) (hs : SD b n MI) : SD b n M := hs.cg (fun j _ _ => h 1 j (by omega) (by omega)) (fun a j _ _ => h a j (by omega) (by omega))
/-- what the scanner puts into a row -/
def FP (b : Nat → Nat) (n : Nat) (S : Tb) (q : Nat) (x : Int32) (M : Nat → Nat → Int32) (L : Nat → Nat → Int64) : Prop := M q 0 = x ∧ M q 1 = rv (fS1 b n S) (wOwn b n) ∧ M q 2 = (if rPa b n = 0 then -1 else rv (fS4 b n S) (wc b (poT b n) (rPa b n))) ∧ M q 3 = nI (rFl b n) ∧ M q 4 = nI (rIf b n) ∧ M q 5 = nI (rMf b n) ∧ M q 6 = nI (rMm b n) - nI (rMf b n) ∧ ∃ u7 u8 u1, US (fS5 b n S) (fW1 b n ++ fW2 b n) u7 ∧ US (fS5 b n S) (fWp b n ++ (fWs b n ++ fWi b n)) u8 ∧ US (fS5 b n S) [wOwn b n] u1 ∧ L q 7 = u7 &&& (u1 ^^^ -1) ∧ L q 8 = u8 &&& (if nI (rFl b n) &&& 1 = 0 then 0 else u7 &&& (u1 ^^^ -1))
theorem c54 (hb : ∀ i, b i < 256) {a : Nat} (hok : fnS b n = .ok a) (hD : Dr n (bBy b) MI) (hs : SD b n MI) {S : Tb} (hT : TS S (xm_up MI 12 5 0)) {q : Nat} (hq : xm_nth xSH q = some (3, 6)) (q1 : 23 ≤ q) (q2 : q ≤ 38) (x : Int32) : xm_Ev xz 54 [.ref 0, .ref q, .int x] (xM MI ML Q) (fun r => ∃ M L, r = (none, xM M L Q) ∧ (∀ a j, a ≠ q → ¬ (a = 12 ∧ 4 ≤ j ∧ j ≤ 5) → ¬ (13 ≤ a ∧ a ≤ 16) → M a j = MI a j) ∧ (∀ a j, ¬ (a = q ∧ 7 ≤ j ∧ j ≤ 8) → L a j = ML a j) ∧ TS (fS5 b n S) M ∧ FP b n S q x M L) := by
  have hn := hD.1
  obtain ⟨o1, o2, o3, o4⟩ := pa_ok hok
  have m50 : rMm b n ≤ 50 := by have := rMm_le hok; omega
  have dr : ∀ {M : Nat → Nat → Int32}, (∀ a j, a ≠ q → ¬ (a = 12 ∧ 4 ≤ j ∧ j ≤ 5) → ¬ (13 ≤ a ∧ a ≤ 16) → M a j = MI a j) → Dr n (bBy b) M := fun w => ⟨hn, (w 2 1 (by omega) (by omega) (by omega)).trans hD.2.1, fun i hi => (w 3 i (by omega) (by omega) (by omega)).trans (hD.2.2 i hi)⟩
  have sd : ∀ {M : Nat → Nat → Int32}, (∀ a j, a ≠ q → ¬ (a = 12 ∧ 4 ≤ j ∧ j ≤ 5) → ¬ (13 ≤ a ∧ a ≤ 16) → M a j = MI a j) → SD b n M := fun w => hs.cg (fun j _ _ => w 1 j (by omega) (by omega) (by omega)) (fun a j _ _ => w a j (by omega) (by omega) (by omega))
  have a0 : ∀ a j, a ≠ q → ¬ (a = 12 ∧ 4 ≤ j ∧ j ≤ 5) → ¬ (13 ≤ a ∧ a ≤ 16) → xm_up (xm_up MI 12 5 0) q 0 x a j = MI a j := fun a j z1 z2 z3 => by rw [up_n (by omega), up_n (by omega)]
  have t0 : TS S (xm_up (xm_up MI 12 5 0) q 0 x) := hT.cg (fun a j z1 z2 => up_n (by omega))
  refine xm_in (xb54_0 ⟨Or.inl rfl, hq, ?_⟩)
  rw [(sd a0).2.2.1]
  refine ⟨_, c55 (dr a0) (sd a0).1 t0 o1, ?_⟩
  rintro _ ⟨M1, rfl, m1, m2⟩
  have m2 : TS (fS1 b n S) M1 := m2
  have j0 : M1 q 0 = x := by rw [m1 q 0 (by omega) (by omega), up_s]
  have a1 : ∀ y a j, a ≠ q → ¬ (a = 12 ∧ 4 ≤ j ∧ j ≤ 5) → ¬ (13 ≤ a ∧ a ≤ 16) → xm_up M1 q 1 y a j = MI a j := fun y a j z1 z2 z3 => by rw [up_n (by omega), m1 a j z2 z3]; exact a0 a j z1 z2 z3
  refine xb54_25 ⟨hq, _, c60 (dr (a1 _)) (sd (a1 _)).1 o4 (m2.cg (fun a j z1 z2 => up_n (by omega))), ?_⟩
  rintro _ ⟨M2, u2, rfl, m3, m4, m5⟩
  have m4 : TS (fS2 b n S) M2 := m4
  have m5 : US (fS2 b n S) (fW1 b n) u2 := m5
  have a2 : ∀ a j, a ≠ q → ¬ (a = 12 ∧ 4 ≤ j ∧ j ≤ 5) → ¬ (13 ≤ a ∧ a ≤ 16) → M2 a j = MI a j := fun a j z1 z2 z3 => by rw [m3 a j z2 z3]; exact a1 _ a j z1 z2 z3
  refine xb54_33 ⟨hq, hq, _, c63 (W7 := fW1 b n) (W8 := []) hq m50 (rMG_go hok) (dr a2) (sd a2).1 (sd a2).2.2.2.2.2.2.2 m4 ?_ ?_, ?_⟩
  · rw [up_n (by omega), up_s]; exact m5
  · rw [up_s]; exact US.nil _
  rintro _ ⟨M3, L3, rfl, m6, m7, m8, m9, m10⟩
  have m8 : TS (fS3 b n S) M3 := m8
  have m9 : US (fS3 b n S) (fW1 b n ++ fW2 b n) (L3 q 7) := m9
  have m10 : US (fS3 b n S) (fWp b n) (L3 q 8) := m10
  have a3 : ∀ a j, a ≠ q → ¬ (a = 12 ∧ 4 ≤ j ∧ j ≤ 5) → ¬ (13 ≤ a ∧ a ≤ 16) → M3 a j = MI a j := fun a j z1 z2 z3 => by rw [m6 a j z2 z3]; exact a2 a j z1 z2 z3
  have l3 : ∀ a j, ¬ (a = q ∧ 7 ≤ j ∧ j ≤ 8) → L3 a j = ML a j := fun a j z => by rw [m7 a j z, up_n (by omega), up_n (by omega)]
  have r3 : ∀ j, M3 q j = xm_up M1 q 1 (rv (fS1 b n S) (wOwn b n)) q j := fun j => by rw [m6 q j (by omega) (by omega), m3 q j (by omega) (by omega)]; rfl
  -- behind the parent
  have g72 : ∀ (M4 : Nat → Nat → Int32) (y : Int32), (∀ a j, ¬ (a = 12 ∧ 4 ≤ j ∧ j ≤ 5) → ¬ (13 ≤ a ∧ a ≤ 16) → M4 a j = M3 a j) → TS (fS4 b n S) M4 → y = (if rPa b n = 0 then -1 else rv (fS4 b n S) (wc b (poT b n) (rPa b n))) → xq54 (fun r => ∃ M L, r = (none, xM M L Q) ∧ (∀ a j, a ≠ q → ¬ (a = 12 ∧ 4 ≤ j ∧ j ≤ 5) → ¬ (13 ≤ a ∧ a ≤ 16) → M a j = MI a j) ∧ (∀ a j, ¬ (a = q ∧ 7 ≤ j ∧ j ≤ 8) → L a j = ML a j) ∧ TS (fS5 b n S) M ∧ FP b n S q x M L) (72, [some (.ref 0), some (.ref q), none], [.int y, .ref q], xM M4 L3 Q, 0, 0) := by
    intro M4 y g1 g2 hy
    refine xb54_72 ⟨hq, hq, hq, ?_⟩
    rw [up_s]
    have a4 : ∀ y a j, a ≠ q → ¬ (a = 12 ∧ 4 ≤ j ∧ j ≤ 5) → ¬ (13 ≤ a ∧ a ≤ 16) → xm_up M4 q 2 y a j = MI a j := fun y a j z1 z2 z3 => by rw [up_n (by omega), g1 a j z2 z3]; exact a3 a j z1 z2 z3
    have t4 : ∀ y, TS (fS4 b n S) (xm_up M4 q 2 y) := fun y => g2.cg (fun a j z1 z2 => up_n (by omega))
    have k61 : ∃ v, xm_Ev xz 61 [.int y] (xM (xm_up M4 q 2 y) L3 Q) (fun r => r = (some (.long v), xM (xm_up M4 q 2 y) L3 Q)) ∧ US (fS4 b n S) (fWs b n) v := by
      by_cases hp : rPa b n = 0
      · rw [if_pos hp] at hy
        subst hy
        refine ⟨0, xm_in (xb61_0 ⟨fun _ => rfl, fun h => absurd rfl h⟩), ?_⟩
        unfold fWs
        rw [if_pos hp]
        exact US.nil _
      · rw [if_neg hp] at hy
        have e4 : fS4 b n S = mt (fS3 b n S) (wc b (poT b n) (rPa b n)) := by
          unfold fS4 fWs
          rw [if_neg hp]
          rfl
        have eW : fWs b n = [wc b (poT b n) (rPa b n)] := by unfold fWs; rw [if_neg hp]
        rw [eW]
        rw [e4] at hy g2 ⊢
        by_cases hm : wc b (poT b n) (rPa b n) ∈ (mt (fS3 b n S) (wc b (poT b n) (rPa b n))).1
        · have hi := List.idxOf_lt_length_iff.mpr hm
          have := g2.1
          rw [rv_one hm] at hy
          subst hy
          exact ⟨_, xm_in (xb61_0 ⟨fun z => absurd z (nI_nm1 (by omega)), fun _ => rfl⟩), US.one g2.1 hm⟩
        · have e : rv (mt (fS3 b n S) (wc b (poT b n) (rPa b n))) (wc b (poT b n) (rPa b n)) = -1 := by unfold rv; rw [if_neg hm]
          rw [e] at hy
          subst hy
          exact ⟨0, xm_in (xb61_0 ⟨fun _ => rfl, fun h => absurd rfl h⟩), fun z => absurd (mt_ov z).2 hm⟩
    obtain ⟨v, k1, k2⟩ := k61
    refine ⟨_, k1, ?_⟩
    rintro _ rfl
    have vI := vl_lt hb n 2 (cl3 b n (poT b n) (poZ b n) (ckS b n))
    obtain ⟨-, -, -, -, s7, s8, -⟩ := sd (a4 y)
    refine xb54_87 ⟨_, c64 hb s7 s8 vI o3 (dr (a4 y)) (sd (a4 y)).1 (t4 y), ?_⟩
    rintro _ ⟨M5, v5, rfl, k3, k4, k5⟩
    have k4 : TS (fS5 b n S) M5 := k4
    have k5 : US (fS5 b n S) (fWi b n) v5 := k5
    have a5 : ∀ a j, a ≠ q → ¬ (a = 12 ∧ 4 ≤ j ∧ j ≤ 5) → ¬ (13 ≤ a ∧ a ≤ 16) → M5 a j = MI a j := fun a j z1 z2 z3 => by rw [k3 a j z2 z3]; exact a4 _ a j z1 z2 z3
    obtain ⟨-, s4, s5, s6, s7, s8, s9, s10, -⟩ := sd a5
    have w0 : M5 q 0 = x := by rw [k3 q 0 (by omega) (by omega), up_n (by omega), g1 q 0 (by omega) (by omega), r3, up_n (by omega)]; exact j0
    have w1 : M5 q 1 = rv (fS1 b n S) (wOwn b n) := by rw [k3 q 1 (by omega) (by omega), up_n (by omega), g1 q 1 (by omega) (by omega), r3, up_s]
    have w2 : M5 q 2 = y := by rw [k3 q 2 (by omega) (by omega), up_s]
    refine xb54_91 ⟨hq, hq, hq, hq, hq, hq, hq, ?_⟩
    have e1 : xm_up M5 q 3 (M5 1 4) 1 7 = M5 1 7 := up_n (by omega)
    rw [e1]
    have e2 : xm_up (xm_up M5 q 3 (M5 1 4)) q 4 (M5 1 7) 1 9 = M5 1 9 := by rw [up_n (by omega), up_n (by omega)]
    rw [e2]
    have e3 : xm_up (xm_up (xm_up M5 q 3 (M5 1 4)) q 4 (M5 1 7)) q 5 (M5 1 9) 1 10 = M5 1 10 := by rw [up_n (by omega), up_n (by omega), up_n (by omega)]
    rw [e3]
    have e4 : xm_up (xm_up (xm_up M5 q 3 (M5 1 4)) q 4 (M5 1 7)) q 5 (M5 1 9) 1 9 = M5 1 9 := by rw [up_n (by omega), up_n (by omega), up_n (by omega)]
    rw [e4]
    obtain ⟨M6, eM⟩ : ∃ M6, M6 = xm_up (xm_up (xm_up (xm_up M5 q 3 (M5 1 4)) q 4 (M5 1 7)) q 5 (M5 1 9)) q 6 (M5 1 10 - M5 1 9) := ⟨_, rfl⟩
    rw [← eM]
    have f6 : ∀ a j, ¬ (a = q ∧ 3 ≤ j ∧ j ≤ 6) → M6 a j = M5 a j := fun a j z => by rw [eM, up_n (by omega), up_n (by omega), up_n (by omega), up_n (by omega)]
    rw [f6 q 1 (by omega), w1]
    have h1 : (fS1 b n S).1.length ≤ 48 := m2.1
    refine ⟨_, c61 h1 (fun z => (mt_ov z).2), ?_⟩
    rintro _ ⟨u1, rfl, k6⟩
    have up45 : ∀ {W : List Wd} {u : Int64}, US (fS4 b n S) W u → US (fS5 b n S) W u := fun z => z.mts _
    have up35 : ∀ {W : List Wd} {u : Int64}, US (fS3 b n S) W u → US (fS5 b n S) W u := fun z => up45 (z.mts _)
    have up15 : ∀ {W : List Wd} {u : Int64}, US (fS1 b n S) W u → US (fS5 b n S) W u := fun z => up35 ((z.mts _).mts _)
    have fp : ∀ L : Nat → Nat → Int64, L q 7 = L3 q 7 &&& (u1 ^^^ -1) → L q 8 = (L3 q 8 ||| (v ||| v5)) &&& (if nI (rFl b n) &&& 1 = 0 then 0 else L3 q 7 &&& (u1 ^^^ -1)) → FP b n S q x M6 L := by
      intro L z1 z2
      refine ⟨?_, ?_, ?_, ?_, ?_, ?_, ?_, L3 q 7, L3 q 8 ||| (v ||| v5), u1, up35 m9, (up35 m10).or ((up45 k2).or k5), up15 k6, z1, z2⟩
      · rw [f6 q 0 (by omega)]; exact w0
      · rw [f6 q 1 (by omega)]; exact w1
      · rw [f6 q 2 (by omega), w2]; exact hy
      · rw [eM, up_n (by omega), up_n (by omega), up_n (by omega), up_s]; exact s4
      · rw [eM, up_n (by omega), up_n (by omega), up_s]; exact s7
      · rw [eM, up_n (by omega), up_s]; exact s9
      · rw [eM, up_s, s9, s10]
    have aL : ∀ x y z a j, ¬ (a = q ∧ 7 ≤ j ∧ j ≤ 8) → xm_up (xm_up (xm_up L3 q 8 x) q 7 y) q 8 z a j = ML a j := fun x y z a j w => by rw [up_n (by omega), up_n (by omega), up_n (by omega)]; exact l3 a j w
    have a6 : ∀ a j, a ≠ q → ¬ (a = 12 ∧ 4 ≤ j ∧ j ≤ 5) → ¬ (13 ≤ a ∧ a ≤ 16) → M6 a j = MI a j := fun a j z1 z2 z3 => by rw [f6 a j (by omega)]; exact a5 a j z1 z2 z3
    have t6 : TS (fS5 b n S) M6 := k4.cg (fun a j z1 z2 => f6 a j (by omega))
    have fl : M6 q 3 = nI (rFl b n) := by rw [eM, up_n (by omega), up_n (by omega), up_n (by omega), up_s]; exact s4
    refine xb54_160 ⟨hq, hq, hq, ?_⟩
    rw [fl]
    refine ⟨fun h => ⟨hq, M6, _, rfl, a6, aL _ _ _, t6, fp _ ?_ ?_⟩, fun h => ⟨hq, hq, M6, _, rfl, a6, aL _ _ _, t6, fp _ ?_ ?_⟩⟩
    · rw [up_n (by omega), up_s, up_n (by omega)]
    · rw [up_s, up_n (by omega), up_s, if_pos h]
    · rw [up_n (by omega), up_s, up_n (by omega)]
    · rw [up_s, up_n (by omega), up_s, up_s, if_neg h, up_n (by omega)]
  have vP := vl_lt hb n 2 (cl2 b n (poT b n) (poZ b n) (ckS b n))
  have vP : rPa b n < 65536 := vP
  refine xb54_46 ?_
  rw [(sd a3).2.2.2.1]
  refine pk_eq (rPa b n) 0 (fun hp => ?_) (fun hp => ?_)
  · refine g72 M3 (-1) (fun _ _ _ _ => rfl) ?_ (by rw [if_pos hp])
    unfold fS4 fWs
    rw [if_pos hp]
    exact m8
  · have hp' : nmd b (poT b n) (poZ b n) (rPa b n) = true := o2.resolve_left hp
    refine ⟨_, c55 (dr a3) (sd a3).1 m8 hp', ?_⟩
    rintro _ ⟨M4, rfl, k1, k2⟩
    have e4 : fS4 b n S = mt (fS3 b n S) (wc b (poT b n) (rPa b n)) := by
      unfold fS4 fWs
      rw [if_neg hp]
      rfl
    refine g72 M4 _ (fun a j z2 z3 => k1 a j z2 z3) (by rw [e4]; exact k2) (by rw [if_neg hp, e4])
end F2
