def mbW (b : Nat → Nat) (T : Nat → Ent) (G : Nat → Nat × Nat) : Nat → Nat → List Wd
  | 0, _ => []
  | d + 1, i => tw b T (G i).2 ++ mbW b T G d (i + 1)
/-- of members that are public or protected -/
def pbW (b : Nat → Nat) (T : Nat → Ent) (G : Nat → Nat × Nat) : Nat → Nat → List Wd
  | 0, _ => []
  | d + 1, i => (if nI (G i).1 &&& 5 = 0 then [] else tw b T (G i).2) ++ pbW b T G d (i + 1)
def ifW (b : Nat → Nat) (T : Nat → Ent) (a : Nat) : Nat → Nat → List Wd
  | 0, _ => []
  | d + 1, i => wc b T (num b 2 (a + 2 * i)) :: ifW b T a d (i + 1)
theorem il_all {b : Nat → Nat} {n : Nat} {T : Nat → Ent} {s : Nat} : ∀ {d a e : Nat}, il b n T s d (.ok a) = .ok e → ∀ i, i < d → a + 2 * i + 2 ≤ n ∧ nmd b T s (num b 2 (a + 2 * i)) = true
  | 0, a, e, h, i, hi => absurd hi (Nat.not_lt_zero i)
  | d + 1, a, e, h, i, hi => by
    have h : il b n T s d (dmd (nmd b T s (vl b n 2 (.ok a))) a (itm n 2 (.ok a))) = .ok e := h
    obtain ⟨c, hc⟩ := il_fw h
    obtain ⟨h1, h2⟩ := dmd_ok hc
    obtain ⟨g, h3, h4, h5⟩ := itm_ok h1
    cases h3
    have ev : vl b n 2 (.ok a) = num b 2 a := by rw [vl, if_pos (by omega)]
    rw [hc] at h
    cases i with
    | zero =>
      rw [ev] at h2
      exact ⟨by omega, h2⟩
    | succ i =>
      have := il_all (d := d) h i (by omega)
      rw [h4] at this
      rw [show a + 2 * (i + 1) = a + 2 + 2 * i by omega]
      exact this
theorem rm_go {b : Nat → Nat} {n : Nat} {T : Nat → Ent} {s : Nat} {w : Nat → Bool} (hw : ∀ x, w x = true → tGo b T s x) : ∀ {d : Nat} {st : St} {m : Nat} {G : Nat → Nat × Nat} {a : Nat}, (rm b n T s w d st m G).1 = .ok a → (∀ i, i < m → tGo b T s (G i).2) → ∀ i, i < (rm b n T s w d st m G).2.1 → tGo b T s ((rm b n T s w d st m G).2.2 i).2
  | 0, st, m, G, a, h, hG => hG
  | d + 1, .error p, m, G, a, h, hG => by cases h
  | d + 1, .ok c, m, G, a, h, hG => by
    have h : (rm b n T s w d (raS b n T s (rm2 b n w (rm1 b n T s c))) (m + 1) (updG G m (vl b n 2 (.ok c), vl b n 2 (rm1 b n T s c)))).1 = .ok a := h
    obtain ⟨c1, h1⟩ := rm_fw h
    obtain ⟨c2, h2⟩ := ra_fw h1
    obtain ⟨-, -, -, h3⟩ := rm2_ok h2
    refine rm_go hw (d := d) h (fun i hi => ?_)
    unfold updG
    split
    · exact hw _ h3
    · exact hG i (by omega)
theorem rMG_go {b : Nat → Nat} {n a : Nat} (h : fnS b n = .ok a) : ∀ i, i < rMm b n → tGo b (poT b n) (poZ b n) (rMG b n i).2 := by
  obtain ⟨-, -, ⟨cm, hm⟩, ⟨cf, hf⟩, -⟩ := fn_fw h
  have h1 := rm_go (w := isY b (poT b n) (poZ b n)) (fun x hx => isY_go hx) hf (fun i hi => absurd hi (Nat.not_lt_zero i))
  exact rm_go (w := isM b (poT b n) (poZ b n)) (fun x hx => isM_go hx) hm h1
theorem rMm_8 {b : Nat → Nat} {n : Nat} {T : Nat → Ent} {s : Nat} {w : Nat → Bool} : ∀ {d : Nat} {st : St} {m : Nat} {G : Nat → Nat × Nat} {a : Nat}, (rm b n T s w d st m G).1 = .ok a → (∀ c, st = .ok c → 8 * m ≤ c) → 8 * (rm b n T s w d st m G).2.1 ≤ a
  | 0, st, m, G, a, h, hc => hc a h
  | d + 1, .error p, m, G, a, h, hc => by cases h
  | d + 1, .ok c, m, G, a, h, hc => by
    have h : (rm b n T s w d (raS b n T s (rm2 b n w (rm1 b n T s c))) (m + 1) (updG G m (vl b n 2 (.ok c), vl b n 2 (rm1 b n T s c)))).1 = .ok a := h
    refine rMm_8 (d := d) h (fun e he => ?_)
    obtain ⟨c1, t1, t2⟩ := ra_ok he
    obtain ⟨c2, t3, t4, -⟩ := itm_ok t1
    obtain ⟨q1, q2, -⟩ := rm2_ok t3
    have := hc c rfl
    omega
theorem rMm_le {b : Nat → Nat} {n a : Nat} (h : fnS b n = .ok a) : 8 * rMm b n ≤ n := by
  obtain ⟨h0, h1, ⟨cm, hm⟩, ⟨cf, hf⟩, -⟩ := fn_fw h
  have g1 : 8 * (fiS b n).2.1 ≤ cf := rMm_8 hf (fun c _ => by omega)
  have hm' := hm
  have g2 : 8 * (meS b n).2.1 ≤ cm := rMm_8 hm (fun c hc => by
    obtain ⟨e, e1, e2, -⟩ := itm_ok hc
    rw [hf] at e1
    cases e1
    omega)
  obtain ⟨c1, t1, t2⟩ := ra_ok h1
  obtain ⟨c2, t3, t4, t5⟩ := itm_ok t1
  rw [hm] at t3
  cases t3
  have : (meS b n).2.1 = rMm b n := rfl
  omega
section FI
variable {MI : Nat → Nat → Int32} {ML : Nat → Nat → Int64} {Q : Nat → Nat} {b : Nat → Nat} {n s : Nat} {T : Nat → Ent}
theorem c63 {q m : Nat} {G : Nat → Nat × Nat} (hq : xm_nth xSH q = some (3, 6)) (hm : m ≤ 50) (hG : ∀ i, i < m → tGo b T s (G i).2) (hD : Dr n (bBy b) MI) (hP : PW b n s T MI) (hM : MD m G MI) {S : Tb} (hT : TS S MI) {W7 W8 : List Wd} (h7 : US S W7 (ML q 7)) (h8 : US S W8 (ML q 8)) : xm_Ev xz 63 [.ref 0, .ref q] (xM MI ML Q) (fun r => ∃ M ML', r = (none, xM M ML' Q) ∧ RT MI M ∧ (∀ a j, ¬ (a = q ∧ 7 ≤ j ∧ j ≤ 8) → ML' a j = ML a j) ∧ TS (mts S (mbW b T G m 0)) M ∧ US (mts S (mbW b T G m 0)) (W7 ++ mbW b T G m 0) (ML' q 7) ∧ US (mts S (mbW b T G m 0)) (W8 ++ pbW b T G m 0) (ML' q 8)) := by
  have lp : ∀ (P : xm_R → Prop) (d i : Nat) (W7 W8 : List Wd) (S : Tb) (MI : Nat → Nat → Int32) (ML : Nat → Nat → Int64), i + d = m → Dr n (bBy b) MI → PW b n s T MI → MD m G MI → TS S MI → US S W7 (ML q 7) → US S W8 (ML q 8) → (∀ M ML', RT MI M → (∀ a j, ¬ (a = q ∧ 7 ≤ j ∧ j ≤ 8) → ML' a j = ML a j) → TS (mts S (mbW b T G d i)) M → US (mts S (mbW b T G d i)) (W7 ++ mbW b T G d i) (ML' q 7) → US (mts S (mbW b T G d i)) (W8 ++ pbW b T G d i) (ML' q 8) → P (none, xM M ML' Q)) → xq63 P (2, [some (.ref 0), some (.ref q), some (.int (nI i)), none, none], [], xM MI ML Q, 0, 0) := by
    intro P d
    induction d with
    | zero =>
      intro i W7 W8 S MI ML hi hD hP hM hT h7 h8 hF
      refine xb63_2 ?_
      rw [hM.1]
      refine pk_le m i (fun _ => hF MI ML (RT.rf MI) (fun _ _ _ => rfl) hT ?_ ?_) (fun h => absurd h (by omega))
      · show US S (W7 ++ []) _
        rw [List.append_nil]; exact h7
      · show US S (W8 ++ []) _
        rw [List.append_nil]; exact h8
    | succ d ih =>
      intro i W7 W8 S MI ML hi hD hP hM hT h7 h8 hF
      have vi : vp_in (nI i) 50 := vp_in_nI (by omega) (by decide)
      have ci : (nI i).toNatClampNeg = i := nI_clamp (by omega)
      obtain ⟨e1, e2⟩ := hM.2 i (by omega)
      refine xb63_2 ?_
      rw [hM.1]
      refine pk_le m i (fun h => absurd h (by omega)) (fun _ => ⟨vi, ?_⟩)
      rw [ci, e2]
      refine ⟨_, c62 hD hP hT (hG i (by omega)), ?_⟩
      rintro _ ⟨M, v, rfl, m1, m2, m3⟩
      refine xb63_43 ⟨hq, hq, vi, ?_⟩
      rw [ci, m1 10 i (by omega) (by omega), e1, nI_1]
      have md : MD m G M := ⟨(m1 1 10 (by omega) (by omega)).trans hM.1, fun j hj => by rw [m1 10 j (by omega) (by omega), m1 11 j (by omega) (by omega)]; exact hM.2 j hj⟩
      have eM : mbW b T G (d + 1) i = tw b T (G i).2 ++ mbW b T G d (i + 1) := rfl
      rw [eM] at hF
      refine ⟨fun h => ?_, fun h => ⟨hq, hq, ?_⟩⟩
      · have eB : pbW b T G (d + 1) i = pbW b T G d (i + 1) := by
          show (if nI (G i).1 &&& 5 = 0 then [] else tw b T (G i).2) ++ _ = _
          rw [if_pos h]; rfl
        rw [eB] at hF
        refine ih (i + 1) (W7 ++ tw b T (G i).2) W8 _ M _ (by omega) (m1.dr hD) (m1.pw hP) md m2 ?_ ?_ (fun M2 L2 g1 g2 g3 g4 g5 => hF M2 L2 (m1.tr g1) (fun a j z => by rw [g2 a j z, up_n (by omega)]) ?_ ?_ ?_)
        · rw [up_s]; exact (h7.mts _).or m3
        · rw [up_n (by omega)]; exact h8.mts _
        · rw [mts_app]; exact g3
        · rw [mts_app, ← List.append_assoc]; exact g4
        · rw [mts_app]; exact g5
      · have eB : pbW b T G (d + 1) i = tw b T (G i).2 ++ pbW b T G d (i + 1) := by
          show (if nI (G i).1 &&& 5 = 0 then [] else tw b T (G i).2) ++ _ = _
          rw [if_neg h]
        rw [eB] at hF
        refine ih (i + 1) (W7 ++ tw b T (G i).2) (W8 ++ tw b T (G i).2) _ M _ (by omega) (m1.dr hD) (m1.pw hP) md m2 ?_ ?_ (fun M2 L2 g1 g2 g3 g4 g5 => hF M2 L2 (m1.tr g1) (fun a j z => by rw [g2 a j z, up_n (by omega), up_n (by omega)]) ?_ ?_ ?_)
        · rw [up_n (by omega), up_s]; exact (h7.mts _).or m3
        · rw [up_s, up_n (by omega)]; exact (h8.mts _).or m3
        · rw [mts_app]; exact g3
        · rw [mts_app, ← List.append_assoc]; exact g4
        · rw [mts_app, ← List.append_assoc]; exact g5
  refine xm_in (xb63_0 (lp _ m 0 W7 W8 S MI ML (by omega) hD hP hM hT h7 h8 (fun M L g1 g2 g3 g4 g5 => ⟨M, L, rfl, g1, g2, g3, g4, g5⟩)))
theorem c64 (hb : ∀ i, b i < 256) {m a0 : Nat} (h7 : MI 1 7 = nI m) (h8 : MI 1 8 = nI a0) (hm : m < 65536) (hI : ∀ i, i < m → a0 + 2 * i + 2 ≤ n ∧ nmd b T s (num b 2 (a0 + 2 * i)) = true) (hD : Dr n (bBy b) MI) (hP : PW b n s T MI) {S : Tb} (hT : TS S MI) : xm_Ev xz 64 [.ref 0] (xM MI ML Q) (fun r => ∃ M u, r = (some (.long u), xM M ML Q) ∧ RT MI M ∧ TS (mts S (ifW b T a0 m 0)) M ∧ US (mts S (ifW b T a0 m 0)) (ifW b T a0 m 0) u) := by
  have lp : ∀ (P : xm_R → Prop) (d i : Nat) (W : List Wd) (S : Tb) (u : Int64) (MI : Nat → Nat → Int32), i + d = m → MI 1 7 = nI m → MI 1 8 = nI a0 → Dr n (bBy b) MI → PW b n s T MI → TS S MI → US S W u → (∀ M v, RT MI M → TS (mts S (ifW b T a0 d i)) M → US (mts S (ifW b T a0 d i)) (W ++ ifW b T a0 d i) v → P (some (.long v), xM M ML Q)) → xq64 P (4, [some (.ref 0), some (.long u), none, some (.int (nI i))], [], xM MI ML Q, 0, 0) := by
    intro P d
    induction d with
    | zero =>
      intro i W S u MI hi h7 h8 hD hP hT hU hF
      refine xb64_4 ?_
      rw [h7]
      refine pk_le m i (fun _ => hF MI u (RT.rf MI) hT ?_) (fun h => absurd h (by omega))
      show US S (W ++ []) _
      rw [List.append_nil]; exact hU
    | succ d ih =>
      intro i W S u MI hi h7 h8 hD hP hT hU hF
      obtain ⟨i1, i2⟩ := hI i (by omega)
      have e2 : (2 : Int32) * nI i = nI (2 * i) := by rw [show (2 : Int32) = nI 2 from rfl, pk_mul]
      refine xb64_4 ?_
      rw [h7, h8, e2, nI_add]
      refine pk_le m i (fun h => absurd h (by omega)) (fun _ => ⟨_, c18 hb hD (a := a0 + 2 * i) (k := 2) (by omega), ?_⟩)
      rintro _ rfl
      refine xb64_39 ⟨_, c55 hD hP hT i2, ?_⟩
      rintro _ ⟨M, rfl, m1, m2⟩
      refine xb64_42 ⟨_, c61 m2.1 (fun z => (mt_ov z).2), ?_⟩
      rintro _ ⟨v, rfl, hv⟩
      refine xb64_45 ?_
      rw [nI_1]
      refine ih (i + 1) (W ++ [wc b T (num b 2 (a0 + 2 * i))]) _ _ M (by omega) ((m1 1 7 (by omega) (by omega)).trans h7) ((m1 1 8 (by omega) (by omega)).trans h8) (m1.dr hD) (m1.pw hP) m2 ((hU.mt _).or hv) (fun M2 v2 g1 g2 g3 => hF M2 v2 (m1.tr g1) g2 ?_)
      rw [List.append_assoc] at g3
      exact g3
  exact xm_in (xb64_0 (lp _ m 0 [] S 0 MI (by omega) h7 h8 hD hP hT (US.nil S) (fun M v g1 g2 g3 => ⟨M, v, rfl, g1, g2, g3⟩)))
end FI
