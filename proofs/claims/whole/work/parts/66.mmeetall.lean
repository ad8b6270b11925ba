theorem cl_mem {b : Nat → Nat} {T : Nat → Ent} {s : Nat} {w : Wd} : ∀ {d k j : Nat}, k ≤ j → j < k + d → w ∈ cw b T s j → w ∈ clW b T s d k
  | 0, k, j, h1, h2, _ => absurd h2 (by omega)
  | d + 1, k, j, h1, h2, hw => by
    show w ∈ cw b T s k ++ clW b T s d (k + 1)
    by_cases hj : j = k
    · subst hj
      exact List.mem_append_left _ hw
    · exact List.mem_append_right _ (cl_mem (by omega) (by omega) hw)
theorem wc_mem {b : Nat → Nat} {n k : Nat} (h : nmd b (poT b n) (poZ b n) k = true) : wc b (poT b n) k ∈ fW1 b n := by
  obtain ⟨k1, k2, -⟩ := nmd_sp h
  refine List.mem_append_left _ (cl_mem (j := k) k1 (by omega) ?_)
  unfold cw
  rw [if_pos h]
  exact List.mem_singleton.mpr rfl
theorem ifW_mem {b : Nat → Nat} {n a : Nat} : ∀ {d i : Nat} {w : Wd}, (∀ j, j < i + d → nmd b (poT b n) (poZ b n) (num b 2 (a + 2 * j)) = true) → w ∈ ifW b (poT b n) a d i → w ∈ fW1 b n
  | 0, i, w, _, hw => absurd hw List.not_mem_nil
  | d + 1, i, w, h, hw => by
    rcases List.mem_cons.mp hw with rfl | hw
    · exact wc_mem (h i (by omega))
    · exact ifW_mem (d := d) (i := i + 1) (fun j hj => h j (by omega)) hw
section MY
variable {MI : Nat → Nat → Int32} {ML : Nat → Nat → Int64} {Q : Nat → Nat} {b : Nat → Nat} {n : Nat}
theorem SDm.cg {M : Nat → Nat → Int32} (h : SDm b n MI) (h1 : ∀ j, 4 ≤ j → j ≤ 16 → M 45 j = MI 45 j) (h2 : ∀ a j, 47 ≤ a → a ≤ 54 → M a j = MI a j) : SDm b n M := by
  obtain ⟨d1, d2, d3, d4, d5, d6, d7, d8⟩ := h
  refine ⟨d1.cg (h1 4 (by decide) (by decide)) (fun a j z1 z2 => h2 a j z1 (by omega)), ?_, ?_, ?_, ?_, fun i hi => ?_, ?_, ?_, fun i hi => ?_⟩
  · rw [h1 10 (by decide) (by decide)]; exact d2
  · rw [h1 11 (by decide) (by decide)]; exact d3
  · rw [h1 12 (by decide) (by decide)]; exact d4
  · rw [h1 13 (by decide) (by decide)]; exact d5
  · rw [h2 52 i (by decide) (by decide)]; exact d6 i hi
  · rw [h1 16 (by decide) (by decide)]; exact d7
  · rw [h1 15 (by decide) (by decide)]; exact d8.1
  · rw [h2 53 i (by decide) (by decide), h2 54 i (by decide) (by decide)]; exact d8.2 i hi
theorem MT.sd {M : Nat → Nat → Int32} (h : MT MI M) (hs : SDm b n MI) : SDm b n M := hs.cg (fun j _ _ => h 45 j (by omega) (by omega)) (fun a j _ _ => h a j (by omega) (by omega))
/-- the words of all meetings of a class file -/
def fWa (b : Nat → Nat) (n : Nat) : List Wd := ([wOwn b n] ++ fW1 b n) ++ fW2 b n
theorem fS3_eq (S : Tb) : fS3 b n S = mts S (fWa b n) := by
  unfold fS3 fS2 fS1 fWa
  rw [mts_app, mts_app]
  rfl
theorem fW_in {a : Nat} (h : fnS b n = .ok a) {S : Tb} (hS : (fS3 b n S).2 = false) : (∀ w, w ∈ fWs b n → w ∈ (fS3 b n S).1) ∧ (∀ w, w ∈ fWi b n → w ∈ (fS3 b n S).1) ∧ wOwn b n ∈ (fS3 b n S).1 := by
  obtain ⟨o1, o2, o3, -⟩ := pa_ok h
  have hS' := hS
  rw [fS3_eq] at hS'
  have k := (mts_ov hS').2
  rw [← fS3_eq] at k
  have in1 : ∀ w, w ∈ fW1 b n → w ∈ (fS3 b n S).1 := fun w hw => k w (List.mem_append_left _ (List.mem_append_right _ hw))
  refine ⟨fun w hw => ?_, fun w hw => in1 w (ifW_mem (fun j hj => (o3 j (by omega)).2) hw), in1 _ (wc_mem o1)⟩
  unfold fWs at hw
  split at hw
  · exact absurd hw List.not_mem_nil
  · rename_i hp
    rw [List.mem_singleton] at hw
    subst hw
    exact in1 _ (wc_mem (o2.resolve_left hp))
theorem fS45 {a : Nat} (h : fnS b n = .ok a) {S : Tb} (hS : (fS3 b n S).2 = false) : fS4 b n S = fS3 b n S ∧ fS5 b n S = fS3 b n S := by
  obtain ⟨k1, k2, -⟩ := fW_in h hS
  have e4 : fS4 b n S = fS3 b n S := mts_same k1
  refine ⟨e4, ?_⟩
  unfold fS5
  rw [e4]
  exact mts_same k2
theorem c140 {a : Nat} (hok : fnS b n = .ok a) (hD : Dm n (bBy b) MI) (hs : SDm b n MI) {S : Tb} (hT : TM S MI) (hU : US S [] (ML 45 23)) : xm_Ev xz 140 [.ref 45] (xM MI ML Q) (fun r => ∃ M L v, r = (some (.long v), xM M L Q) ∧ MT MI M ∧ MTL ML L ∧ TM (fS3 b n S) M ∧ ((fS3 b n S).2 = false → US (fS3 b n S) (fWa b n ++ (fWs b n ++ fWi b n)) (L 45 23) ∧ ∃ u8 us u1, US (fS3 b n S) (fWp b n ++ (fWs b n ++ fWi b n)) u8 ∧ US (fS3 b n S) (prW b (poT b n) (poZ b n - 1) 1) us ∧ US (fS3 b n S) [wOwn b n] u1 ∧ v = (if nI (rFl b n) &&& 1 = 1 then (u8 &&& (u1 ^^^ -1)) &&& (L 45 23 ||| us) else 0))) := by
  have hn := hD.1
  obtain ⟨o1, o2, o3, o4⟩ := pa_ok hok
  obtain ⟨s1, s2, s3, -⟩ := nmd_sp o1
  have h64 : poZ b n ≤ 64 := szo_le _
  have m50 : rMm b n ≤ 50 := by have := rMm_le hok; omega
  obtain ⟨P, eP⟩ : ∃ P, P = (fun r : xm_R => ∃ M L v, r = (some (.long v), xM M L Q) ∧ MT MI M ∧ MTL ML L ∧ TM (fS3 b n S) M ∧ ((fS3 b n S).2 = false → US (fS3 b n S) (fWa b n ++ (fWs b n ++ fWi b n)) (L 45 23) ∧ ∃ u8 us u1, US (fS3 b n S) (fWp b n ++ (fWs b n ++ fWi b n)) u8 ∧ US (fS3 b n S) (prW b (poT b n) (poZ b n - 1) 1) us ∧ US (fS3 b n S) [wOwn b n] u1 ∧ v = (if nI (rFl b n) &&& 1 = 1 then (u8 &&& (u1 ^^^ -1)) &&& (L 45 23 ||| us) else 0))) := ⟨_, rfl⟩
  rw [← eP]
  obtain ⟨own, eo⟩ : ∃ own, own = rv (fS1 b n S) (wOwn b n) := ⟨_, rfl⟩
  -- the faces
  have l199 : (fS3 b n S).2 = false → ∀ (d i : Nat) (V : List Wd) (u us : Int64) (M : Nat → Nat → Int32) (L : Nat → Nat → Int64), i + d = rIf b n → V ++ ifW b (poT b n) (rIa b n) d i = fWs b n ++ fWi b n → MT MI M → MTL ML L → TM (fS3 b n S) M → US (fS3 b n S) (fWa b n ++ V) (L 45 23) → US (fS3 b n S) (fWp b n ++ V) u → US (fS3 b n S) (prW b (poT b n) (poZ b n - 1) 1) us → xq140 P (199, [some (.ref 45), some (.int own), some (.long us), none, some (.long u), none, some (.int (nI i)), none, none], [], xM M L Q, 0, 0) := by
    intro hov d
    obtain ⟨kin1, kin2, kin3⟩ := fW_in hok hov
    have vI : rIf b n < 65536 := by
      have := o3
      by_cases hz : rIf b n < 65536
      · exact hz
      · have := (o3 65535 (by omega)).1
        omega
    induction d with
    | zero =>
      intro i V u us M L hi hV r1 r2 t1 t2 t3 t4
      have hV : V ++ [] = fWs b n ++ fWi b n := hV
      rw [List.append_nil] at hV
      subst hV
      obtain ⟨-, d2, d3, d4, d5, -⟩ := r1.sd hs
      refine xb140_199 ?_
      rw [d5]
      refine pk_le (rIf b n) i (fun _ => ?_) (fun h => absurd h (by omega))
      rw [d2]
      have hidx : own = nI ((fS1 b n S).1.idxOf (wOwn b n)) ∧ US (fS3 b n S) [wOwn b n] (one ((fS1 b n S).1.idxOf (wOwn b n))) ∧ (fS1 b n S).1.idxOf (wOwn b n) < 48 := by
        have hov1 : (fS1 b n S).2 = false := by
          have e : fS3 b n S = mts (fS1 b n S) (fW1 b n ++ fW2 b n) := by unfold fS3 fS2; rw [mts_app]
          rw [e] at hov
          exact (mts_ov hov).1
        have hm := (mt_ov hov1).2
        have h48 : (fS1 b n S).1.length ≤ 48 := mt_48 hT.1
        have hi := List.idxOf_lt_length_iff.mpr hm
        have hi' : (fS1 b n S).1.idxOf (wOwn b n) < (fS1 b n S).1.length := hi
        have e : fS3 b n S = mts (fS1 b n S) (fW1 b n ++ fW2 b n) := by unfold fS3 fS2; rw [mts_app]
        refine ⟨by rw [eo]; exact rv_one hm, ?_, by omega⟩
        rw [e]
        exact (US.one h48 hm).mts _
      obtain ⟨i1, i2, i3⟩ := hidx
      refine ⟨fun h => ⟨fun q => ?_, fun _ => ?_⟩, fun h => ?_⟩
      · rw [i1] at q
        exact absurd q (nI_pos (by omega))
      · rw [eP]
        refine ⟨M, L, _, rfl, r1, r2, t1, fun _ => ⟨t2, u, us, one ((fS1 b n S).1.idxOf (wOwn b n)), t3, t4, i2, ?_⟩⟩
        rw [if_pos h, i1]
        rfl
      · rw [eP]
        refine ⟨M, L, _, rfl, r1, r2, t1, fun _ => ⟨t2, u, us, one ((fS1 b n S).1.idxOf (wOwn b n)), t3, t4, i2, ?_⟩⟩
        rw [if_neg h]
    | succ d ih =>
      intro i V u us M L hi hV r1 r2 t1 t2 t3 t4
      obtain ⟨dq, -, -, -, d5, d6, -⟩ := r1.sd hs
      obtain ⟨i1, i2⟩ := o3 i (by omega)
      obtain ⟨f1, f2, f3, -⟩ := nmd_sp i2
      refine xb140_199 ?_
      rw [d5]
      refine pk_le (rIf b n) i (fun h => absurd h (by omega)) (fun _ => ⟨vp_in_nI (by omega) (by decide), ?_⟩)
      rw [nI_clamp (by omega), d6 i (by omega)]
      refine ⟨_, c141 (r1.dm hD) dq o4 t1 t2 f1 f2 f3, ?_⟩
      rintro _ ⟨M2, L2, v, rfl, m1, m2, m3, m4, -, m5⟩
      have ev := m5 i2
      have ec : cw b (poT b n) (poZ b n) (num b 2 (rIa b n + 2 * i)) = [wc b (poT b n) (num b 2 (rIa b n + 2 * i))] := by unfold cw; rw [if_pos i2]
      rw [ec] at m3 m4
      have hin : wc b (poT b n) (num b 2 (rIa b n + 2 * i)) ∈ (fS3 b n S).1 := by
        refine kin2 _ ?_
        have : wc b (poT b n) (num b 2 (rIa b n + 2 * i)) ∈ fWs b n ++ fWi b n := by
          rw [← hV]
          exact List.mem_append_right _ List.mem_cons_self
        rcases List.mem_append.mp this with q | q
        · have z := kin1 _ q
          -- it stands among the interfaces as well
          have : ∀ (d i j : Nat), i ≤ j → j < i + d → wc b (poT b n) (num b 2 (rIa b n + 2 * j)) ∈ ifW b (poT b n) (rIa b n) d i := by
            intro d
            induction d with
            | zero => intro i j h1 h2; omega
            | succ d ih =>
              intro i j h1 h2
              by_cases hj : j = i
              · subst hj; exact List.mem_cons_self
              · exact List.mem_cons_of_mem _ (ih (i + 1) j (by omega) (by omega))
          exact this (rIf b n) 0 i (by omega) (by omega)
        · exact q
      have es : mt (fS3 b n S) (wc b (poT b n) (num b 2 (rIa b n + 2 * i))) = fS3 b n S := by unfold mt; rw [if_pos hin]
      have es' : mts (fS3 b n S) [wc b (poT b n) (num b 2 (rIa b n + 2 * i))] = fS3 b n S := es
      rw [es'] at m3 m4
      rw [es, rv_one hin] at ev
      refine xb140_222 ?_
      rw [nI_1, ev]
      refine ih (i + 1) (V ++ [wc b (poT b n) (num b 2 (rIa b n + 2 * i))]) _ us M2 L2 (by omega) ?_ (r1.tr m1) (r2.tr m2) m3 ?_ ?_ t4
      · rw [List.append_assoc]; exact hV
      · rw [← List.append_assoc]; exact m4
      · rw [← List.append_assoc]; exact t3.or (US.one m3.1 hin)
  -- the members
  have l108 : ∀ (d i : Nat) (V U : List Wd) (S' : Tb) (u us : Int64) (M : Nat → Nat → Int32) (L : Nat → Nat → Int64), i + d = rMm b n → V ++ mbW b (poT b n) (rMG b n) d i = fWa b n → U ++ pbW b (poT b n) (rMG b n) d i = fWp b n → mts S' (mbW b (poT b n) (rMG b n) d i) = fS3 b n S → MT MI M → MTL ML L → TM S' M → US S' V (L 45 23) → US S' U u → US S' (prW b (poT b n) (poZ b n - 1) 1) us → xq140 P (108, [some (.ref 45), some (.int own), some (.long us), none, some (.long u), none, some (.int (nI i)), none, none], [], xM M L Q, 0, 0) := by
    intro d
    induction d with
    | zero =>
      intro i V U S' u us M L hi hV hU' hS' r1 r2 t1 t2 t3 t4
      have hV : V ++ [] = fWa b n := hV
      have hU' : U ++ [] = fWp b n := hU'
      rw [List.append_nil] at hV hU'
      have hS' : S' = fS3 b n S := hS'
      subst hV hU' hS'
      obtain ⟨dq, d2, d3, d4, d5, d6, d7, d8⟩ := r1.sd hs
      have vP : rPa b n < 65536 := by
        rcases o2 with q | q
        · omega
        · have := (nmd_sp q).2.1
          omega
      refine xb140_108 ?_
      rw [d8.1]
      refine pk_le (rMm b n) i (fun _ => ?_) (fun h => absurd h (by omega))
      rw [t1.2.2.1]
      refine ⟨fun h => ?_, fun h => ?_⟩
      · rw [bI_0] at h
        obtain ⟨kin1, kin2, kin3⟩ := fW_in hok h
        rw [d4]
        refine pk_le (rPa b n) 0 (fun hp => ?_) (fun hp => ?_)
        · have hp : rPa b n = 0 := by omega
          refine l199 h (rIf b n) 0 [] u us M L (by omega) ?_ r1 r2 t1 (by rw [List.append_nil]; exact t2) (by rw [List.append_nil]; exact t3) t4
          unfold fWs fWi
          rw [if_pos hp]
        · have hp0 : ¬ rPa b n = 0 := by omega
          have hp' := o2.resolve_left hp0
          obtain ⟨f1, f2, f3, -⟩ := nmd_sp hp'
          refine ⟨_, c141 (r1.dm hD) dq o4 t1 t2 f1 f2 f3, ?_⟩
          rintro _ ⟨M2, L2, v, rfl, m1, m2, m3, m4, -, m5⟩
          have ev := m5 hp'
          have ec : cw b (poT b n) (poZ b n) (rPa b n) = [wc b (poT b n) (rPa b n)] := by unfold cw; rw [if_pos hp']
          have eW : fWs b n = [wc b (poT b n) (rPa b n)] := by unfold fWs; rw [if_neg hp0]
          rw [ec] at m3 m4
          have hin : wc b (poT b n) (rPa b n) ∈ (fS3 b n S).1 := kin1 _ (by rw [eW]; exact List.mem_singleton.mpr rfl)
          have es : mt (fS3 b n S) (wc b (poT b n) (rPa b n)) = fS3 b n S := by unfold mt; rw [if_pos hin]
          have es' : mts (fS3 b n S) [wc b (poT b n) (rPa b n)] = fS3 b n S := es
          rw [es'] at m3 m4
          rw [es, rv_one hin] at ev
          refine xb140_187 ?_
          rw [ev]
          refine l199 h (rIf b n) 0 [wc b (poT b n) (rPa b n)] _ us M2 L2 (by omega) ?_ (r1.tr m1) (r2.tr m2) m3 m4 (t3.or (US.one m3.1 hin)) t4
          rw [eW]
          rfl
      · rw [bI_ne] at h
        rw [eP]
        exact ⟨M, L, _, rfl, r1, r2, t1, fun z => by rw [h] at z; cases z⟩
    | succ d ih =>
      intro i V U S' u us M L hi hV hU' hS' r1 r2 t1 t2 t3 t4
      obtain ⟨dq, -, -, -, -, -, -, d8⟩ := r1.sd hs
      obtain ⟨e1, e2⟩ := d8.2 i (by omega)
      refine xb140_108 ?_
      rw [d8.1]
      refine pk_le (rMm b n) i (fun h => absurd h (by omega)) (fun _ => ⟨vp_in_nI (by omega) (by decide), ?_⟩)
      rw [nI_clamp (by omega), e2]
      refine ⟨_, c142 (r1.dm hD) dq t1 t2 (rMG_go hok i (by omega)), ?_⟩
      rintro _ ⟨M2, L2, v, rfl, m1, m2, m3, m4, m5⟩
      refine xb140_128 ⟨vp_in_nI (by omega) (by decide), ?_⟩
      rw [nI_clamp (by omega), m1 53 i (by omega) (by omega), e1, nI_1]
      have eM : mbW b (poT b n) (rMG b n) (d + 1) i = tw b (poT b n) (rMG b n i).2 ++ mbW b (poT b n) (rMG b n) d (i + 1) := rfl
      rw [eM] at hV hS'
      rw [mts_app] at hS'
      rw [← List.append_assoc] at hV
      refine ⟨fun h => ?_, fun h => ?_⟩
      · have eB : pbW b (poT b n) (rMG b n) (d + 1) i = pbW b (poT b n) (rMG b n) d (i + 1) := by
          show (if nI (rMG b n i).1 &&& 5 = 0 then [] else _) ++ _ = _
          rw [if_pos h]; rfl
        rw [eB] at hU'
        exact ih (i + 1) _ U _ u us M2 L2 (by omega) hV hU' hS' (r1.tr m1) (r2.tr m2) m3 m4 (t3.mts _) (t4.mts _)
      · have eB : pbW b (poT b n) (rMG b n) (d + 1) i = tw b (poT b n) (rMG b n i).2 ++ pbW b (poT b n) (rMG b n) d (i + 1) := by
          show (if nI (rMG b n i).1 &&& 5 = 0 then [] else _) ++ _ = _
          rw [if_neg h]
        rw [eB, ← List.append_assoc] at hU'
        exact ih (i + 1) _ _ _ _ us M2 L2 (by omega) hV hU' hS' (r1.tr m1) (r2.tr m2) m3 m4 ((t3.mts _).or m5) (t4.mts _)
  -- the pairs
  have l57 : ∀ (d k : Nat) (V U : List Wd) (S' : Tb) (us : Int64) (M : Nat → Nat → Int32) (L : Nat → Nat → Int64), k + d = poZ b n → 1 ≤ k → V ++ prW b (poT b n) d k = [wOwn b n] ++ fW1 b n → U ++ prW b (poT b n) d k = prW b (poT b n) (poZ b n - 1) 1 → mts S' (prW b (poT b n) d k) = fS2 b n S → MT MI M → MTL ML L → TM S' M → US S' V (L 45 23) → US S' U us → xq140 P (57, [some (.ref 45), some (.int own), some (.long us), none, some (.int (nI k)), none, none, none, none], [], xM M L Q, 0, 0) := by
    intro d
    induction d with
    | zero =>
      intro k V U S' us M L hk k1 hV hU' hS' r1 r2 t1 t2 t3
      have hV : V ++ [] = [wOwn b n] ++ fW1 b n := hV
      have hU' : U ++ [] = prW b (poT b n) (poZ b n - 1) 1 := hU'
      rw [List.append_nil] at hV hU'
      have hS' : S' = fS2 b n S := hS'
      refine xb140_57 ?_
      rw [(r1.sd hs).1.1]
      refine pk_le (poZ b n) k (fun _ => ?_) (fun h => absurd h (by omega))
      refine l108 (rMm b n) 0 V [] S' 0 us M L (by omega) ?_ rfl ?_ r1 r2 t1 t2 (US.nil S') (by rw [← hU']; exact t3)
      · rw [hV]; rfl
      · rw [hS']; rfl
    | succ d ih =>
      intro k V U S' us M L hk k1 hV hU' hS' r1 r2 t1 t2 t3
      obtain ⟨dq, -⟩ := r1.sd hs
      have hlt : k < poZ b n := by omega
      obtain ⟨q47, -, -, q9⟩ := dq.2.2.2 k k1 (by omega)
      have kd := (dq.2.2.1 k).1
      have vk : vp_in (nI k) 65 := vp_in_nI (by omega) (by decide)
      refine xb140_57 ?_
      rw [dq.1, nI_clamp (show k < 2 ^ 31 by omega), q47, nI_1]
      refine pk_le (poZ b n) k (fun h => absurd h (by omega)) (fun _ => ⟨vk, pk_eq (poT b n k).kd 12 (fun h => ⟨vk, ?_⟩) (fun h => ?_)⟩)
      · rw [(q9 (by omega)).1]
        have eW : prW b (poT b n) (d + 1) k = tw b (poT b n) (poT b n k).s ++ prW b (poT b n) d (k + 1) := by
          show pw b (poT b n) k ++ _ = _
          unfold pw
          rw [if_pos h]
        rw [eW] at hV hU' hS'
        rw [mts_app] at hS'
        rw [← List.append_assoc] at hV hU'
        refine ⟨_, c142 (r1.dm hD) dq t1 t2 (o4.pair k1 hlt h), ?_⟩
        rintro _ ⟨M2, L2, v, rfl, m1, m2, m3, m4, m5⟩
        refine xb140_90 ?_
        rw [nI_1]
        exact ih (k + 1) _ _ _ _ M2 L2 (by omega) (by omega) hV hU' hS' (r1.tr m1) (r2.tr m2) m3 m4 ((t3.mts _).or m5)
      · have eW : prW b (poT b n) (d + 1) k = prW b (poT b n) d (k + 1) := by
          show pw b (poT b n) k ++ _ = _
          unfold pw
          rw [if_neg h]; rfl
        rw [eW] at hV hU' hS'
        exact ih (k + 1) V U S' us M L (by omega) (by omega) hV hU' hS' r1 r2 t1 t2 t3
  -- the classes
  have l11 : ∀ (d k : Nat) (V : List Wd) (S' : Tb) (M : Nat → Nat → Int32) (L : Nat → Nat → Int64), k + d = poZ b n → 1 ≤ k → V ++ clW b (poT b n) (poZ b n) d k = [wOwn b n] ++ clW b (poT b n) (poZ b n) (poZ b n - 1) 1 → mts S' (clW b (poT b n) (poZ b n) d k) = mts (fS1 b n S) (clW b (poT b n) (poZ b n) (poZ b n - 1) 1) → MT MI M → MTL ML L → TM S' M → US S' V (L 45 23) → xq140 P (11, [some (.ref 45), some (.int own), some (.int (nI k)), none, none, none, none, none, none], [], xM M L Q, 0, 0) := by
    intro d
    induction d with
    | zero =>
      intro k V S' M L hk k1 hV hS' r1 r2 t1 t2
      have hV : V ++ [] = [wOwn b n] ++ clW b (poT b n) (poZ b n) (poZ b n - 1) 1 := hV
      rw [List.append_nil] at hV
      have hS' : S' = mts (fS1 b n S) (clW b (poT b n) (poZ b n) (poZ b n - 1) 1) := hS'
      refine xb140_11 ?_
      rw [(r1.sd hs).1.1]
      refine pk_le (poZ b n) k (fun _ => ?_) (fun h => absurd h (by omega))
      refine l57 (poZ b n - 1) 1 V [] S' 0 M L (by omega) (by omega) ?_ rfl ?_ r1 r2 t1 t2 (US.nil S')
      · rw [hV]
        unfold fW1
        rw [List.append_assoc]
      · rw [hS']
        unfold fS2 fW1
        rw [mts_app]
    | succ d ih =>
      intro k V S' M L hk k1 hV hS' r1 r2 t1 t2
      obtain ⟨dq, -⟩ := r1.sd hs
      have hlt : k < poZ b n := by omega
      obtain ⟨q47, -⟩ := dq.2.2.2 k k1 (by omega)
      have kd := (dq.2.2.1 k).1
      have eW : clW b (poT b n) (poZ b n) (d + 1) k = cw b (poT b n) (poZ b n) k ++ clW b (poT b n) (poZ b n) d (k + 1) := rfl
      refine xb140_11 ?_
      rw [dq.1, nI_clamp (show k < 2 ^ 31 by omega), q47, nI_1]
      refine pk_le (poZ b n) k (fun h => absurd h (by omega)) (fun _ => ⟨vp_in_nI (by omega) (by decide), pk_eq (poT b n k).kd 7 (fun h => ?_) (fun h => ?_)⟩)
      · rw [eW] at hV hS'
        rw [mts_app] at hS'
        rw [← List.append_assoc] at hV
        refine ⟨_, c141 (r1.dm hD) dq o4 t1 t2 k1 hlt h, ?_⟩
        rintro _ ⟨M2, L2, v, rfl, m1, m2, m3, m4, m5, -⟩
        refine xb140_35 ⟨fun q => absurd q m5, fun _ => ?_⟩
        rw [nI_1]
        exact ih (k + 1) _ _ M2 L2 (by omega) (by omega) hV hS' (r1.tr m1) (r2.tr m2) m3 m4
      · have ec : cw b (poT b n) (poZ b n) k = [] := by
          unfold cw
          rw [if_neg (fun z => h (nmd_sp z).2.2.1), if_neg h]
        rw [eW, ec] at hV hS'
        exact ih (k + 1) V S' M L (by omega) (by omega) hV hS' r1 r2 t1 t2
  refine xm_in (xb140_0 ?_)
  rw [hs.2.2.1]
  refine ⟨_, c141 hD hs.1 o4 hT hU s1 s2 s3, ?_⟩
  rintro _ ⟨M2, L2, v, rfl, m1, m2, m3, m4, -, m5⟩
  have ev := m5 o1
  have ec : cw b (poT b n) (poZ b n) (rSe b n) = [wOwn b n] := by unfold cw; rw [if_pos o1]; rfl
  rw [ec] at m3 m4
  have ev : v = own := by rw [ev, eo]; rfl
  rw [ev]
  exact xb140_8 (l11 (poZ b n - 1) 1 [wOwn b n] (fS1 b n S) M2 L2 (by omega) (by omega) rfl rfl m1 m2 m3 m4)
end MY
