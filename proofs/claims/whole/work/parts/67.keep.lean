/-- both tables keep the same names -/
theorem IB_list {k : Nat} {MI : Nat → Nat → Int32} (h : IB k MI) : ∃ L : List Wd, L.length = k ∧ NS L MI ∧ NM L MI := by
  obtain ⟨h1, h2, h3, h4⟩ := h
  refine ⟨(List.range k).map (fun a => (List.range (Int32.toNatClampNeg (MI 14 a))).map (fun i => MI 13 (16 * a + i))), ?_, ?_⟩
  · rw [List.length_map, List.length_range]
  · have len : ((List.range k).map (fun a => (List.range (Int32.toNatClampNeg (MI 14 a))).map (fun i => MI 13 (16 * a + i)))).length = k := by rw [List.length_map, List.length_range]
    have at' : ∀ a, a < k → ((List.range k).map (fun a => (List.range (Int32.toNatClampNeg (MI 14 a))).map (fun i => MI 13 (16 * a + i)))).getD a [] = (List.range (Int32.toNatClampNeg (MI 14 a))).map (fun i => MI 13 (16 * a + i)) := fun a ha => by
      rw [List.getD_eq_getElem?_getD, List.getElem?_map, List.getElem?_range ha]
      rfl
    have let' : ∀ a l i, i < l → ((List.range l).map (fun i => MI 13 (16 * a + i))).getD i 0 = MI 13 (16 * a + i) := fun a l i hi => by
      rw [List.getD_eq_getElem?_getD, List.getElem?_map, List.getElem?_range hi]
      rfl
    have ll : ∀ a l, ((List.range l).map (fun i => MI 13 (16 * a + i))).length = l := fun a l => by rw [List.length_map, List.length_range]
    constructor
    · intro a ha
      rw [len] at ha
      obtain ⟨l, l1, l2, l3, l4, l5, l6, pl, p1, p2, p3, p4⟩ := h4 a ha
      rw [at' a ha, l3, nI_clamp (by omega)]
      refine ⟨⟨by rw [ll]; exact l1, by rw [ll]; exact l2, by rw [let' a l 0 (by omega)]; exact l6⟩, ⟨by rw [ll]; exact l3, fun i hi => ?_⟩, pl, p1, by rw [ll]; exact p2, fun i hi q => ?_, fun q => ?_⟩
      · rw [ll] at hi
        rw [let' a l i hi]
      · rw [ll] at hi
        rw [let' a l i hi] at q
        exact p3 i hi q
      · rw [let' a l pl p2]
        exact p4 q
    · intro a ha
      rw [len] at ha
      obtain ⟨l, l1, l2, l3, l4, l5, -⟩ := h4 a ha
      rw [at' a ha, l3, nI_clamp (by omega)]
      refine ⟨by rw [ll]; exact l2, by rw [ll]; exact l4, fun i hi => ?_⟩
      rw [ll] at hi
      rw [let' a l i hi, l5 i hi]
theorem list_IB {L : List Wd} {MI : Nat → Nat → Int32} (h48 : L.length ≤ 48) (h1 : MI 12 4 = nI L.length) (h2 : MI 45 19 = nI L.length) (hS : NS L MI) (hM : NM L MI) : IB L.length MI := by
  refine ⟨h48, h1, h2, fun a ha => ?_⟩
  obtain ⟨⟨g1, g2, g3⟩, ⟨n1, n2⟩, pl, p1, p2, p3, p4⟩ := hS a ha
  obtain ⟨-, m1, m2⟩ := hM a ha
  refine ⟨(L.getD a []).length, g1, g2, n1, m1, fun i hi => by rw [n2 i hi, m2 i hi], ?_, pl, p1, p2, fun i hi q => ?_, fun q => ?_⟩
  · have := n2 0 (by omega)
    rw [show 16 * a = 16 * a + 0 from rfl, this]
    exact g3
  · rw [n2 i hi] at q
    exact p3 i hi q
  · rw [n2 pl p2]
    exact p4 q
theorem pre_at {L L' : List Wd} (h : L <+: L') {a : Nat} (ha : a < L.length) : L'.getD a [] = L.getD a [] := by
  obtain ⟨r, rfl⟩ := h
  rw [List.getD_eq_getElem?_getD, List.getD_eq_getElem?_getD, List.getElem?_append_left ha]
theorem NS.pre {L L' : List Wd} {MI : Nat → Nat → Int32} (h : NS L' MI) (hp : L <+: L') : NS L MI := fun a ha => by
  have := h a (Nat.lt_of_lt_of_le ha hp.length_le)
  rw [pre_at hp ha] at this
  exact this
theorem NM.pre {L L' : List Wd} {MI : Nat → Nat → Int32} (h : NM L' MI) (hp : L <+: L') : NM L MI := fun a ha => by
  have := h a (Nat.lt_of_lt_of_le ha hp.length_le)
  rw [pre_at hp ha] at this
  exact this
theorem NM.cg {L : List Wd} {MI M : Nat → Nat → Int32} (h : NM L MI) (h1 : ∀ a j, 55 ≤ a → a ≤ 56 → M a j = MI a j) : NM L M := fun a ha => by
  rw [h1 56 a (by decide) (by decide)]
  obtain ⟨g1, g2, g3⟩ := h a ha
  exact ⟨g1, g2, fun i hi => by rw [h1 55 _ (by decide) (by decide)]; exact g3 i hi⟩
section KE
variable {MI : Nat → Nat → Int32} {ML : Nat → Nat → Int64} {Q : Nat → Nat} {b : Nat → Nat} {n : Nat}
theorem c50 {a : Nat} (hok : fnS b n = .ok a) (hD : Dr n (bBy b) MI) (hs : SD b n MI) {L : List Wd} (h48 : L.length ≤ 48) (h4 : MI 12 4 = nI L.length) (hN : NS L MI) {o : Bool} : xm_Ev xz 50 [.ref 0] (xM MI ML Q) (fun r => r = (some (.int (rv (L, o) (wOwn b n))), xM MI ML Q)) := by
  obtain ⟨o1, -⟩ := pa_ok hok
  obtain ⟨k1, k2, k3, f1, f2, f3, f4, -, -, -⟩ := nmd_sp o1
  have hP := hs.1
  obtain ⟨e1, -⟩ := (hP.2.2.2 (rSe b n) k1 k2).2.2.1 (Or.inr (by omega))
  obtain ⟨e2, e3⟩ := (hP.2.2.2 (poT b n (rSe b n)).f f1 f2).2.2.1 (Or.inl f3)
  obtain ⟨-, -, -, -, t5⟩ := hP.2.2.1 (poT b n (rSe b n)).f
  obtain ⟨t6, t7⟩ := t5 f3
  refine xm_in (xb50_0 ?_)
  rw [hs.2.2.1]
  refine ⟨_, c39 hP k1 k2, ?_⟩
  rintro _ rfl
  rw [e1]
  refine xb50_17 ⟨_, c39 hP f1 f2, ?_⟩
  rintro _ rfl
  rw [e2]
  refine xb50_40 ⟨_, c40 hP f1 f2, ?_⟩
  rintro _ rfl
  rw [e3]
  refine xb50_51 ⟨_, c51 (o := o) hD h48 h4 hN t6 t7, ?_⟩
  rintro _ rfl
  exact xb50_54 rfl
theorem c53 {c : Nat} (hc : c ≤ 16) (h1 : MI 17 1 = nI c) (hQ : IQ Q) {J N : Nat → Int32} (hr : ∀ i, i < c → MI (Q i - 1) 0 = J i ∧ MI (Q i - 1) 1 = N i) (x y : Int32) : xm_Ev xz 53 [.ref 17, .int x, .int y] (xM MI ML Q) (fun r => ∃ z : Bool, r = (some (.int (bI z)), xM MI ML Q) ∧ (z = true ↔ ∃ i, i < c ∧ J i = x ∧ N i = y)) := by
  have lp : ∀ (d i : Nat), i + d = c → (∀ j, j < i → ¬ (J j = x ∧ N j = y)) → xq53 (fun r => ∃ z : Bool, r = (some (.int (bI z)), xM MI ML Q) ∧ (z = true ↔ ∃ i, i < c ∧ J i = x ∧ N i = y)) (2, [some (.ref 17), some (.int x), some (.int y), some (.int (nI i))], [], xM MI ML Q, 0, 0) := by
    intro d
    induction d with
    | zero =>
      intro i hi hj
      refine xb53_2 ?_
      rw [h1]
      exact pk_le c i (fun _ => ⟨Or.inl rfl, false, rfl, fun q => (by cases q), fun ⟨j, j1, j2⟩ => absurd j2 (hj j (by omega))⟩) (fun h => absurd h (by omega))
    | succ d ih =>
      intro i hi hj
      obtain ⟨q1, q2, q3, q4⟩ := hQ.at (i := i) (by omega)
      obtain ⟨r1, r2⟩ := hr i (by omega)
      have v : vp_in (nI i) 16 := vp_in_nI (by omega) (by decide)
      have nx : ¬ (J i = x ∧ N i = y) → xq53 (fun r => ∃ z : Bool, r = (some (.int (bI z)), xM MI ML Q) ∧ (z = true ↔ ∃ i, i < c ∧ J i = x ∧ N i = y)) (2, [some (.ref 17), some (.int x), some (.int y), some (.int (nI (i + 1)))], [], xM MI ML Q, 0, 0) := fun q => by
        refine ih (i + 1) (by omega) (fun j hj' => ?_)
        by_cases hji : j = i
        · subst hji; exact q
        · exact hj j (by omega)
      refine xb53_2 ?_
      rw [h1]
      refine pk_le c i (fun h => absurd h (by omega)) (fun _ => ⟨v, Q i - 1, q1, q2, ?_⟩)
      rw [r1, nI_1]
      refine ⟨fun e => ⟨v, Q i - 1, q1, q2, ?_⟩, fun e => nx (fun q => e q.1)⟩
      rw [r2]
      exact ⟨fun e2 => ⟨Or.inr rfl, true, rfl, fun _ => ⟨i, by omega, e, e2⟩, fun _ => rfl⟩, fun e2 => nx (fun q => e2 q.2)⟩
  exact xm_in (xb53_0 (lp c 0 (by omega) (fun j hj => absurd hj (Nat.not_lt_zero j))))
/-- a row is kept -/
theorem c144 {a : Nat} (hok : fnS b n = .ok a) (hD : Dm n (bBy b) MI) (hs : SDm b n MI) {S : Tb} (hT : TM S MI) (hin : ∀ w, w ∈ fWs b n → w ∈ S.1) {W : List Wd} (hU : US S W (ML 45 23)) {c : Nat} (hc : c < 16) (h24 : MI 45 24 = nI c) (x : Int32) (o : Nat) (v : Int64) : xm_Ev xz 144 [.ref 45, .int x, .int (nI o), .long v] (xM MI ML Q) (fun r => ∃ M L u, r = (none, xM M L Q) ∧ (∀ a j, ¬ (a = 45 ∧ 19 ≤ j ∧ j ≤ 24) → ¬ (55 ≤ a ∧ a ≤ 63) → M a j = MI a j) ∧ (∀ a j, 57 ≤ a → a ≤ 63 → j ≠ c → M a j = MI a j) ∧ (∀ a j, ¬ (a = 45 ∧ j = 23) → ¬ (64 ≤ a ∧ a ≤ 65 ∧ j = c) → L a j = ML a j) ∧ TM S M ∧ M 45 24 = nI (c + 1) ∧ M 57 c = x ∧ M 58 c = nI o ∧ M 59 c = (if rPa b n = 0 then -1 else rv S (wc b (poT b n) (rPa b n))) ∧ M 60 c = nI (rFl b n) ∧ M 61 c = nI (rIf b n) ∧ M 62 c = nI (rMf b n) ∧ M 63 c = nI (rMm b n) - nI (rMf b n) ∧ US S (W ++ fWs b n) u ∧ L 64 c = u &&& (one o ^^^ -1) ∧ L 65 c = v) := by
  have hn := hD.1
  obtain ⟨o1, o2, o3, o4⟩ := pa_ok hok
  obtain ⟨d1, d2, d3, d4, d5, d6, d7, d8⟩ := hs
  have cl : (nI c).toNatClampNeg = c := nI_clamp (by omega)
  have vc : vp_in (nI c) 16 := vp_in_nI hc (by decide)
  have vP : rPa b n < 65536 := by
    rcases o2 with q | q
    · omega
    · have := (nmd_sp q).2.1
      have h64 : poZ b n ≤ 64 := szo_le _
      omega
  refine xm_in (xb144_0 ?_)
  rw [h24, cl, d4]
  refine ⟨vc, vc, pk_le (rPa b n) 0 (fun hp => ⟨vc, vc, vc, vc, vc, vc, vc, ?_⟩) (fun hp => ?_)⟩
  · have hp : rPa b n = 0 := by omega
    have eW : fWs b n = [] := by unfold fWs; rw [if_pos hp]
    have mo : ∀ a j, ¬ (a = 45 ∧ 19 ≤ j ∧ j ≤ 24) → ¬ (55 ≤ a ∧ a ≤ 63) → xm_up (xm_up (xm_up (xm_up (xm_up (xm_up (xm_up (xm_up MI 57 c x) 58 c (nI o)) 59 c (-1)) 60 c (MI 45 10)) 61 c (MI 45 13)) 62 c (MI 45 16)) 63 c (MI 45 15 - MI 45 16)) 45 24 (nI c + 1) a j = MI a j := fun a j z1 z2 => by rw [up_n (by omega), up_n (by omega), up_n (by omega), up_n (by omega), up_n (by omega), up_n (by omega), up_n (by omega), up_n (by omega)]
    have mt' : ∀ a j, ¬ (a = 45 ∧ j = 24) → ¬ (57 ≤ a ∧ a ≤ 63 ∧ j = c) → xm_up (xm_up (xm_up (xm_up (xm_up (xm_up (xm_up (xm_up MI 57 c x) 58 c (nI o)) 59 c (-1)) 60 c (MI 45 10)) 61 c (MI 45 13)) 62 c (MI 45 16)) 63 c (MI 45 15 - MI 45 16)) 45 24 (nI c + 1) a j = MI a j := fun a j z1 z2 => by rw [up_n (by omega), up_n (by omega), up_n (by omega), up_n (by omega), up_n (by omega), up_n (by omega), up_n (by omega), up_n (by omega)]
    obtain ⟨t1, t2, t3, t4⟩ := hT
    refine ⟨_, _, ML 45 23, rfl, mo, fun a j z1 z2 z3 => mt' a j (by omega) (by omega), fun a j z1 z2 => by rw [up_n (by omega), up_n (by omega)], ⟨t1, by rw [mt' 45 19 (by omega) (by omega)]; exact t2, by rw [mt' 45 22 (by omega) (by omega)]; exact t3, t4.cg (fun a j z1 z2 => mt' a j (by omega) (by omega))⟩, by rw [up_s, nI_1], ?_, ?_, ?_, ?_, ?_, ?_, ?_, ?_, ?_, ?_⟩
    · rw [up_n (by omega), up_n (by omega), up_n (by omega), up_n (by omega), up_n (by omega), up_n (by omega), up_n (by omega), up_s]
    · rw [up_n (by omega), up_n (by omega), up_n (by omega), up_n (by omega), up_n (by omega), up_n (by omega), up_s]
    · rw [up_n (by omega), up_n (by omega), up_n (by omega), up_n (by omega), up_n (by omega), up_s, if_pos hp]
    · rw [up_n (by omega), up_n (by omega), up_n (by omega), up_n (by omega), up_s]; exact d2
    · rw [up_n (by omega), up_n (by omega), up_n (by omega), up_s]; exact d5
    · rw [up_n (by omega), up_n (by omega), up_s]; exact d7
    · rw [up_n (by omega), up_s, d7, d8.1]
    · rw [eW, List.append_nil]; exact hU
    · rw [up_n (by omega), up_s]; rfl
    · rw [up_s]
  · have hp0 : ¬ rPa b n = 0 := by omega
    have hp' := o2.resolve_left hp0
    obtain ⟨f1, f2, f3, -⟩ := nmd_sp hp'
    have eW : fWs b n = [wc b (poT b n) (rPa b n)] := by unfold fWs; rw [if_neg hp0]
    have hm : wc b (poT b n) (rPa b n) ∈ S.1 := hin _ (by rw [eW]; exact List.mem_singleton.mpr rfl)
    have u0 : ∀ a j, ¬ (57 ≤ a ∧ a ≤ 58 ∧ j = c) → xm_up (xm_up MI 57 c x) 58 c (nI o) a j = MI a j := fun a j z => by rw [up_n (by omega), up_n (by omega)]
    obtain ⟨t1, t2, t3, t4⟩ := hT
    have T0' : TM S (xm_up (xm_up MI 57 c x) 58 c (nI o)) := ⟨t1, by rw [u0 45 19 (by omega)]; exact t2, by rw [u0 45 22 (by omega)]; exact t3, t4.cg (fun a j z1 z2 => u0 a j (by omega))⟩
    have D0 : Dm n (bBy b) (xm_up (xm_up MI 57 c x) 58 c (nI o)) := ⟨hn, (u0 45 1 (by omega)).trans hD.2.1, fun i hi => (u0 46 i (by omega)).trans (hD.2.2 i hi)⟩
    have Q0 : QW n (poZ b n) (poT b n) (xm_up (xm_up MI 57 c x) 58 c (nI o)) := d1.cg (u0 45 4 (by omega)) (fun a j z1 z2 => u0 a j (by omega))
    refine ⟨_, c141 D0 Q0 o4 T0' hU f1 f2 f3, ?_⟩
    rintro _ ⟨M, L, w, rfl, m1, m2, m3, m4, -, m5⟩
    have ev := m5 hp'
    have ec : cw b (poT b n) (poZ b n) (rPa b n) = [wc b (poT b n) (rPa b n)] := by unfold cw; rw [if_pos hp']
    have es : mt S (wc b (poT b n) (rPa b n)) = S := by unfold mt; rw [if_pos hm]
    have es' : mts S [wc b (poT b n) (rPa b n)] = S := es
    rw [ec, es'] at m3 m4
    rw [es] at ev
    have mm : ∀ a j, ¬ (a = 45 ∧ 19 ≤ j ∧ j ≤ 22) → ¬ (55 ≤ a ∧ a ≤ 58) → M a j = MI a j := fun a j z1 z2 => by rw [m1 a j z1 (by omega), u0 a j (by omega)]
    refine xb144_43 ⟨vc, vc, vc, vc, vc, vc, vc, ?_⟩
    rw [cl, mm 45 24 (by omega) (by omega), h24, nI_1, mm 45 10 (by omega) (by omega), mm 45 13 (by omega) (by omega), mm 45 16 (by omega) (by omega), mm 45 15 (by omega) (by omega)]
    have mt' : ∀ a j, ¬ (a = 45 ∧ j = 24) → ¬ (59 ≤ a ∧ a ≤ 63 ∧ j = c) → xm_up (xm_up (xm_up (xm_up (xm_up (xm_up M 59 c w) 60 c (MI 45 10)) 61 c (MI 45 13)) 62 c (MI 45 16)) 63 c (MI 45 15 - MI 45 16)) 45 24 (nI (c + 1)) a j = M a j := fun a j z1 z2 => by rw [up_n (by omega), up_n (by omega), up_n (by omega), up_n (by omega), up_n (by omega), up_n (by omega)]
    obtain ⟨t1, t2, t3, t4⟩ := m3
    refine ⟨_, _, L 45 23, rfl, fun a j z1 z2 => by rw [mt' a j (by omega) (by omega)]; exact mm a j (by omega) (by omega), fun a j z1 z2 z3 => by rw [mt' a j (by omega) (by omega), m1 a j (by omega) (by omega), u0 a j (by omega)], fun a j z1 z2 => by rw [up_n (by omega), up_n (by omega)]; exact m2 a j z1, ⟨t1, by rw [mt' 45 19 (by omega) (by omega)]; exact t2, by rw [mt' 45 22 (by omega) (by omega)]; exact t3, t4.cg (fun a j z1 z2 => mt' a j (by omega) (by omega))⟩, by rw [up_s], ?_, ?_, ?_, ?_, ?_, ?_, ?_, ?_, ?_, ?_⟩
    · rw [mt' 57 c (by omega) (by omega), m1 57 c (by omega) (by omega), up_n (by omega), up_s]
    · rw [mt' 58 c (by omega) (by omega), m1 58 c (by omega) (by omega), up_s]
    · rw [up_n (by omega), up_n (by omega), up_n (by omega), up_n (by omega), up_n (by omega), up_s, if_neg hp0]; exact ev
    · rw [up_n (by omega), up_n (by omega), up_n (by omega), up_n (by omega), up_s]; exact d2
    · rw [up_n (by omega), up_n (by omega), up_n (by omega), up_s]; exact d5
    · rw [up_n (by omega), up_n (by omega), up_s]; exact d7
    · rw [up_n (by omega), up_s, d7, d8.1]
    · rw [eW]; exact m4
    · rw [up_n (by omega), up_s]; rfl
    · rw [up_s]
end KE
