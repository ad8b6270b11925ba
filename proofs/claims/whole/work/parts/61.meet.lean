/-- a name in the scanner's table -/
def nmS (MI : Nat → Nat → Int32) (a : Nat) (w : Wd) : Prop := MI 14 a = nI w.length ∧ ∀ i, i < w.length → MI 13 (16 * a + i) = w.getD i 0
def PLs (MI : Nat → Nat → Int32) (a : Nat) (w : Wd) : Prop := ∃ pl : Nat, MI 15 a = nI pl ∧ pl < w.length ∧ (∀ i, i < w.length → w.getD i 0 = 47 → i ≤ pl) ∧ (pl ≠ 0 → w.getD pl 0 = 47)
def NS (L : List Wd) (MI : Nat → Nat → Int32) : Prop := ∀ a, a < L.length → gW (L.getD a []) ∧ nmS MI a (L.getD a []) ∧ PLs MI a (L.getD a [])
def AG (k : Nat) (MI M : Nat → Nat → Int32) : Prop := ∀ a, a < k → M 14 a = MI 14 a ∧ M 15 a = MI 15 a ∧ M 16 a = MI 16 a ∧ ∀ i, i < 16 → M 13 (16 * a + i) = MI 13 (16 * a + i)
/-- the scanner's table -/
def TS (S : Tb) (MI : Nat → Nat → Int32) : Prop := S.1.length ≤ 48 ∧ MI 12 4 = nI S.1.length ∧ MI 12 5 = bI S.2 ∧ NS S.1 MI ∧ IP S.1.length MI
theorem NS.cg {L : List Wd} {MI M : Nat → Nat → Int32} (h : NS L MI) (hA : AG L.length MI M) : NS L M := by
  intro a ha
  obtain ⟨g, ⟨n1, n2⟩, pl, p1, p2, p3, p4⟩ := h a ha
  obtain ⟨a1, a2, a3, a4⟩ := hA a ha
  refine ⟨g, ⟨a1.trans n1, fun i hi => ?_⟩, pl, a2.trans p1, p2, p3, p4⟩
  rw [a4 i (by have := g.2.1; omega)]
  exact n2 i hi
theorem NS.vp {L : List Wd} {MI : Nat → Nat → Int32} (h : NS L MI) {a : Nat} (ha : a < L.length) : MI 15 a = nI (vP MI a) ∧ vP MI a < 16 := by
  obtain ⟨g, -, pl, p1, p2, p3, p4⟩ := h a ha
  have := g.2.1
  have e : vP MI a = pl := by unfold vP; rw [p1, nI_clamp (by omega)]
  rw [e]
  exact ⟨p1, by omega⟩
theorem SP_cg {L : List Wd} {MI M : Nat → Nat → Int32} (h : NS L MI) (hA : AG L.length MI M) {a c : Nat} (ha : a < L.length) (hc : c < L.length) : SP M a c ↔ SP MI a c := by
  obtain ⟨-, a2, -, a4⟩ := hA a ha
  obtain ⟨-, c2, -, c4⟩ := hA c hc
  have e1 : vP M a = vP MI a := by unfold vP; rw [a2]
  have e2 : vP M c = vP MI c := by unfold vP; rw [c2]
  have v := (h.vp ha).2
  unfold SP
  rw [e1, e2]
  constructor
  · rintro ⟨q1, q2⟩
    exact ⟨q1, fun i hi => by rw [← a4 i (by omega), ← c4 i (by omega)]; exact q2 i hi⟩
  · rintro ⟨q1, q2⟩
    exact ⟨q1, fun i hi => by rw [a4 i (by omega), c4 i (by omega)]; exact q2 i hi⟩
theorem IP_cg {L : List Wd} {MI M : Nat → Nat → Int32} (h : NS L MI) (hA : AG L.length MI M) (hI : IP L.length MI) : IP L.length M := by
  intro a ha
  obtain ⟨x, x1, x2, x3, x4⟩ := hI a ha
  refine ⟨x, x1, (hA a ha).2.2.1.trans x2, (SP_cg h hA (by omega) ha).mpr x3, fun c hc q => x4 c hc ((SP_cg h hA (by omega) ha).mp q)⟩
theorem idx_at : ∀ {L : List Wd} {w : Wd} {a : Nat}, a < L.length → L.getD a [] = w → (∀ j, j < a → L.getD j [] ≠ w) → w ∈ L ∧ L.idxOf w = a
  | [], w, a, h, _, _ => absurd h (Nat.not_lt_zero a)
  | x :: L, w, 0, h, h1, _ => by
    have h1 : x = w := h1
    subst h1
    exact ⟨List.mem_cons_self, List.idxOf_cons_self⟩
  | x :: L, w, a + 1, h, h1, h2 => by
    have hx : x ≠ w := h2 0 (by omega)
    have h1 : L.getD a [] = w := h1
    have hl : a + 1 < L.length + 1 := h
    obtain ⟨g1, g2⟩ := idx_at (L := L) (w := w) (a := a) (by omega) h1 (fun j hj => h2 (j + 1) (by omega))
    refine ⟨List.mem_cons_of_mem _ g1, ?_⟩
    rw [List.idxOf_cons, show (x == w) = false from beq_eq_false_iff_ne.mpr hx, g2]
    rfl
theorem getD_mem {L : List Wd} {a : Nat} (h : a < L.length) : L.getD a [] ∈ L := by
  rw [List.getD_eq_getElem?_getD, List.getElem?_eq_getElem h]
  exact List.getElem_mem h
theorem idx_no {L : List Wd} {w : Wd} (h : ∀ j, j < L.length → L.getD j [] ≠ w) : ¬ w ∈ L := by
  intro q
  obtain ⟨i, hi, e⟩ := List.mem_iff_getElem.mp q
  refine h i hi ?_
  rw [List.getD_eq_getElem?_getD, List.getElem?_eq_getElem hi]
  exact e
theorem getD_l {L : List Wd} {w : Wd} {a : Nat} (h : a < L.length) : (L ++ [w]).getD a [] = L.getD a [] := by
  rw [List.getD_eq_getElem?_getD, List.getD_eq_getElem?_getD, List.getElem?_append_left h]
theorem getD_r {L : List Wd} {w : Wd} : (L ++ [w]).getD L.length [] = w := by
  rw [List.getD_eq_getElem?_getD, List.getElem?_append_right (Nat.le_refl _), Nat.sub_self]
  rfl
section ME
variable {MI : Nat → Nat → Int32} {ML : Nat → Nat → Int64} {Q : Nat → Nat} {b : Nat → Nat} {n : Nat}
theorem ix16' {a i : Nat} : nI a * (16 : Int32) + nI i = nI (16 * a + i) := by rw [show (16 : Int32) = nI 16 from rfl, pk_mul, nI_add, Nat.mul_comm]
theorem mul16 {a : Nat} : nI a * (16 : Int32) = nI (16 * a) := by rw [show (16 : Int32) = nI 16 from rfl, pk_mul, Nat.mul_comm]
theorem c52 (hD : Dr n (bBy b) MI) {f a len : Nat} (hf : f + len ≤ n) (ha : 16 * a + len ≤ 768) : xm_Ev xz 52 [.ref 2, .int (nI f), .ref 13, .int (nI (16 * a)), .int (nI len)] (xM MI ML Q) (fun r => ∃ z : Bool, r = (some (.int (bI z)), xM MI ML Q) ∧ (z = true ↔ ∀ i, i < len → nI (b (f + i)) = MI 13 (16 * a + i))) := by
  have hn := hD.1
  have lp : ∀ (d i : Nat), i + d = len → (∀ j, j < i → nI (b (f + j)) = MI 13 (16 * a + j)) → xq52 (fun r => ∃ z : Bool, r = (some (.int (bI z)), xM MI ML Q) ∧ (z = true ↔ ∀ i, i < len → nI (b (f + i)) = MI 13 (16 * a + i))) (33, [some (.ref 2), some (.int (nI f)), some (.ref 13), some (.int (nI (16 * a))), some (.int (nI len)), some (.int (nI i))], [], xM MI ML Q, 0, 0) := by
    intro d
    induction d with
    | zero =>
      intro i hi hj
      exact xb52_33 (pk_le len i (fun _ => ⟨Or.inr rfl, true, rfl, fun _ j q => hj j (by omega), fun _ => rfl⟩) (fun h => absurd h (by omega)))
    | succ d ih =>
      intro i hi hj
      refine xb52_33 (pk_le len i (fun h => absurd h (by omega)) (fun _ => ?_))
      rw [nI_add, nI_add, nI_clamp (by omega), nI_clamp (by omega), hD.2.2 (f + i) (by omega), nI_1]
      refine ⟨vp_in_nI (by omega) (by decide), vp_in_nI (by omega) (by decide), fun e => ?_, fun e => ⟨Or.inl rfl, false, rfl, fun q => (by cases q), fun q => absurd (q i (by omega)) e⟩⟩
      refine ih (i + 1) (by omega) (fun j hj' => ?_)
      by_cases hji : j = i
      · subst hji; exact e
      · exact hj j (by omega)
  refine xm_in (xb52_0 ⟨fun h => absurd h (nI_pos (by omega)), fun _ => ?_⟩)
  rw [hD.2.1, pk_sub (by omega)]
  refine pk_lt (n - f) len (fun h => absurd h (by omega)) (fun _ => ⟨fun h => absurd h (nI_pos (by omega)), fun _ => ?_⟩)
  have e7 : Int32.ofNat 768 - nI (16 * a) = nI (768 - 16 * a) := pk_sub (a := 768) (by omega)
  rw [e7]
  exact pk_le len (768 - 16 * a) (fun _ => lp len 0 (by omega) (fun j q => absurd q (Nat.not_lt_zero j))) (fun h => absurd h (by omega))
theorem c51 (hD : Dr n (bBy b) MI) {L : List Wd} (h48 : L.length ≤ 48) (h4 : MI 12 4 = nI L.length) (hN : NS L MI) {o : Bool} {f t : Nat} (hf : f ≤ t) (ht : t ≤ n) : xm_Ev xz 51 [.ref 12, .ref 2, .int (nI f), .int (nI t)] (xM MI ML Q) (fun r => r = (some (.int (rv (L, o) (wB b f t))), xM MI ML Q)) := by
  have hn := hD.1
  have lp : ∀ (d a : Nat), a + d = L.length → (∀ j, j < a → L.getD j [] ≠ wB b f t) → xq51 (fun r => r = (some (.int (rv (L, o) (wB b f t))), xM MI ML Q)) (3, [some (.ref 12), some (.ref 2), some (.int (nI f)), some (.int (nI t)), some (.int (nI a)), none], [], xM MI ML Q, 0, 0) := by
    intro d
    induction d with
    | zero =>
      intro a ha hj
      refine xb51_3 ?_
      rw [h4]
      refine pk_le L.length a (fun _ => ?_) (fun h => absurd h (by omega))
      unfold rv
      rw [if_neg (idx_no (fun j q => hj j (by omega)))]
    | succ d ih =>
      intro a ha hj
      have hl : a < L.length := by omega
      obtain ⟨g, ⟨n1, n2⟩, -⟩ := hN a hl
      have g2 := g.2.1
      have nx : L.getD a [] ≠ wB b f t → xq51 (fun r => r = (some (.int (rv (L, o) (wB b f t))), xM MI ML Q)) (3, [some (.ref 12), some (.ref 2), some (.int (nI f)), some (.int (nI t)), some (.int (nI (a + 1))), none], [], xM MI ML Q, 0, 0) := fun q => by
        refine ih (a + 1) (by omega) (fun j hj' => ?_)
        by_cases hja : j = a
        · subst hja; exact q
        · exact hj j (by omega)
      refine xb51_3 ?_
      rw [h4]
      refine pk_le L.length a (fun h => absurd h (by omega)) (fun _ => ⟨vp_in_nI (by omega) (by decide), ?_⟩)
      rw [nI_clamp (by omega), n1, pk_sub hf, nI_1, mul16]
      refine pk_eq (L.getD a []).length (t - f) (fun e => ⟨_, c52 hD (f := f) (a := a) (len := t - f) (by omega) (by omega), ?_⟩) (fun e => nx (fun q => e (by rw [q, wB_len])))
      rintro _ ⟨z, rfl, hz⟩
      refine xb51_46 ⟨fun h => ?_, fun h => ?_⟩
      · rw [bI_0] at h
        rw [nI_1]
        refine nx (fun q => ?_)
        have : z = true := hz.mpr (fun i hi => by rw [n2 i (by omega), q, wB_at hi])
        rw [this] at h
        cases h
      · rw [bI_ne] at h
        have hz := hz.mp h
        have ew : L.getD a [] = wB b f t := Wd_ext (by rw [e, wB_len]) (fun i hi => by rw [← n2 i hi, wB_at (by omega), hz i (by omega)])
        obtain ⟨i1, i2⟩ := idx_at hl ew hj
        unfold rv
        rw [if_pos i1]
        show _ = (some (Value.int (nI (L.idxOf (wB b f t)))), _)
        rw [i2]
  exact xm_in (xb51_0 (lp L.length 0 (by omega) (fun j q => absurd q (Nat.not_lt_zero j))))
theorem c59 {a c pa pc : Nat} (ha : a < 48) (hc : c < 48) (h1 : MI 15 a = nI pa) (h2 : MI 15 c = nI pc) (p1 : pa < 16) (p2 : pc < 16) : xm_Ev xz 59 [.ref 12, .int (nI a), .int (nI c)] (xM MI ML Q) (fun r => ∃ z : Bool, r = (some (.int (bI z)), xM MI ML Q) ∧ (z = true ↔ SP MI a c)) := by
  have e1 : vP MI a = pa := by unfold vP; rw [h1, nI_clamp (by omega)]
  have e2 : vP MI c = pc := by unfold vP; rw [h2, nI_clamp (by omega)]
  have va : vp_in (nI a) 48 := vp_in_nI ha (by decide)
  have vc : vp_in (nI c) 48 := vp_in_nI hc (by decide)
  have ca : (nI a).toNatClampNeg = a := nI_clamp (by omega)
  have cc : (nI c).toNatClampNeg = c := nI_clamp (by omega)
  have lp : pa = pc → ∀ (d i : Nat), i + d = pa → (∀ j, j < i → MI 13 (16 * a + j) = MI 13 (16 * c + j)) → xq59 (fun r => ∃ z : Bool, r = (some (.int (bI z)), xM MI ML Q) ∧ (z = true ↔ SP MI a c)) (19, [some (.ref 12), some (.int (nI a)), some (.int (nI c)), some (.int (nI i))], [], xM MI ML Q, 0, 0) := by
    intro hp d
    induction d with
    | zero =>
      intro i hi hj
      refine xb59_19 ⟨va, ?_⟩
      rw [ca, h1]
      exact pk_le pa i (fun _ => ⟨Or.inr rfl, true, rfl, fun _ => ⟨by rw [e1, e2, hp], fun j q => hj j (by rw [e1] at q; omega)⟩, fun _ => rfl⟩) (fun h => absurd h (by omega))
    | succ d ih =>
      intro i hi hj
      refine xb59_19 ⟨va, ?_⟩
      rw [ca, h1, ix16', ix16', nI_clamp (by omega), nI_clamp (by omega), nI_1]
      refine pk_le pa i (fun h => absurd h (by omega)) (fun _ => ⟨vp_in_nI (by omega) (by decide), vp_in_nI (by omega) (by decide), fun e => ?_, fun e => ⟨Or.inl rfl, false, rfl, fun q => (by cases q), fun q => absurd (q.2 i (by omega)) e⟩⟩)
      refine ih (i + 1) (by omega) (fun j hj' => ?_)
      by_cases hji : j = i
      · subst hji; exact e
      · exact hj j (by omega)
  refine xm_in (xb59_0 ⟨va, vc, ?_⟩)
  rw [ca, cc, h1, h2]
  refine pk_eq pa pc (fun e => lp e pa 0 (by omega) (fun j q => absurd q (Nat.not_lt_zero j))) (fun e => ⟨Or.inl rfl, false, rfl, fun q => (by cases q), fun q => ?_⟩)
  have := q.1
  rw [e1, e2] at this
  exact absurd this e
theorem c58 {k : Nat} (hk : k < 48) (h15 : ∀ a, a ≤ k → MI 15 a = nI (vP MI a) ∧ vP MI a < 16) : xm_Ev xz 58 [.ref 12, .int (nI k)] (xM MI ML Q) (fun r => ∃ h : Nat, r = (some (.int (nI h)), xM MI ML Q) ∧ h ≤ k ∧ SP MI h k ∧ ∀ c, c < h → ¬ SP MI c k) := by
  have lp : ∀ (d a : Nat), a + d = k → (∀ c, c < a → ¬ SP MI c k) → xq58 (fun r => ∃ h : Nat, r = (some (.int (nI h)), xM MI ML Q) ∧ h ≤ k ∧ SP MI h k ∧ ∀ c, c < h → ¬ SP MI c k) (2, [some (.ref 12), some (.int (nI k)), some (.int (nI a))], [], xM MI ML Q, 0, 0) := by
    intro d
    induction d with
    | zero =>
      intro a ha hc
      have : a = k := by omega
      subst this
      exact xb58_2 (pk_le a a (fun _ => ⟨a, rfl, Nat.le_refl a, SP.rf MI a, hc⟩) (fun h => absurd h (by omega)))
    | succ d ih =>
      intro a ha hc
      obtain ⟨x1, x2⟩ := h15 a (by omega)
      obtain ⟨y1, y2⟩ := h15 k (Nat.le_refl k)
      refine xb58_2 (pk_le k a (fun h => absurd h (by omega)) (fun _ => ⟨_, c59 (a := a) (c := k) (by omega) hk x1 y1 x2 y2, ?_⟩))
      rintro _ ⟨z, rfl, hz⟩
      refine xb58_13 ⟨fun h => ?_, fun h => ?_⟩
      · rw [bI_0] at h
        rw [nI_1]
        refine ih (a + 1) (by omega) (fun c hc' q => ?_)
        by_cases hca : c = a
        · subst hca
          rw [hz.mpr q] at h
          cases h
        · exact hc c (by omega) q
      · rw [bI_ne] at h
        exact ⟨a, rfl, by omega, hz.mp h, hc⟩
  exact xm_in (xb58_0 (lp k 0 (by omega) (fun c hc => absurd hc (Nat.not_lt_zero c))))
/-- off the new name -/
def RW (k : Nat) (MI M : Nat → Nat → Int32) : Prop := ∀ a j, ¬ (14 ≤ a ∧ a ≤ 15 ∧ j = k) → ¬ (a = 13 ∧ 16 * k ≤ j ∧ j < 16 * k + 16) → M a j = MI a j
theorem c57 (hD : Dr n (bBy b) MI) {k : Nat} (hk : k < 48) (h4 : MI 12 4 = nI k) {f t : Nat} (hf : f < t) (ht : t ≤ n) (h16 : t - f ≤ 16) : xm_Ev xz 57 [.ref 12, .ref 2, .int (nI f), .int (nI t)] (xM MI ML Q) (fun r => ∃ M, r = (none, xM M ML Q) ∧ RW k MI M ∧ nmS M k (wB b f t) ∧ PLs M k (wB b f t)) := by
  have hn := hD.1
  have ck : (nI k).toNatClampNeg = k := nI_clamp (by omega)
  have vk : vp_in (nI k) 48 := vp_in_nI hk (by decide)
  have lp : ∀ (d i : Nat) (M : Nat → Nat → Int32) (pl : Nat), i + d = t - f → RW k MI M → M 14 k = nI (t - f) → (∀ j, j < i → M 13 (16 * k + j) = nI (b (f + j))) → M 15 k = nI pl → pl < t - f → (∀ j, j < i → nI (b (f + j)) = 47 → j ≤ pl) → (pl ≠ 0 → pl < i ∧ nI (b (f + pl)) = 47) → xq57 (fun r => ∃ M, r = (none, xM M ML Q) ∧ RW k MI M ∧ nmS M k (wB b f t) ∧ PLs M k (wB b f t)) (25, [some (.ref 12), some (.ref 2), some (.int (nI f)), some (.int (nI t)), some (.int (nI i)), none], [], xM M ML Q, 0, 0) := by
    intro d
    induction d with
    | zero =>
      intro i M pl hi r l1 l2 l3 l4 l5 l6
      refine xb57_25 ?_
      rw [pk_sub (by omega)]
      refine pk_le (t - f) i (fun _ => ⟨M, rfl, r, ⟨by rw [l1, wB_len], fun j hj => ?_⟩, pl, l3, by rw [wB_len]; exact l4, fun j hj q => ?_, fun q => ?_⟩) (fun h => absurd h (by omega))
      · rw [wB_len] at hj
        rw [wB_at hj, l2 j (by omega)]
      · rw [wB_len] at hj
        rw [wB_at hj] at q
        exact l5 j (by omega) q
      · rw [wB_at l4]
        exact (l6 q).2
    | succ d ih =>
      intro i M pl hi r l1 l2 l3 l4 l5 l6
      have hD' : Dr n (bBy b) M := ⟨hn, (r 2 1 (by omega) (by omega)).trans hD.2.1, fun i hi => (r 3 i (by omega) (by omega)).trans (hD.2.2 i hi)⟩
      have h4' : M 12 4 = nI k := (r 12 4 (by omega) (by omega)).trans h4
      refine xb57_25 ?_
      rw [pk_sub (by omega), nI_add]
      refine pk_le (t - f) i (fun h => absurd h (by omega)) (fun _ => ⟨_, c32 hD' (i := f + i) (by omega), ?_⟩)
      rintro _ rfl
      refine xb57_41 ?_
      rw [h4', ix16', nI_clamp (by omega), ck, nI_1]
      refine ⟨vp_in_nI (by omega) (by decide), fun e => ⟨vk, ?_⟩, fun e => ?_⟩
      · have up : ∀ x y a j, ¬ (a = 13 ∧ j = 16 * k + i) → ¬ (a = 15 ∧ j = k) → xm_up (xm_up M 13 (16 * k + i) x) 15 k y a j = M a j := fun x y a j q1 q2 => by rw [up_n q2, up_n q1]
        refine ih (i + 1) _ i (by omega) (fun a j q1 q2 => ?_) ?_ (fun j hj => ?_) (up_s _ _ _ _) (by omega) (fun j hj q => by omega) (fun q => ⟨by omega, e⟩)
        · rw [up _ _ a j (by omega) (by omega)]; exact r a j q1 q2
        · rw [up _ _ 14 k (by omega) (by omega)]; exact l1
        · by_cases hji : j = i
          · subst hji; rw [up_n (by omega), up_s]
          · rw [up _ _ 13 _ (by omega) (by omega)]; exact l2 j (by omega)
      · have up : ∀ x a j, ¬ (a = 13 ∧ j = 16 * k + i) → xm_up M 13 (16 * k + i) x a j = M a j := fun x a j q1 => by rw [up_n q1]
        refine ih (i + 1) _ pl (by omega) (fun a j q1 q2 => ?_) ?_ (fun j hj => ?_) ?_ l4 (fun j hj q => ?_) (fun q => ⟨by have := (l6 q).1; omega, (l6 q).2⟩)
        · rw [up _ a j (by omega)]; exact r a j q1 q2
        · rw [up _ 14 k (by omega)]; exact l1
        · by_cases hji : j = i
          · subst hji; rw [up_s]
          · rw [up _ 13 _ (by omega)]; exact l2 j (by omega)
        · rw [up _ 15 k (by omega)]; exact l3
        · by_cases hji : j = i
          · subst hji; exact absurd q e
          · exact l5 j (by omega) q
  refine xm_in (xb57_0 ?_)
  rw [h4, ck, pk_sub (by omega)]
  refine ⟨vk, vk, lp (t - f) 0 _ 0 (by omega) (fun a j q1 q2 => by rw [up_n (by omega), up_n (by omega)]) ?_ (fun j hj => absurd hj (Nat.not_lt_zero j)) (up_s _ _ _ _) (by omega) (fun j hj => absurd hj (Nat.not_lt_zero j)) (fun q => absurd rfl q)⟩
  rw [up_n (by omega), up_s]
/-- off the scanner's table -/
def RT (MI M : Nat → Nat → Int32) : Prop := ∀ a j, ¬ (a = 12 ∧ 4 ≤ j ∧ j ≤ 5) → ¬ (13 ≤ a ∧ a ≤ 16) → M a j = MI a j
theorem RT.tr {A B C : Nat → Nat → Int32} (h : RT A B) (h' : RT B C) : RT A C := fun a j q q' => (h' a j q q').trans (h a j q q')
theorem RT.rf (A : Nat → Nat → Int32) : RT A A := fun _ _ _ _ => rfl
theorem RT.dr {A B : Nat → Nat → Int32} (h : RT A B) {n : Nat} {c : Nat → Int32} (hD : Dr n c A) : Dr n c B := ⟨hD.1, (h 2 1 (by decide) (by decide)).trans hD.2.1, fun i hi => (h 3 i (by omega) (by omega)).trans (hD.2.2 i hi)⟩
theorem RT.pw {A B : Nat → Nat → Int32} (h : RT A B) {b : Nat → Nat} {n s : Nat} {T : Nat → Ent} (hp : PW b n s T A) : PW b n s T B := hp.cg (fun a j q1 q2 => h a j (by omega) (by omega))
theorem mt_idx {S : Tb} {w : Wd} (h : ¬ w ∈ S.1) (h2 : ¬ S.1.length = 48) : mt S w = (S.1 ++ [w], S.2) ∧ w ∈ (mt S w).1 ∧ (mt S w).1.idxOf w = S.1.length := by
  have e : mt S w = (S.1 ++ [w], S.2) := by unfold mt; rw [if_neg h, if_neg h2]
  rw [e]
  refine ⟨rfl, List.mem_append_right _ (List.mem_singleton.mpr rfl), ?_⟩
  show (S.1 ++ [w]).idxOf w = _
  rw [List.idxOf_append, if_neg h, List.idxOf_cons_self, Nat.zero_add]
theorem c56 (hD : Dr n (bBy b) MI) {S : Tb} (hT : TS S MI) {f t : Nat} (ht : t ≤ n) (hf : f < t) (h16 : t - f ≤ 16) (hg : gW (wB b f t)) : xm_Ev xz 56 [.ref 12, .ref 2, .int (nI f), .int (nI t)] (xM MI ML Q) (fun r => ∃ M, r = (some (.int (rv (mt S (wB b f t)) (wB b f t))), xM M ML Q) ∧ RT MI M ∧ TS (mt S (wB b f t)) M) := by
  obtain ⟨h48, h4, h5, hN, hI⟩ := hT
  obtain ⟨L, o⟩ := S
  have h48 : L.length ≤ 48 := h48
  have h4 : MI 12 4 = nI L.length := h4
  have h5 : MI 12 5 = bI o := h5
  have hN : NS L MI := hN
  have hI : IP L.length MI := hI
  have hn := hD.1
  refine xm_in (xb56_0 ⟨_, c51 (o := o) hD h48 h4 hN (by omega) ht, ?_⟩)
  rintro _ rfl
  by_cases hm : wB b f t ∈ L
  · have e : mt (L, o) (wB b f t) = (L, o) := by unfold mt; rw [if_pos hm]
    rw [e]
    have er : rv (L, o) (wB b f t) = nI (L.idxOf (wB b f t)) := by unfold rv; rw [if_pos hm]
    have hi : L.idxOf (wB b f t) < L.length := List.idxOf_lt_length_iff.mpr hm
    refine xb56_7 ⟨fun q => ?_, fun _ => ⟨MI, rfl, RT.rf MI, h48, h4, h5, hN, hI⟩⟩
    rw [er] at q
    exact absurd q (nI_nm1 (by omega))
  · have er : rv (L, o) (wB b f t) = -1 := by unfold rv; rw [if_neg hm]
    refine xb56_7 ⟨fun _ => ?_, fun q => absurd er q⟩
    rw [h4, pk_sub (by omega)]
    refine pk_le 48 L.length (fun q => ⟨Or.inr rfl, ?_⟩) (fun q => pk_le (t - f) 16 (fun _ => ⟨_, c57 hD (k := L.length) q h4 hf ht h16, ?_⟩) (fun q => absurd h16 (by omega)))
    · have e : mt (L, o) (wB b f t) = (L, true) := by
        unfold mt
        rw [if_neg hm, if_pos (show L.length = 48 by omega)]
      rw [e]
      refine ⟨xm_up MI 12 5 1, ?_, fun a j q1 q2 => up_n (by omega), h48, ?_, ?_, hN.cg (fun a ha => ?_), IP_cg hN (fun a ha => ?_) hI⟩
      · unfold rv
        rw [if_neg hm]
      · rw [up_n (by decide)]; exact h4
      · rw [up_s]; rfl
      · exact ⟨up_n (by omega), up_n (by omega), up_n (by omega), fun i _ => up_n (by omega)⟩
      · exact ⟨up_n (by omega), up_n (by omega), up_n (by omega), fun i _ => up_n (by omega)⟩
    · rintro _ ⟨M, rfl, r, w1, w2⟩
      obtain ⟨e1, e2, e3⟩ := mt_idx (S := (L, o)) hm (show ¬ L.length = 48 by omega)
      have e3 : (mt (L, o) (wB b f t)).1.idxOf (wB b f t) = L.length := e3
      have ag : AG L.length MI M := fun a ha => ⟨r 14 a (by omega) (by omega), r 15 a (by omega) (by omega), r 16 a (by omega) (by omega), fun i hi => r 13 _ (by omega) (by omega)⟩
      have hN2 : NS L M := hN.cg ag
      have h15 : ∀ a, a ≤ L.length → M 15 a = nI (vP M a) ∧ vP M a < 16 := fun a ha => by
        by_cases hal : a = L.length
        · subst hal
          obtain ⟨pl, p1, p2, -⟩ := w2
          rw [wB_len] at p2
          have e : vP M L.length = pl := by unfold vP; rw [p1, nI_clamp (by omega)]
          rw [e]
          exact ⟨p1, by omega⟩
        · exact hN2.vp (by omega)
      have h4' : M 12 4 = nI L.length := (r 12 4 (by omega) (by omega)).trans h4
      refine xb56_49 ?_
      rw [h4', nI_1, nI_pred]
      have up : ∀ x a j, ¬ (a = 12 ∧ j = 4) → xm_up M 12 4 x a j = M a j := fun x a j q => up_n q
      have vP' : ∀ x a, vP (xm_up M 12 4 x) a = vP M a := fun x a => by unfold vP; rw [up _ 15 a (by omega)]
      refine ⟨_, c58 (k := L.length) q (fun a ha => ?_), ?_⟩
      · rw [vP', up _ 15 a (by omega)]
        exact h15 a ha
      · rintro _ ⟨h, rfl, x1, x2, x3⟩
        refine xb56_79 ⟨vp_in_nI q (by decide), ?_⟩
        rw [nI_clamp (by omega), up_s, nI_pred]
        have u2 : ∀ x y a j, ¬ (a = 12 ∧ j = 4) → ¬ (a = 16 ∧ j = L.length) → xm_up (xm_up M 12 4 x) 16 L.length y a j = M a j := fun x y a j q1 q2 => by rw [up_n q2, up_n q1]
        have rvE : rv (mt (L, o) (wB b f t)) (wB b f t) = nI L.length := by
          unfold rv
          rw [if_pos e2, e3]
        rw [rvE, e1]
        have len : (L ++ [wB b f t]).length = L.length + 1 := by rw [List.length_append]; rfl
        have SPe : ∀ x y a c, SP (xm_up (xm_up M 12 4 x) 16 L.length y) a c ↔ SP M a c := fun x y a c => by
          have v1 : ∀ a, vP (xm_up (xm_up M 12 4 x) 16 L.length y) a = vP M a := fun a => by unfold vP; rw [u2 _ _ 15 a (by omega) (by omega)]
          unfold SP
          rw [v1, v1]
          simp only [u2 _ _ 13 _ (show ¬ (13 = 12 ∧ _ = 4) from fun z => absurd z.1 (by decide)) (show ¬ (13 = 16 ∧ _ = L.length) from fun z => absurd z.1 (by decide))]
        have SPe1 : ∀ x a c, SP (xm_up M 12 4 x) a c ↔ SP M a c := fun x a c => by
          unfold SP
          rw [vP', vP']
          simp only [up _ 13 _ (show ¬ (13 = 12 ∧ _ = 4) from fun z => absurd z.1 (by decide))]
        have hI2 : IP L.length M := IP_cg hN ag hI
        refine ⟨_, rfl, fun a j q1 q2 => ?_, ?_, ?_, ?_, ?_, ?_⟩
        · rw [u2 _ _ a j (by omega) (by omega)]
          exact r a j (by omega) (by omega)
        · show (L ++ [wB b f t]).length ≤ 48
          omega
        · show _ = nI (L ++ [wB b f t]).length
          rw [len, up_n (by omega), up_s]
        · show _ = bI o
          rw [u2 _ _ 12 5 (by decide) (by omega), r 12 5 (by omega) (by omega)]
          exact h5
        · intro a ha
          have ha : a < (L ++ [wB b f t]).length := ha
          rw [len] at ha
          show gW ((L ++ [wB b f t]).getD a []) ∧ nmS _ a ((L ++ [wB b f t]).getD a []) ∧ PLs _ a ((L ++ [wB b f t]).getD a [])
          have cgn : ∀ w, nmS M a w → nmS (xm_up (xm_up M 12 4 (nI (L.length + 1))) 16 L.length (nI h)) a w := fun w z => ⟨by rw [u2 _ _ 14 a (by omega) (by omega)]; exact z.1, fun i hi => by rw [u2 _ _ 13 _ (by omega) (by omega)]; exact z.2 i hi⟩
          have cgp : ∀ w, PLs M a w → PLs (xm_up (xm_up M 12 4 (nI (L.length + 1))) 16 L.length (nI h)) a w := fun w ⟨pl, z1, z2⟩ => ⟨pl, by rw [u2 _ _ 15 a (by omega) (by omega)]; exact z1, z2⟩
          by_cases hal : a = L.length
          · subst hal
            rw [getD_r]
            exact ⟨hg, cgn _ w1, cgp _ w2⟩
          · rw [getD_l (by omega)]
            obtain ⟨z1, z2, z3⟩ := hN2 a (by omega)
            exact ⟨z1, cgn _ z2, cgp _ z3⟩
        · show IP (L ++ [wB b f t]).length _
          rw [len]
          intro a ha
          by_cases hal : a = L.length
          · subst hal
            refine ⟨h, x1, up_s _ _ _ _, (SPe _ _ _ _).mpr ((SPe1 _ _ _).mp x2), fun c hc z => x3 c hc ((SPe1 _ _ _).mpr ((SPe _ _ _ _).mp z))⟩
          · obtain ⟨y, y1, y2, y3, y4⟩ := hI2 a (by omega)
            refine ⟨y, y1, by rw [u2 _ _ 16 a (by omega) (by omega)]; exact y2, (SPe _ _ _ _).mpr y3, fun c hc z => y4 c hc ((SPe _ _ _ _).mp z)⟩
end ME
