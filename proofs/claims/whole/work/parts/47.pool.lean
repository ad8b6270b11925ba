/-- an entry of the pool: of a text f and s are its first place and the place behind it -/
abbrev Ent := Nat × Nat × Nat × Nat
def Ent.kd (e : Ent) : Nat := e.1
def Ent.f (e : Ent) : Nat := e.2.1
def Ent.s (e : Ent) : Nat := e.2.2.1
def Ent.pl (e : Ent) : Nat := e.2.2.2
def wd (x : Nat) : Bool := decide (x = 5 ∨ x = 6)
def kdo (T : Nat → Ent) (s x : Nat) : Nat := if 1 ≤ x ∧ x < s then (T x).kd else 0
def updE (T : Nat → Ent) (k : Nat) (e : Ent) : Nat → Ent := fun j => if j = k then e else T j
/-- the bytes of a text -/
def tl (b : Nat → Nat) (n : Nat) : Nat → St → St
  | 0, st => st
  | _ + 1, .error p => .error p
  | d + 1, .ok a => tl b n d (dmd (decide (1 ≤ vl b n 1 (.ok a) ∧ vl b n 1 (.ok a) ≤ 127)) a (itm n 1 (.ok a)))
def txt (b : Nat → Nat) (n : Nat) (st : St) : St := tl b n (vl b n 2 st) (itm n 2 st)
def enS (b : Nat → Nat) (n s k : Nat) (st : St) : St :=
  if vl b n 1 st = 1 then txt b n (dmd (!(wd (vl b n 1 st)) || decide (k + 1 < s)) (atS st) (itm n 1 st))
  else if vl b n 1 st = 3 ∨ vl b n 1 st = 4 then itm n 4 (dmd (!(wd (vl b n 1 st)) || decide (k + 1 < s)) (atS st) (itm n 1 st))
  else if vl b n 1 st = 5 ∨ vl b n 1 st = 6 then itm n 4 (itm n 4 (dmd (!(wd (vl b n 1 st)) || decide (k + 1 < s)) (atS st) (itm n 1 st)))
  else if vl b n 1 st = 7 ∨ vl b n 1 st = 8 then itm n 2 (dmd (!(wd (vl b n 1 st)) || decide (k + 1 < s)) (atS st) (itm n 1 st))
  else if 9 ≤ vl b n 1 st ∧ vl b n 1 st ≤ 12 then itm n 2 (itm n 2 (dmd (!(wd (vl b n 1 st)) || decide (k + 1 < s)) (atS st) (itm n 1 st)))
  else dmd false (atS st) (dmd (!(wd (vl b n 1 st)) || decide (k + 1 < s)) (atS st) (itm n 1 st))
def enE (b : Nat → Nat) (n : Nat) (st : St) : Ent := (vl b n 1 st, if vl b n 1 st = 1 then atS (itm n 2 (itm n 1 st)) else vl b n 2 (itm n 1 st), if vl b n 1 st = 1 then atS (itm n 2 (itm n 1 st)) + vl b n 2 (itm n 1 st) else if 9 ≤ vl b n 1 st then vl b n 2 (itm n 2 (itm n 1 st)) else 0, atS st)
def rp (b : Nat → Nat) (n s : Nat) : Nat → Nat → St → (Nat → Ent) → St × (Nat → Ent)
  | 0, _, st, T => (st, T)
  | _ + 1, _, .error p, T => (.error p, T)
  | d + 1, k, .ok a, T => if wd (kdo T s (k - 1)) = true then rp b n s d (k + 1) (.ok a) T else rp b n s d (k + 1) (enS b n s k (.ok a)) (updE T k (enE b n (.ok a)))
theorem tl_er (b : Nat → Nat) (n d p : Nat) : tl b n d (.error p) = .error p := by cases d <;> rfl
theorem rp_er (b : Nat → Nat) (n s d k p : Nat) (T : Nat → Ent) : rp b n s d k (.error p) T = (.error p, T) := by cases d <;> rfl
theorem dmd_ok {r : Bool} {p a : Nat} {st : St} (h : dmd r p st = .ok a) : st = .ok a ∧ r = true := by
  cases st with
  | error q => cases h
  | ok c =>
    by_cases hr : r = true
    · rw [dmd, if_pos hr] at h
      exact ⟨h, hr⟩
    · rw [dmd, if_neg hr] at h
      cases h
theorem itm_ok {n k a : Nat} {st : St} (h : itm n k st = .ok a) : ∃ c, st = .ok c ∧ a = c + k ∧ a ≤ n := by
  cases st with
  | error q => cases h
  | ok c =>
    by_cases hr : c + k ≤ n
    · rw [itm, if_pos hr] at h
      cases h
      exact ⟨c, rfl, rfl, hr⟩
    · rw [itm, if_neg hr] at h
      cases h
theorem tl_ok {b : Nat → Nat} {n : Nat} : ∀ {d : Nat} {st : St} {a : Nat}, tl b n d st = .ok a → ∃ c, st = .ok c ∧ a = c + d
  | 0, st, a, h => ⟨a, h, rfl⟩
  | d + 1, .error p, a, h => by cases h
  | d + 1, .ok c, a, h => by
    obtain ⟨e, h1, h2⟩ := tl_ok (d := d) h
    obtain ⟨h3, -⟩ := dmd_ok h1
    obtain ⟨g, h4, h5, h6⟩ := itm_ok h3
    cases h4
    exact ⟨c, rfl, by omega⟩
theorem txt_ok {b : Nat → Nat} {n : Nat} {st : St} {a : Nat} (h : txt b n st = .ok a) : ∃ c, st = .ok c ∧ itm n 2 st = .ok (c + 2) ∧ a = c + 2 + vl b n 2 st := by
  obtain ⟨c, h1, h2⟩ := tl_ok h
  obtain ⟨g, h4, h5, h6⟩ := itm_ok h1
  refine ⟨g, h4, by rw [h1, h5], by omega⟩
theorem SS.le {n a : Nat} {MI : Nat → Nat → Int32} (h : SS n (.ok a) MI) : a ≤ n ∧ MI 1 1 = nI a ∧ MI 1 2 = -1 := by
  obtain ⟨c, h1, h2, h3⟩ := h
  obtain ⟨q1, q2⟩ := h3.ok
  subst q1
  exact ⟨h2, h1, q2⟩
theorem SM.le {n a : Nat} {MI : Nat → Nat → Int32} (h : SM n (.ok a) MI) : a ≤ n ∧ MI 45 2 = nI a ∧ MI 45 3 = -1 := by
  obtain ⟨c, h1, h2, h3⟩ := h
  obtain ⟨q1, q2⟩ := h3.ok
  subst q1
  exact ⟨h2, h1, q2⟩
theorem SS.er {n p : Nat} {MI : Nat → Nat → Int32} (h : SS n (.error p) MI) : ¬ MI 1 2 = -1 := by
  obtain ⟨c, h1, h2, h3⟩ := h
  obtain ⟨q1, q2⟩ := h3.er
  rw [q1]
  exact nI_nm1 (by omega)
theorem SM.er {n p : Nat} {MI : Nat → Nat → Int32} (h : SM n (.error p) MI) : 0 ≤ MI 45 3 := by
  obtain ⟨c, h1, h2, h3⟩ := h
  obtain ⟨q1, q2⟩ := h3.er
  rw [q1]
  exact nI_pos' (by omega)
theorem SS.cg {n : Nat} {st : St} {MI MI' : Nat → Nat → Int32} (h : SS n st MI) (h1 : MI' 1 1 = MI 1 1) (h2 : MI' 1 2 = MI 1 2) : SS n st MI' := by
  unfold SS at h ⊢
  rw [h1, h2]
  exact h
theorem SM.cg {n : Nat} {st : St} {MI MI' : Nat → Nat → Int32} (h : SM n st MI) (h1 : MI' 45 2 = MI 45 2) (h2 : MI' 45 3 = MI 45 3) : SM n st MI' := by
  unfold SM at h ⊢
  rw [h1, h2]
  exact h
/-- what is known of the pool, as the scanner keeps it -/
def PD (s : Nat) (T : Nat → Ent) (MI : Nat → Nat → Int32) : Prop := ∀ j, 1 ≤ j → j < s → MI 5 j = nI (T j).kd ∧ ((T j).kd ≠ 0 → MI 6 j = nI (T j).pl ∧ MI 9 j = 0) ∧ ((T j).kd = 1 ∨ 7 ≤ (T j).kd → MI 7 j = nI (T j).f ∧ MI 8 j = nI (T j).s)
section PO
variable {MI : Nat → Nat → Int32} {ML : Nat → Nat → Int64} {Q : Nat → Nat} {b : Nat → Nat} {n s : Nat} {T : Nat → Ent}
theorem c24 (hs : MI 4 5 = nI s) (h64 : s ≤ 64) {k : Nat} (hk : k < 2 ^ 31) : xm_Ev xz 24 [.ref 4, .int (nI k)] (xM MI ML Q) (fun r => r = (some (.int (bI (decide (1 ≤ k ∧ k < s)))), xM MI ML Q)) := by
  refine xm_in (xb24_0 ?_)
  rw [hs]
  refine pk_lt k 1 (fun h => ⟨Or.inl rfl, ?_⟩) (fun h => pk_le s k (fun h2 => ⟨Or.inl rfl, ?_⟩) (fun h2 => ⟨Or.inr rfl, ?_⟩))
  · rw [decide_eq_false (by omega)]; rfl
  · rw [decide_eq_false (by omega)]; rfl
  · rw [decide_eq_true (by omega)]; rfl
theorem c25 {k : Nat} (hk : k < 2 ^ 31) : xm_Ev xz 25 [.int (nI k)] (xM MI ML Q) (fun r => r = (some (.int (bI (wd k))), xM MI ML Q)) := by
  refine xm_in (xb25_0 (pk_eq k 5 (fun h => ⟨Or.inr rfl, ?_⟩) (fun h => pk_eq k 6 (fun h2 => ⟨Or.inr rfl, ?_⟩) (fun h2 => ⟨Or.inl rfl, ?_⟩))))
  · unfold wd; rw [decide_eq_true (Or.inl h)]; rfl
  · unfold wd; rw [decide_eq_true (Or.inr h2)]; rfl
  · unfold wd; rw [decide_eq_false (by omega)]; rfl
theorem c23 (hs : MI 4 5 = nI s) (h64 : s ≤ 64) (hK : ∀ j, 1 ≤ j → j < s → MI 5 j = nI (T j).kd) {k : Nat} (hk : k < 2 ^ 31) : xm_Ev xz 23 [.ref 4, .int (nI k)] (xM MI ML Q) (fun r => r = (some (.int (nI (kdo T s k))), xM MI ML Q)) := by
  refine xm_in (xb23_0 ⟨_, c24 hs h64 hk, ?_⟩)
  rintro _ rfl
  refine xb23_5 ⟨fun h => ?_, fun h => ?_⟩
  · rw [bI_0] at h
    unfold kdo
    rw [if_neg (of_decide_eq_false h)]
    rfl
  · rw [bI_ne] at h
    have h := of_decide_eq_true h
    unfold kdo
    rw [if_pos h, nI_clamp hk, hK k h.1 h.2]
    exact ⟨vp_in_nI (by omega) (by decide), rfl⟩
theorem c22 (hs : MI 4 5 = nI s) (h64 : s ≤ 64) (hK : ∀ j, 1 ≤ j → j < s → MI 5 j = nI (T j).kd) (hT : ∀ j, (T j).kd < 256) {k : Nat} (h1 : 1 ≤ k) (hk : k < 2 ^ 31) : xm_Ev xz 22 [.ref 4, .int (nI k)] (xM MI ML Q) (fun r => r = (some (.int (bI (wd (kdo T s (k - 1))))), xM MI ML Q)) := by
  obtain ⟨k, rfl⟩ : ∃ i, k = i + 1 := ⟨k - 1, by omega⟩
  have hx : kdo T s k < 256 := by unfold kdo; split; exact hT k; decide
  refine xm_in (xb22_0 ?_)
  rw [nI_pred, Nat.add_sub_cancel]
  refine ⟨_, c23 hs h64 hK (k := k) (by omega), ?_⟩
  rintro _ rfl
  refine xb22_7 ⟨_, c25 (by omega), ?_⟩
  rintro _ rfl
  exact xb22_10 ⟨bI01 _, rfl⟩
theorem c29 (hs : MI 4 5 = nI s) (h64 : s ≤ 64) {k : Nat} (h1 : 1 ≤ k) (h2 : k < s) (x y : Int32) : xm_Ev xz 29 [.ref 4, .int (nI k), .int x, .int y] (xM MI ML Q) (fun r => r = (none, xM (xm_up (xm_up MI 7 k x) 8 k y) ML Q)) := by
  refine xm_in (xb29_0 ⟨_, c24 hs h64 (by omega), ?_⟩)
  rintro _ rfl
  rw [decide_eq_true ⟨h1, h2⟩]
  refine xb29_5 ⟨fun h => absurd h (by decide), fun _ => ?_⟩
  rw [nI_clamp (by omega)]
  exact ⟨vp_in_nI (by omega) (by decide), vp_in_nI (by omega) (by decide), rfl⟩
theorem c27 (hs : MI 4 5 = nI s) (h64 : s ≤ 64) {k : Nat} (h1 : 1 ≤ k) (h2 : k < s) (x y : Int32) : xm_Ev xz 27 [.ref 4, .int (nI k), .int x, .int y] (xM MI ML Q) (fun r => r = (none, xM (xm_up (xm_up (xm_up MI 5 k x) 6 k y) 9 k 0) ML Q)) := by
  refine xm_in (xb27_0 ⟨_, c24 hs h64 (by omega), ?_⟩)
  rintro _ rfl
  rw [decide_eq_true ⟨h1, h2⟩]
  refine xb27_5 ⟨fun h => absurd h (by decide), fun _ => ?_⟩
  rw [nI_clamp (by omega)]
  exact ⟨vp_in_nI (by omega) (by decide), vp_in_nI (by omega) (by decide), vp_in_nI (by omega) (by decide), rfl⟩
/-- off one entry -/
def RE (k : Nat) (MI M : Nat → Nat → Int32) : Prop := ∀ a j, ¬ (a = 1 ∧ j ≤ 2) → ¬ (5 ≤ a ∧ a ≤ 9 ∧ j = k) → M a j = MI a j
theorem RE.tr {k : Nat} {A B C : Nat → Nat → Int32} (h : RE k A B) (h' : RE k B C) : RE k A C := fun a j q q' => (h' a j q q').trans (h a j q q')
theorem R1.re {k : Nat} {A B : Nat → Nat → Int32} (h : R1 A B) : RE k A B := fun a j q _ => h a j q
theorem RE.dr {k : Nat} {A B : Nat → Nat → Int32} (h : RE k A B) {n : Nat} {c : Nat → Int32} (hD : Dr n c A) : Dr n c B := ⟨hD.1, (h 2 1 (by decide) (by omega)).trans hD.2.1, fun i hi => (h 3 i (by omega) (by omega)).trans (hD.2.2 i hi)⟩
theorem c28 (hb : ∀ i, b i < 256) (hD : Dr n (bBy b) MI) (hs : MI 4 5 = nI s) (h64 : s ≤ 64) {st : St} (hS : SS n st MI) {k : Nat} (h1 : 1 ≤ k) (h2 : k < s) : xm_Ev xz 28 [.ref 1, .int (nI k)] (xM MI ML Q) (fun r => ∃ M, r = (none, xM M ML Q) ∧ (∀ a j, ¬ (a = 1 ∧ j ≤ 2) → ¬ (7 ≤ a ∧ a ≤ 8 ∧ j = k) → M a j = MI a j) ∧ SS n (txt b n st) M ∧ ∀ a, txt b n st = .ok a → M 7 k = nI (atS (itm n 2 st)) ∧ M 8 k = nI a) := by
  have lp : ∀ (P : xm_R → Prop) (len : Nat) (x : Int32), len < 65536 → ∀ (d i : Nat) (st : St) (MI : Nat → Nat → Int32), i + d = len → Dr n (bBy b) MI → MI 4 5 = nI s → SS n st MI → (∀ M, (∀ a j, ¬ (a = 1 ∧ j ≤ 2) → ¬ (7 ≤ a ∧ a ≤ 8 ∧ j = k) → M a j = MI a j) → SS n (tl b n d st) M → (∀ a, tl b n d st = .ok a → M 7 k = x ∧ M 8 k = nI a) → P (none, xM M ML Q)) → xq28 P (14, [some (.ref 1), some (.int (nI k)), some (.int (nI len)), some (.int x), some (.int (nI i)), none, none], [], xM MI ML Q, 0, 0) := by
    intro P len x hl d
    have stop : ∀ (d : Nat) (st : St) (MI : Nat → Nat → Int32), tl b n d st = st → MI 4 5 = nI s → SS n st MI → (∀ M, (∀ a j, ¬ (a = 1 ∧ j ≤ 2) → ¬ (7 ≤ a ∧ a ≤ 8 ∧ j = k) → M a j = MI a j) → SS n (tl b n d st) M → (∀ a, tl b n d st = .ok a → M 7 k = x ∧ M 8 k = nI a) → P (none, xM M ML Q)) → ∃ P0 : xm_R → Prop, xm_Ev xz 29 [.ref 4, .int (nI k), .int x, .int (MI 1 1)] (xM MI ML Q) P0 ∧ ∀ r, P0 r → xq28 P (xm_bk 84 [none, none, none, none, none, none, none] [] 0 0 r) := by
      intro d st MI ht hs hS hP
      refine ⟨_, c29 hs h64 h1 h2 _ _, ?_⟩
      rintro _ rfl
      refine xb28_84 (hP _ (fun a j q q' => ?_) ?_ (fun a ha => ⟨?_, ?_⟩))
      · rw [up_n (by omega), up_n (by omega)]
      · rw [ht]
        exact hS.cg (by rw [up_n (by omega), up_n (by omega)]) (by rw [up_n (by omega), up_n (by omega)])
      · rw [up_n (by omega), up_s]
      · rw [ht] at ha
        rw [ha] at hS
        rw [up_s, hS.le.2.1]
    induction d with
    | zero =>
      intro i st MI hi hD hs hS hP
      exact xb28_14 (pk_le len i (fun _ => stop 0 st MI rfl hs hS hP) (fun h => absurd h (by omega)))
    | succ d ih =>
      intro i st MI hi hD hs hS hP
      refine xb28_14 (pk_le len i (fun h => absurd h (by omega)) (fun _ => ?_))
      cases st with
      | error p => exact ⟨fun h => absurd h hS.er, fun _ => stop (d + 1) _ MI (tl_er b n _ p) hs hS hP⟩
      | ok a =>
        obtain ⟨l1, l2, l3⟩ := hS.le
        have hn := hD.1
        refine ⟨fun _ => ⟨_, c17 hb hD hS (k := 1) (by decide), ?_⟩, fun h => absurd l3 h⟩
        rintro _ ⟨M, rfl, m1, m2⟩
        have hv := vl_lt hb n 1 (.ok a)
        have go : ∀ z : Bool, z = decide (1 ≤ vl b n 1 (.ok a) ∧ vl b n 1 (.ok a) ≤ 127) → ∃ P0 : xm_R → Prop, xm_Ev xz 19 [.ref 1, .int (bI z), .int (MI 1 1)] (xM M ML Q) P0 ∧ ∀ r, P0 r → xq28 P (xm_bk 65 [some (.ref 1), some (.int (nI k)), some (.int (nI len)), some (.int x), some (.int (nI i)), none, none] [] 0 0 r) := by
          intro z hz
          refine ⟨_, c19 (p := a) m2 (fun _ _ _ => ⟨l2, by omega⟩), ?_⟩
          rintro _ ⟨M2, rfl, k1, k2⟩
          refine xb28_65 ?_
          rw [nI_1]
          have r1 := m1.tr k1
          refine ih (i + 1) _ M2 (by omega) (r1.dr hD) ((r1 4 5 (by decide)).trans hs) k2 (fun M3 g1 g2 g3 => ?_)
          rw [hz] at g2 g3
          exact hP M3 (fun a j q q' => (g1 a j q q').trans (r1 a j q)) g2 g3
        refine xb28_39 (pk_lt _ 1 (fun h => go false ?_) (fun h => pk_lt 127 _ (fun h2 => go false ?_) (fun h2 => go true ?_)))
        · rw [decide_eq_false (by omega)]
        · rw [decide_eq_false (by omega)]
        · rw [decide_eq_true ⟨h, h2⟩]
  refine xm_in (xb28_0 ⟨_, c17 hb hD hS (k := 2) (by decide), ?_⟩)
  rintro _ ⟨M, rfl, m1, m2⟩
  have hv := vl_lt hb n 2 st
  refine xb28_5 (lp _ (vl b n 2 st) (M 1 1) (by omega) (vl b n 2 st) 0 _ M (by omega) (m1.dr hD) ((m1 4 5 (by decide)).trans hs) m2 (fun M2 g1 g2 g3 => ⟨M2, rfl, fun a j q q' => (g1 a j q q').trans (m1 a j q), g2, fun a ha => ?_⟩))
  obtain ⟨g4, g5⟩ := g3 a ha
  refine ⟨?_, g5⟩
  obtain ⟨c, t1, t2, t3⟩ := txt_ok (b := b) (n := n) (st := st) ha
  rw [g4]
  rw [t2] at m2 ⊢
  exact m2.le.2.1
end PO
