/-- the scanner's greatest height among those of a set -/
theorem c78 {MI : Nat → Nat → Int32} {ML : Nat → Nat → Int64} {Q : Nat → Nat} {k c : Nat} {N J : Nat → Nat} {U : Nat → Int64} (hV : VS k c MI ML Q N J U) {hh : Nat → Nat} (hH : ∀ o, o < c → MI 22 o = nI (hh o) ∧ hh o ≤ 16) {i : Nat} (hi : i < c) : xm_Ev xz 78 [.ref 17, .int (nI i)] (xM MI ML Q) (fun r => ∃ m : Nat, r = (some (.int (nI m)), xM MI ML Q) ∧ (∀ o, o < c → hasB (ML 20 i &&& (ML 21 i ^^^ (-1 : Int64))) (N o) = true → hh o ≤ m) ∧ (m = 0 ∨ ∃ o, o < c ∧ hasB (ML 20 i &&& (ML 21 i ^^^ (-1 : Int64))) (N o) = true ∧ m = hh o)) := by
  obtain ⟨a1, a2, a3, a4, a5⟩ := hV
  have lp : ∀ (w : Int64) (d o : Nat), o + d = c → ∀ m : Nat, (∀ o', o' < o → hasB w (N o') = true → hh o' ≤ m) → (m = 0 ∨ ∃ o, o < c ∧ hasB w (N o) = true ∧ m = hh o) → xq78 (fun r => ∃ m : Nat, r = (some (.int (nI m)), xM MI ML Q) ∧ (∀ o, o < c → hasB w (N o) = true → hh o ≤ m) ∧ (m = 0 ∨ ∃ o, o < c ∧ hasB w (N o) = true ∧ m = hh o)) (24, [some (.ref 17), none, some (.long w), none, some (.int (nI m)), some (.int (nI o))], [], xM MI ML Q, 0, 0) := by
    intro w d
    induction d with
    | zero =>
      intro o ho m m1 m2
      have : o = c := by omega
      subst this
      refine xb78_24 ⟨fun _ => ⟨m, rfl, m1, m2⟩, fun hl => ?_⟩
      rw [a3] at hl
      exact absurd (nI_le (Nat.le_refl o) (by omega)) hl
    | succ d ih =>
      intro o ho m m1 m2
      have v1 : vp_in (nI o) 16 := vp_in_nI (by omega) (by decide)
      obtain ⟨q1, q2, q3, q4⟩ := a4.at (i := o) (by omega)
      obtain ⟨n1, n2, -⟩ := a5 o (by omega)
      obtain ⟨h1, h2⟩ := hH o (by omega)
      have hm : m ≤ 16 := by
        rcases m2 with e | ⟨o', o1, -, e⟩
        · omega
        · have := (hH o' o1).2
          omega
      refine xb78_24 ⟨fun hl => ?_, fun _ => ⟨v1, Q o - 1, q1, q2, ?_⟩⟩
      · rw [a3] at hl
        exact absurd hl (nI_ge (by omega) (by omega))
      · rw [n1]
        refine ⟨_, c74 w (k := N o) (by omega), ?_⟩
        rintro _ rfl
        refine xb78_47 ⟨fun h => ?_, fun h => ⟨v1, ?_⟩⟩
        · rw [bI_0] at h
          rw [nI_1]
          refine ih (o + 1) (by omega) m (fun o' q1 q2 => ?_) m2
          by_cases e : o' = o
          · rw [e, h] at q2; cases q2
          · exact m1 o' (by omega) q2
        · rw [bI_ne] at h
          rw [nI_1, nI_clamp (by omega), h1]
          by_cases hl : m < hh o
          · rw [if_pos (nI_lt hl (by omega))]
            refine ih (o + 1) (by omega) (hh o) (fun o' q1 q2 => ?_) (Or.inr ⟨o, by omega, h, rfl⟩)
            by_cases e : o' = o
            · subst e; exact Nat.le_refl _
            · have := m1 o' (by omega) q2
              omega
          · rw [if_neg (nI_nlt (by omega) (by omega))]
            refine ih (o + 1) (by omega) m (fun o' q1 q2 => ?_) m2
            by_cases e : o' = o
            · subst e; omega
            · exact m1 o' (by omega) q2
  refine xm_in (xb78_0 ⟨vp_in_nI (by omega) (by decide), vp_in_nI (by omega) (by decide), ?_⟩)
  rw [nI_clamp (by omega)]
  exact lp _ c 0 (by omega) 0 (fun o h => absurd h (Nat.not_lt_zero o)) (Or.inl rfl)
/-- height g of a class file behind r rounds -/
def HB (T : Nat → Nat) (f : Prop) (a r g : Nat) : Prop := (f → (T a ≤ g ∨ r + 1 ≤ g) ∧ g ≤ T a) ∧ (¬ f → g = 0)
theorem HB.dn {T : Nat → Nat} {f : Prop} {a r g : Nat} (h : HB T f a (r + 1) g) : HB T f a r g := by
  refine ⟨fun hf => ?_, h.2⟩
  have := h.1 hf
  omega
section HEIGHTS
variable {Q : Nat → Nat} {ML : Nat → Nat → Int64} {k c : Nat} {N J : Nat → Nat} {U : Nat → Int64} {T : Nat → Nat}
theorem c77 {MI : Nat → Nat → Int32} (hV : VS k c MI ML Q N J U) (hP : PV c MI N J) (hW : ∀ i, i < c → FD c N J (N i) i → ∀ t, (hasB (ML 20 i &&& (ML 21 i ^^^ (-1 : Int64))) t = true ↔ Bl (ED c N J U) (N i) t)) (hT : LF (ED c N J U) (fun a => ∃ i, FD c N J a i) T) (hT16 : ∀ a, T a ≤ 16) {r : Nat} {hh : Nat → Nat} (hH : ∀ o, o < c → MI 22 o = nI (hh o) ∧ HB T (FD c N J (N o) o) (N o) r (hh o)) : xm_Ev xz 77 [.ref 17] (xM MI ML Q) (fun z => ∃ (b : Bool) (MI' : Nat → Nat → Int32) (h2 : Nat → Nat), z = (some (.int (bI b)), xM MI' ML Q) ∧ (∀ a j, a ≠ 22 → MI' a j = MI a j) ∧ (∀ o, o < c → MI' 22 o = nI (h2 o) ∧ HB T (FD c N J (N o) o) (N o) (r + 1) (h2 o)) ∧ (b = false → (∀ o, o < c → h2 o = hh o) ∧ ∀ i, i < c → FD c N J (N i) i → ∀ o, o < c → Bl (ED c N J U) (N i) (N o) → hh o < hh i)) := by
  have hV0 := hV
  obtain ⟨a1, a2, a3, a4, a5⟩ := hV
  have le16 : ∀ {f : Prop} {a r g : Nat}, HB T f a r g → g ≤ 16 := fun {f a r g} h => by
    by_cases hf : f
    · have := (h.1 hf).2
      have := hT16 a
      omega
    · rw [h.2 hf]; omega
  have lp : ∀ (d i : Nat), i + d = c → ∀ (b : Bool) (M3 : Nat → Nat → Int32) (g : Nat → Nat), (∀ a j, a ≠ 22 → M3 a j = MI a j) → (∀ o, o < c → M3 22 o = nI (g o) ∧ HB T (FD c N J (N o) o) (N o) r (g o)) → (∀ o, o < i → HB T (FD c N J (N o) o) (N o) (r + 1) (g o)) → (b = false → (∀ o, o < c → g o = hh o) ∧ ∀ i', i' < i → FD c N J (N i') i' → ∀ o, o < c → Bl (ED c N J U) (N i') (N o) → hh o < hh i') → xq77 (fun z => ∃ (b : Bool) (MI' : Nat → Nat → Int32) (h2 : Nat → Nat), z = (some (.int (bI b)), xM MI' ML Q) ∧ (∀ a j, a ≠ 22 → MI' a j = MI a j) ∧ (∀ o, o < c → MI' 22 o = nI (h2 o) ∧ HB T (FD c N J (N o) o) (N o) (r + 1) (h2 o)) ∧ (b = false → (∀ o, o < c → h2 o = hh o) ∧ ∀ i, i < c → FD c N J (N i) i → ∀ o, o < c → Bl (ED c N J U) (N i) (N o) → hh o < hh i)) (4, [some (.ref 17), some (.int (bI b)), some (.int (nI i)), none], [], xM M3 ML Q, 0, 0) := by
    intro d
    induction d with
    | zero =>
      intro i hi b M3 g m0 m1 m2 m3
      have : i = c := by omega
      subst this
      refine xb77_4 ⟨fun _ => ⟨bI01 b, b, M3, g, rfl, m0, fun o ho => ⟨(m1 o ho).1, m2 o ho⟩, m3⟩, fun hl => ?_⟩
      rw [m0 17 1 (by decide), a3] at hl
      exact absurd (nI_le (Nat.le_refl i) (by omega)) hl
    | succ d ih =>
      intro i hi b M3 g m0 m1 m2 m3
      have v1 : vp_in (nI i) 16 := vp_in_nI (by omega) (by decide)
      have hV3 : VS k c M3 ML Q N J U := hV0.keep (fun a j h => m0 a j (by omega)) (fun _ _ _ => rfl)
      have hP3 : PV c M3 N J := fun y hy => by rw [m0 19 y (by decide)]; exact hP y hy
      obtain ⟨g1, g2⟩ := m1 i (by omega)
      have g16 := le16 g2
      refine xb77_4 ⟨fun hl => ?_, fun _ => ⟨_, c71 hV3 hP3 (i := i) (by omega), ?_⟩⟩
      · rw [m0 17 1 (by decide), a3] at hl
        exact absurd hl (nI_ge (by omega) (by omega))
      · rintro _ ⟨f, rfl, hf⟩
        refine xb77_17 ⟨fun h => ⟨v1, ?_⟩, fun h => ⟨_, c78 hV3 (hh := g) (fun o ho => ⟨(m1 o ho).1, le16 (m1 o ho).2⟩) (i := i) (by omega), ?_⟩⟩
        · rw [bI_0] at h
          have hnf : ¬ FD c N J (N i) i := fun q => by rw [hf.mpr q] at h; cases h
          rw [nI_clamp (by omega), g1, nI_1]
          refine ⟨fun _ => ih (i + 1) (by omega) b M3 g m0 m1 (fun o ho => ?_) (fun hb => ⟨(m3 hb).1, fun i' q1 q2 => ?_⟩), fun hl => absurd (nI_pos' (by omega)) hl⟩
          · by_cases e : o = i
            · subst e; exact ⟨fun q => absurd q hnf, g2.2⟩
            · exact m2 o (by omega)
          · by_cases e : i' = i
            · subst e; exact absurd q2 hnf
            · exact (m3 hb).2 i' (by omega) q2
        · rw [bI_ne] at h
          have hfd := hf.mp h
          rintro _ ⟨m, rfl, x1, x2⟩
          have x1 : ∀ o, o < c → Bl (ED c N J U) (N i) (N o) → g o ≤ m := fun o ho q => x1 o ho ((hW i (by omega) hfd _).mpr q)
          have x2 : m = 0 ∨ ∃ o, o < c ∧ Bl (ED c N J U) (N i) (N o) ∧ m = g o := by
            rcases x2 with e | ⟨o, o1, o2, o3⟩
            · exact Or.inl e
            · exact Or.inr ⟨o, o1, (hW i (by omega) hfd _).mp o2, o3⟩
          obtain ⟨t1, t2⟩ := (hT (N i)).2 ⟨i, hfd⟩
          have hm : m < T (N i) := by
            rcases x2 with e | ⟨o, o1, o2, o3⟩
            · have := hT.pos (a := N i) ⟨i, hfd⟩
              omega
            · have := t1 _ o2
              obtain ⟨-, y⟩ := m1 o o1
              by_cases ff : FD c N J (N o) o
              · have := (y.1 ff).2
                omega
              · have := y.2 ff
                omega
          have low : T (N i) ≤ 1 + m ∨ r + 2 ≤ 1 + m := by
            rcases t2 with e | ⟨t, y1, y2⟩
            · left; omega
            · by_cases e : T t = 0
              · left; omega
              · have : ∃ o, FD c N J t o := by
                  by_cases ff : ∃ o, FD c N J t o
                  · exact ff
                  · exact absurd ((hT t).1 ff) e
                obtain ⟨o, o1⟩ := this
                have o2 := o1.2.1
                have := x1 o o1.1 (by rw [o2]; exact y1)
                have := (m1 o o1.1).2.1 (by rw [o2]; exact o1)
                rw [o2] at this
                omega
          have t16 := hT16 (N i)
          refine xb77_26 ⟨v1, ?_⟩
          rw [nI_clamp (by omega), g1, nI_1, show (1 : Int32) + nI m = nI (1 + m) from nI_add 1 m, nI_leI (by omega) (by omega)]
          refine ⟨fun hl => ih (i + 1) (by omega) b M3 g m0 m1 (fun o ho => ?_) (fun hb => ⟨(m3 hb).1, fun i' q1 q2 o o1 o2 => ?_⟩), fun hl => ⟨v1, ?_⟩⟩
          · by_cases e : o = i
            · subst e
              refine ⟨fun _ => ⟨by omega, (g2.1 hfd).2⟩, g2.2⟩
            · exact m2 o (by omega)
          · by_cases e : i' = i
            · subst e
              have := x1 o o1 o2
              have e1 := (m3 hb).1 o o1
              have e2 := (m3 hb).1 i' (by omega)
              omega
            · exact (m3 hb).2 i' (by omega) q2 o o1 o2
          · refine ih (i + 1) (by omega) true (xm_up M3 22 i (nI (1 + m))) (fun o => if o = i then 1 + m else g o) (fun a j ha => by rw [xm_up_ne ha]; exact m0 a j ha) (fun o ho => ?_) (fun o ho => ?_) (fun q => by cases q)
            · rw [xm_up_self]
              by_cases e : o = i
              · subst e
                rw [if_pos rfl, if_pos rfl]
                exact ⟨rfl, fun _ => ⟨by omega, by omega⟩, fun q => absurd hfd q⟩
              · rw [if_neg e, if_neg e]
                exact m1 o ho
            · by_cases e : o = i
              · subst e
                rw [if_pos rfl]
                exact ⟨fun _ => ⟨by omega, by omega⟩, fun q => absurd hfd q⟩
              · rw [if_neg e]
                exact m2 o (by omega)
  refine xm_in (xb77_0 ?_)
  exact lp c 0 (by omega) false MI hh (fun _ _ _ => rfl) hH (fun o h => absurd h (Nat.not_lt_zero o)) (fun _ => ⟨fun _ _ => rfl, fun i' h => absurd h (Nat.not_lt_zero i')⟩)
theorem c76 {MI : Nat → Nat → Int32} (hV : VS k c MI ML Q N J U) (hP : PV c MI N J) (hW : ∀ i, i < c → FD c N J (N i) i → ∀ t, (hasB (ML 20 i &&& (ML 21 i ^^^ (-1 : Int64))) t = true ↔ Bl (ED c N J U) (N i) t)) (hT : LF (ED c N J U) (fun a => ∃ i, FD c N J a i) T) (hT16 : ∀ a, T a ≤ c) : xm_Ev xz 76 [.ref 17] (xM MI ML Q) (fun z => ∃ MI' : Nat → Nat → Int32, z = (none, xM MI' ML Q) ∧ (∀ a j, a ≠ 22 → MI' a j = MI a j) ∧ ∀ o, o < c → FD c N J (N o) o → MI' 22 o = nI (T (N o))) := by
  have hV0 := hV
  obtain ⟨a1, a2, a3, a4, a5⟩ := hV
  have rd : ∀ (d r : Nat), r + d = c → ∀ (b : Bool) (M3 : Nat → Nat → Int32) (hh : Nat → Nat), (∀ a j, a ≠ 22 → M3 a j = MI a j) → (∀ o, o < c → M3 22 o = nI (hh o) ∧ HB T (FD c N J (N o) o) (N o) r (hh o)) → (b = false → ∀ o, o < c → FD c N J (N o) o → hh o = T (N o)) → xq76 (fun z => ∃ MI' : Nat → Nat → Int32, z = (none, xM MI' ML Q) ∧ (∀ a j, a ≠ 22 → MI' a j = MI a j) ∧ ∀ o, o < c → FD c N J (N o) o → MI' 22 o = nI (T (N o))) (39, [some (.ref 17), some (.int (bI b)), some (.int (nI r))], [], xM M3 ML Q, 0, 0) := by
    intro d
    induction d with
    | zero =>
      intro r hr b M3 hh m0 m1 m2
      have : r = c := by omega
      subst this
      refine xb76_39 ⟨fun _ => ⟨M3, rfl, m0, fun o ho hf => ?_⟩, fun hl => ?_⟩
      · obtain ⟨g1, g2⟩ := m1 o ho
        have := g2.1 hf
        have := hT16 (N o)
        rw [g1, show hh o = T (N o) by omega]
      · rw [m0 17 1 (by decide), a3] at hl
        exact absurd (nI_le (Nat.le_refl r) (by omega)) hl
    | succ d ih =>
      intro r hr b M3 hh m0 m1 m2
      have hV3 : VS k c M3 ML Q N J U := hV0.keep (fun a j h => m0 a j (by omega)) (fun _ _ _ => rfl)
      have hP3 : PV c M3 N J := fun y hy => by rw [m0 19 y (by decide)]; exact hP y hy
      refine xb76_39 ⟨fun hl => ?_, fun _ => ⟨fun hb => ⟨M3, rfl, m0, fun o ho hf => ?_⟩, fun hb => ⟨_, c77 hV3 hP3 hW hT (fun a => by have := hT16 a; omega) m1, ?_⟩⟩⟩
      · rw [m0 17 1 (by decide), a3] at hl
        exact absurd hl (nI_ge (by omega) (by omega))
      · rw [bI_0] at hb
        rw [(m1 o ho).1, m2 hb o ho hf]
      · rintro _ ⟨b', M4, h2, rfl, x0, x1, x2⟩
        refine xb76_55 ?_
        rw [nI_1]
        refine ih (r + 1) (by omega) b' M4 h2 (fun a j ha => by rw [x0 a j ha]; exact m0 a j ha) x1 (fun hb' => ?_)
        obtain ⟨y1, y2⟩ := x2 hb'
        have key : ∀ n o, o < c → FD c N J (N o) o → T (N o) ≤ n → hh o = T (N o) := by
          intro n
          induction n with
          | zero =>
            intro o _ hf hn
            have := hT.pos (a := N o) ⟨o, hf⟩
            omega
          | succ n ihn =>
            intro o ho hf hn
            have g := (m1 o ho).2.1 hf
            obtain ⟨t1, t2⟩ := (hT (N o)).2 ⟨o, hf⟩
            rcases t2 with e | ⟨t, z1, z2⟩
            · omega
            · by_cases e : T t = 0
              · omega
              · have : ∃ o, FD c N J t o := by
                  by_cases ff : ∃ o, FD c N J t o
                  · exact ff
                  · exact absurd ((hT t).1 ff) e
                obtain ⟨s, s1⟩ := this
                have s2 := s1.2.1
                have q1 := ihn s s1.1 (by rw [s2]; exact s1) (by rw [s2]; omega)
                have q2 := y2 o ho hf s s1.1 (by rw [s2]; exact z1)
                rw [s2] at q1
                omega
        intro o ho hf
        rw [y1 o ho]
        exact key _ o ho hf (Nat.le_refl _)
  have one : ∀ (d i : Nat), i + d = c → ∀ (M3 : Nat → Nat → Int32), (∀ a j, a ≠ 22 → M3 a j = MI a j) → (∀ o, o < i → ∃ g, M3 22 o = nI g ∧ HB T (FD c N J (N o) o) (N o) 0 g) → xq76 (fun z => ∃ MI' : Nat → Nat → Int32, z = (none, xM MI' ML Q) ∧ (∀ a j, a ≠ 22 → MI' a j = MI a j) ∧ ∀ o, o < c → FD c N J (N o) o → MI' 22 o = nI (T (N o))) (2, [some (.ref 17), some (.int (nI i)), none], [], xM M3 ML Q, 0, 0) := by
    intro d
    induction d with
    | zero =>
      intro i hi M3 m0 m1
      have : i = c := by omega
      subst this
      refine xb76_2 ⟨fun _ => ?_, fun hl => ?_⟩
      · refine rd i 0 (by omega) true M3 (fun o => Int32.toNatClampNeg (M3 22 o)) m0 (fun o ho => ?_) (fun q => by cases q)
        obtain ⟨g, g1, g2⟩ := m1 o ho
        have : g ≤ 16 := by
          by_cases hf : FD i N J (N o) o
          · have := (g2.1 hf).2
            have := hT16 (N o)
            omega
          · rw [g2.2 hf]; omega
        rw [g1, nI_clamp (by omega)]
        exact ⟨rfl, g2⟩
      · rw [m0 17 1 (by decide), a3] at hl
        exact absurd (nI_le (Nat.le_refl i) (by omega)) hl
    | succ d ih =>
      intro i hi M3 m0 m1
      have v1 : vp_in (nI i) 16 := vp_in_nI (by omega) (by decide)
      have hV3 : VS k c M3 ML Q N J U := hV0.keep (fun a j h => m0 a j (by omega)) (fun _ _ _ => rfl)
      have hP3 : PV c M3 N J := fun y hy => by rw [m0 19 y (by decide)]; exact hP y hy
      have go : ∀ g, HB T (FD c N J (N i) i) (N i) 0 g → xq76 (fun z => ∃ MI' : Nat → Nat → Int32, z = (none, xM MI' ML Q) ∧ (∀ a j, a ≠ 22 → MI' a j = MI a j) ∧ ∀ o, o < c → FD c N J (N o) o → MI' 22 o = nI (T (N o))) (2, [some (.ref 17), some (.int (nI i + 1)), none], [], xM (xm_up M3 22 i (nI g)) ML Q, 0, 0) := fun g hg => by
        rw [nI_1]
        refine ih (i + 1) (by omega) _ (fun a j ha => by rw [xm_up_ne ha]; exact m0 a j ha) (fun o ho => ?_)
        rw [xm_up_self]
        by_cases e : o = i
        · subst e
          rw [if_pos rfl]
          exact ⟨g, rfl, hg⟩
        · rw [if_neg e]
          exact m1 o (by omega)
      refine xb76_2 ⟨fun hl => ?_, fun _ => ⟨_, c71 hV3 hP3 (i := i) (by omega), ?_⟩⟩
      · rw [m0 17 1 (by decide), a3] at hl
        exact absurd hl (nI_ge (by omega) (by omega))
      · rintro _ ⟨f, rfl, hf⟩
        refine xb76_20 ⟨fun h => ⟨v1, ?_⟩, fun h => ⟨v1, ?_⟩⟩
        · rw [bI_0] at h
          rw [nI_clamp (by omega)]
          exact go 0 ⟨fun q => (by rw [hf.mpr q] at h; cases h), fun _ => rfl⟩
        · rw [bI_ne] at h
          have := hT.pos (a := N i) ⟨i, hf.mp h⟩
          rw [nI_clamp (by omega)]
          exact go 1 ⟨fun _ => ⟨by omega, by omega⟩, fun q => absurd (hf.mp h) q⟩
  refine xm_in (xb76_0 ?_)
  exact one c 0 (by omega) MI (fun _ _ _ => rfl) (fun o h => absurd h (Nat.not_lt_zero o))
end HEIGHTS
