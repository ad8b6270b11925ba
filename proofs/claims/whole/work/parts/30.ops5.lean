section OPS5
variable {R : (Nat → Nat → Int32) → (Nat → Nat → Int64) → (Nat → Nat) → Prop}
theorem op12 (hR : ∀ DI DL Q, R DI DL Q → ∃ k, IB k DI ∧ IP k DI) (x : Int32) : xOpI (xInv R) 96 160 [.int x] := by
  intro MI ML Q hI
  obtain ⟨k, hB0, hP0⟩ := hR _ _ _ hI.2
  have hB : IB k MI := hB0
  have hP : IP k MI := hP0
  obtain ⟨b1, b2, b3, b4⟩ := hB
  refine xm_in (xb96_0 ⟨_, c97 b1 b2 x, ?_⟩)
  rintro _ (⟨a, ha, rfl, rfl⟩ | ⟨hn, rfl⟩)
  · obtain ⟨h, h1, h2, h3, h4⟩ := hP a ha
    refine xb96_8 ⟨MI 16 a, MI, ML, Q, rfl, (c160 b1 b3 b4 ha h1 h3 h4).imp ?_⟩
    rintro _ rfl
    refine ⟨MI, ML, Q, ?_, hI⟩
    rw [h2]
  · refine xb96_8 ⟨-1, MI, ML, Q, rfl, xm_in (xb160_0 ⟨_, c148 _, ?_⟩)⟩
    rintro _ rfl
    rw [b3, decide_eq_false hn]
    exact xb160_5 ⟨fun _ => ⟨MI, ML, Q, rfl, hI⟩, fun q => absurd rfl q⟩
theorem home_eq {k : Nat} {MI : Nat → Nat → Int32} (hk : k ≤ 48) (hP : IP k MI) {a b : Nat} (ha : a < k) (hb : b < k) : MI 16 a = MI 16 b ↔ SP MI a b := by
  obtain ⟨h, h1, h2, h3, h4⟩ := hP a ha
  obtain ⟨g, g1, g2, g3, g4⟩ := hP b hb
  rw [h2, g2, nI_eq (by omega) (by omega)]
  constructor
  · rintro rfl
    exact h3.sy.tr g3
  · intro s
    by_cases hl : h < g
    · exact absurd (h3.tr s) (g4 h hl)
    · by_cases hg : g < h
      · exact absurd (g3.tr s.sy) (h4 g hg)
      · omega
theorem op13 (hR : ∀ DI DL Q, R DI DL Q → ∃ k c, IB k DI ∧ IP k DI ∧ IC k c DI DL Q) (x : Int32) : xOpI (xInv R) 98 163 [.int x] := by
  intro MI ML Q hI
  obtain ⟨k, c, hB0, hP0, hC0⟩ := hR _ _ _ hI.2
  have hB : IB k MI := hB0
  have hP : IP k MI := hP0
  have hC := hC0.get
  have hVM := IC.vm hB hC
  have hVS := IC.vs hB.1 hC
  obtain ⟨b1, b2, b3, b4⟩ := hB
  by_cases hn : ¬ x < 0 ∧ x < nI k
  · obtain ⟨a, ha, rfl⟩ := nI_in2 (by omega) hn
    refine xm_in (xb98_0 ⟨_, c86 _, ?_⟩)
    rintro _ rfl
    rw [b2, decide_eq_true hn]
    refine xb98_8 ⟨fun q => absurd q (by decide), fun _ => ⟨_, c97' b1 b2 ha, ?_⟩⟩
    rintro _ rfl
    refine xb98_20 ⟨_, c99 hVS b2 (MI 16 a), ?_⟩
    rintro _ ⟨v, rfl, hv⟩
    refine xb98_23 ⟨v, MI, ML, Q, rfl, (c163 hVM b4 ha).imp ?_⟩
    rintro _ ⟨v', rfl, hv'⟩
    refine ⟨MI, ML, Q, ?_, hI⟩
    have : JS (fun i => nI (vJ MI i)) (fun i => SP MI (vN MI i) a) c v := JS.cg (fun j hj => ⟨rfl, home_eq b1 hP (hVM.2.2.2.2 j hj).2.1 ha⟩) hv
    rw [hv'.uniq this]
  · refine xm_in (xb98_0 ⟨_, c86 _, ?_⟩)
    rintro _ rfl
    rw [b2, decide_eq_false hn]
    refine xb98_8 ⟨fun _ => ⟨0, MI, ML, Q, rfl, xm_in (xb163_0 ?_)⟩, fun q => absurd rfl q⟩
    have h16 := hC.1
    have h45 := hC.2.2.1
    by_cases hc : c = 0
    · refine xb163_4 ⟨fun _ => ⟨MI, ML, Q, rfl, hI⟩, fun hl => ?_⟩
      rw [h45, hc] at hl
      exact absurd (by decide) hl
    · refine xb163_4 ⟨fun _ => ⟨MI, ML, Q, rfl, hI⟩, fun _ => ⟨_, c148 _, ?_⟩⟩
      rintro _ rfl
      rw [b3, decide_eq_false hn]
      exact xb163_17 ⟨fun _ => ⟨MI, ML, Q, rfl, hI⟩, fun q => absurd rfl q⟩
end OPS5
