theorem IQ0 : IQ xQ0 := by
  have h1 : ∀ i, i < 16 → 24 ≤ xQ0 i ∧ xQ0 i ≤ 39 := by decide +kernel
  have h2 : ∀ i, i < 16 → ∀ j, j < 16 → xQ0 i = xQ0 j → i = j := by decide +kernel
  exact ⟨h1, fun i j hi hj => h2 i hi j hj⟩
/-- the invariant holds of a new object and of a new reference -/
theorem inv0 : xInv RF xI0 xL0 xQ0 := by
  have z : ∀ a j, a ≠ 19 → xI0 a j = 0 := fun a j h => pI_ne h
  have zd : ∀ a j, a ≠ 19 → dm xI0 a j = 0 := fun a j h => by
    unfold dm
    rw [z a j h]
    cases dur a j <;> rfl
  have zl : ∀ a j, dl xL0 a j = 0 := fun a j => by
    unfold dl xL0
    cases dur a j <;> rfl
  refine ⟨⟨0, by decide, z 2 1 (by decide), z 45 1 (by decide), fun i hi => absurd hi (Nat.not_lt_zero i)⟩, 0, 0, ⟨by decide, zd 12 4 (by decide), zd 45 19 (by decide), fun a ha => absurd ha (Nat.not_lt_zero a)⟩, fun a ha => absurd ha (Nat.not_lt_zero a), ⟨by decide, zd 17 1 (by decide), zd 45 24 (by decide), IQ0, fun i hi => absurd hi (Nat.not_lt_zero i)⟩, ?_, ?_, ?_, ?_, ?_⟩
  · intro y hy
    refine Or.inl ⟨?_, fun i _ hi => absurd hi (Nat.not_lt_zero i)⟩
    rw [dm_at (of_dur (Or.inl ⟨by decide, by decide, by omega⟩))]
    show (if 19 = 19 ∧ y < 48 then (-1 : Int32) else _) = -1
    rw [if_pos ⟨rfl, hy⟩]
  · exact ⟨fun i t hi => absurd hi (Nat.not_lt_zero i), fun i hi => absurd hi (Nat.not_lt_zero i)⟩
  · exact fun i t hi => absurd hi (Nat.not_lt_zero i)
  · obtain ⟨T, t1, t2⟩ := LF_ex (E := ED 0 (vN (dm xI0)) (vJ (dm xI0)) (dl xL0 64)) (c := 0) (N := vN (dm xI0)) (J := vJ (dm xI0)) (fun a b ⟨i, hi, _⟩ => absurd hi.1 (Nat.not_lt_zero i))
    exact ⟨T, t1, t2, fun o ho => absurd ho (Nat.not_lt_zero o)⟩
  · intro j hj
    refine ⟨fun n => ?_, fun n => ?_, fun t => ?_, fun t => ?_⟩
    · rw [zl 40 j, hasB_0]
      exact ⟨fun q => (by cases q), fun ⟨p, hp, _⟩ => absurd hp.1 (Nat.not_lt_zero p)⟩
    · rw [zl 41 j, hasB_0]
      exact ⟨fun q => (by cases q), fun ⟨f, hf, _⟩ => absurd hf (Nat.not_lt_zero f)⟩
    · rw [zd 43 j (by decide), hasI_0]
      exact ⟨fun q => (by cases q), fun ⟨_, f, hf, _⟩ => absurd hf (Nat.not_lt_zero f)⟩
    · rw [zd 44 j (by decide), hasI_0]
      exact ⟨fun q => (by cases q), fun ⟨_, f, hf, _⟩ => absurd hf (Nat.not_lt_zero f)⟩
