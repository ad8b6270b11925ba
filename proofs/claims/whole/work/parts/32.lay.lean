/-- strictly below -/
def Bl (E : Nat → Nat → Prop) (a t : Nat) : Prop := Cl E a t ∧ ¬ Cl E t a
/-- one edge off, out of the whole component -/
def Gl (E : Nat → Nat → Prop) (a t : Nat) : Prop := ∃ m, Tg E a m ∧ E m t ∧ ¬ Tg E a t
theorem Gl.bl {E : Nat → Nat → Prop} {a t : Nat} (h : Gl E a t) : Bl E a t := by
  obtain ⟨m, h1, h2, h3⟩ := h
  have h4 : Cl E a t := h1.1.tr (Cl.ed h2)
  exact ⟨h4, fun q => h3 ⟨h4, q⟩⟩
theorem Bl.ex {E : Nat → Nat → Prop} {a t : Nat} (h : Bl E a t) : ∃ t', Gl E a t' ∧ Cl E t' t := by
  have := h.1 (fun x y => Cl E x y ∧ (Tg E a x → Tg E a y ∨ ∃ t', Gl E a t' ∧ Cl E t' y)) ?_ ?_ ?_
  · rcases this.2 ⟨Cl.rf _, Cl.rf _⟩ with h1 | h1
    · exact absurd h1.2 h.2
    · exact h1
  · exact fun x => ⟨Cl.rf x, Or.inl⟩
  · intro x y e
    refine ⟨Cl.ed e, fun hx => ?_⟩
    by_cases hy : Tg E a y
    · exact Or.inl hy
    · exact Or.inr ⟨y, ⟨x, hx, e, hy⟩, Cl.rf y⟩
  · intro x y z ⟨h1, h2⟩ ⟨h3, h4⟩
    refine ⟨h1.tr h3, fun hx => ?_⟩
    rcases h2 hx with q | ⟨t', q1, q2⟩
    · exact h4 q
    · exact Or.inr ⟨t', q1, q2.tr h3⟩
theorem Cl.out {E : Nat → Nat → Prop} {a t : Nat} (h : Cl E a t) (hne : a ≠ t) : ∃ b, E a b := by
  by_cases e : ∃ b, E a b
  · exact e
  · exact absurd (Cl_none (fun b q => e ⟨b, q⟩) h).symm hne
theorem Cl.into {E : Nat → Nat → Prop} {k a t : Nat} (hE : ∀ a b, E a b → b < k) (h : Cl E a t) (hne : a ≠ t) : t < k := by
  have := h (fun x y => x = y ∨ y < k) (fun x => Or.inl rfl) (fun x y e => Or.inr (hE x y e)) (fun x y z h1 h2 => by
    rcases h2 with h2 | h2
    · subst h2; exact h1
    · exact Or.inr h2)
  rcases this with q | q
  · exact absurd q hne
  · exact q
/-- layers -/
def LF (E : Nat → Nat → Prop) (fd : Nat → Prop) (T : Nat → Nat) : Prop := ∀ a, (¬ fd a → T a = 0) ∧ (fd a → (∀ t, Bl E a t → T t < T a) ∧ (T a = 1 ∨ ∃ t, Bl E a t ∧ T a = T t + 1))
theorem LF.uniq {E : Nat → Nat → Prop} {fd : Nat → Prop} {T T' : Nat → Nat} (h : LF E fd T) (h' : LF E fd T') : ∀ n a, T a ≤ n → T a = T' a := by
  intro n
  induction n with
  | zero =>
    intro a ha
    by_cases hf : fd a
    · rcases ((h a).2 hf).2 with q | ⟨t, -, q⟩ <;> omega
    · rw [(h a).1 hf, (h' a).1 hf]
  | succ n ih =>
    intro a ha
    by_cases hf : fd a
    · obtain ⟨p1, p2⟩ := (h a).2 hf
      obtain ⟨q1, q2⟩ := (h' a).2 hf
      have e : ∀ t, Bl E a t → T t = T' t := fun t ht => ih t (by have := p1 t ht; omega)
      rcases p2 with p2 | ⟨t, t1, t2⟩ <;> rcases q2 with q2 | ⟨s, s1, s2⟩
      · omega
      · have := p1 s s1
        have := e s s1
        omega
      · have := q1 t t1
        have := e t t1
        omega
      · have := p1 s s1
        have := e s s1
        have := q1 t t1
        have := e t t1
        omega
    · rw [(h a).1 hf, (h' a).1 hf]
theorem LF.pos {E : Nat → Nat → Prop} {fd : Nat → Prop} {T : Nat → Nat} (h : LF E fd T) {a : Nat} (hf : fd a) : 1 ≤ T a := by
  rcases ((h a).2 hf).2 with q | ⟨t, -, q⟩ <;> omega
theorem LF.mono {E : Nat → Nat → Prop} {fd : Nat → Prop} {T : Nat → Nat} (h : LF E fd T) (hE : ∀ a b, E a b → fd a) {a b : Nat} (hc : Cl E a b) : T b ≤ T a := by
  by_cases e : a = b
  · subst e; exact Nat.le_refl _
  · obtain ⟨x, hx⟩ := hc.out e
    have fa := hE a x hx
    by_cases hb : Cl E b a
    · obtain ⟨y, hy⟩ := hb.out (Ne.symm e)
      have fb := hE b y hy
      have := h.pos fa
      rcases ((h b).2 fb).2 with q | ⟨t, t1, t2⟩
      · omega
      · have := ((h a).2 fa).1 t ⟨hc.tr t1.1, fun q => t1.2 (q.tr hc)⟩
        omega
    · exact Nat.le_of_lt (((h a).2 fa).1 b ⟨hc, hb⟩)
theorem LF.gl {E : Nat → Nat → Prop} {fd : Nat → Prop} {T : Nat → Nat} (h : LF E fd T) (hE : ∀ a b, E a b → fd a) {a : Nat} (fa : fd a) : (∀ t, Gl E a t → T t < T a) ∧ (T a = 1 ∨ ∃ t, Gl E a t ∧ T a = T t + 1) := by
  obtain ⟨h1, h2⟩ := (h a).2 fa
  refine ⟨fun t ht => h1 t ht.bl, ?_⟩
  rcases h2 with q | ⟨t, t1, t2⟩
  · exact Or.inl q
  · obtain ⟨t', g1, g2⟩ := t1.ex
    have := h.mono hE g2
    have := h1 t' g1.bl
    exact Or.inr ⟨t', g1, by omega⟩
/-- the greatest of the first n -/
def mx (f : Nat → Nat) : Nat → Nat
  | 0 => 0
  | n + 1 => if mx f n < f n then f n else mx f n
theorem mx_ge (f : Nat → Nat) : ∀ (n t : Nat), t < n → f t ≤ mx f n
  | 0, t, h => absurd h (Nat.not_lt_zero t)
  | n + 1, t, h => by
    unfold mx
    by_cases e : t = n
    · subst e; split <;> omega
    · have := mx_ge f n t (by omega)
      split <;> omega
theorem mx_at (f : Nat → Nat) : ∀ n, mx f n = 0 ∨ ∃ t, t < n ∧ mx f n = f t
  | 0 => Or.inl rfl
  | n + 1 => by
    unfold mx
    split
    · exact Or.inr ⟨n, by omega, rfl⟩
    · rcases mx_at f n with h | ⟨t, t1, t2⟩
      · exact Or.inl h
      · exact Or.inr ⟨t, by omega, t2⟩
noncomputable def ci (p : Prop) (a b : Nat) : Nat := @ite Nat p (Classical.propDecidable p) a b
theorem ci_pos {p : Prop} (h : p) (a b : Nat) : ci p a b = a := if_pos h
theorem ci_neg {p : Prop} (h : ¬ p) (a b : Nat) : ci p a b = b := if_neg h
/-- how many of the first n -/
noncomputable def cnt (p : Nat → Prop) : Nat → Nat
  | 0 => 0
  | n + 1 => ci (p n) (cnt p n + 1) (cnt p n)
theorem cnt_le (p : Nat → Prop) : ∀ n, cnt p n ≤ n
  | 0 => Nat.le_refl 0
  | n + 1 => by
    have := cnt_le p n
    unfold cnt
    by_cases h : p n
    · rw [ci_pos h]; omega
    · rw [ci_neg h]; omega
theorem cnt_mono {p q : Nat → Prop} (h : ∀ i, p i → q i) : ∀ n, cnt p n ≤ cnt q n
  | 0 => Nat.le_refl 0
  | n + 1 => by
    have := cnt_mono h n
    unfold cnt
    by_cases hp : p n
    · rw [ci_pos hp, ci_pos (h n hp)]; omega
    · rw [ci_neg hp]
      by_cases hq : q n
      · rw [ci_pos hq]; omega
      · rw [ci_neg hq]; omega
theorem cnt_lt {p q : Nat → Prop} (h : ∀ i, p i → q i) {j : Nat} (h1 : q j) (h2 : ¬ p j) : ∀ n, j < n → cnt p n < cnt q n
  | 0, hj => absurd hj (Nat.not_lt_zero j)
  | n + 1, hj => by
    unfold cnt
    by_cases e : j = n
    · subst e
      rw [ci_neg h2, ci_pos h1]
      have := cnt_mono h j
      omega
    · have := cnt_lt h h1 h2 n (by omega)
      by_cases hp : p n
      · rw [ci_pos hp, ci_pos (h n hp)]; omega
      · rw [ci_neg hp]
        by_cases hq : q n
        · rw [ci_pos hq]; omega
        · rw [ci_neg hq]; omega
theorem cnt_pos {p : Nat → Prop} {j : Nat} (h1 : p j) : ∀ n, j < n → 0 < cnt p n
  | 0, hj => absurd hj (Nat.not_lt_zero j)
  | n + 1, hj => by
    unfold cnt
    by_cases e : j = n
    · subst e
      rw [ci_pos h1]; omega
    · have := cnt_pos h1 n (by omega)
      by_cases hq : p n
      · rw [ci_pos hq]; omega
      · rw [ci_neg hq]; omega
noncomputable def Fl (E : Nat → Nat → Prop) (fd : Nat → Prop) (h : Nat → Nat) (a : Nat) : Nat := ci (fd a) (1 + mx (fun t => ci (Bl E a t) (h t) 0) 48) 0
noncomputable def Dl (E : Nat → Nat → Prop) (fd : Nat → Prop) : Nat → Nat → Nat
  | 0 => fun _ => 0
  | n + 1 => Fl E fd (Dl E fd n)
theorem Dl_le (E : Nat → Nat → Prop) (fd : Nat → Prop) : ∀ n a, Dl E fd n a ≤ n
  | 0, _ => Nat.le_refl 0
  | n + 1, a => by
    show Fl E fd (Dl E fd n) a ≤ n + 1
    unfold Fl
    by_cases hf : fd a
    · rw [ci_pos hf]
      rcases mx_at (fun t => ci (Bl E a t) (Dl E fd n t) 0) 48 with h | ⟨t, -, h⟩
      · omega
      · rw [h]
        have := Dl_le E fd n t
        by_cases hb : Bl E a t
        · rw [ci_pos hb]; omega
        · rw [ci_neg hb]; omega
    · rw [ci_neg hf]; omega
theorem Fl_cg {E : Nat → Nat → Prop} {fd : Nat → Prop} {h h' : Nat → Nat} {a : Nat} (e : fd a → ∀ t, Bl E a t → h t = h' t) : Fl E fd h a = Fl E fd h' a := by
  unfold Fl
  by_cases hf : fd a
  · rw [ci_pos hf, ci_pos hf]
    congr 2
    funext t
    by_cases hb : Bl E a t
    · rw [ci_pos hb, ci_pos hb, e hf t hb]
    · rw [ci_neg hb, ci_neg hb]
  · rw [ci_neg hf, ci_neg hf]
/-- there are layers -/
theorem LF_ex {E : Nat → Nat → Prop} {c : Nat} {N J : Nat → Nat} (hE : ∀ a b, E a b → b < 48) : ∃ T, LF E (fun a => ∃ i, FD c N J a i) T ∧ ∀ a, T a ≤ c := by
  let fd : Nat → Prop := fun a => ∃ i, FD c N J a i
  let cn : Nat → Nat := fun a => cnt (fun i => Cl E a (N i) ∧ FD c N J (N i) i) c
  have lt : ∀ a t, fd a → Bl E a t → cn t < cn a := fun a t ⟨i, hi⟩ hb => by
    have e := hi.2.1
    refine cnt_lt (fun j ⟨q1, q2⟩ => ⟨hb.1.tr q1, q2⟩) (j := i) ?_ ?_ c hi.1
    · rw [e]; exact ⟨Cl.rf a, hi⟩
    · rw [e]; exact fun q => hb.2 q.1
  have st : ∀ n a, cn a ≤ n → Dl E fd (n + 1) a = Dl E fd n a := by
    intro n
    induction n with
    | zero =>
      intro a ha
      show Fl E fd _ a = 0
      unfold Fl
      refine ci_neg (fun ⟨i, hi⟩ => ?_) _ _
      have e := hi.2.1
      have : 0 < cn a := cnt_pos (j := i) (by rw [e]; exact ⟨Cl.rf a, hi⟩) c hi.1
      omega
    | succ n ih =>
      intro a ha
      exact Fl_cg fun hf t ht => ih t (by have := lt a t hf ht; omega)
  refine ⟨Dl E fd c, fun a => ?_, Dl_le E fd c⟩
  have fx : Dl E fd c a = Fl E fd (Dl E fd c) a := (st c a (cnt_le _ c)).symm
  refine ⟨fun hf => ?_, fun hf => ?_⟩
  · rw [fx]
    exact ci_neg hf _ _
  · have fx : Dl E fd c a = 1 + mx (fun t => ci (Bl E a t) (Dl E fd c t) 0) 48 := fx.trans (ci_pos hf _ _)
    refine ⟨fun t ht => ?_, ?_⟩
    · have := mx_ge (fun t => ci (Bl E a t) (Dl E fd c t) 0) 48 t (Cl.into hE ht.1 (fun q => ht.2 (by subst q; exact Cl.rf a)))
      rw [ci_pos ht] at this
      omega
    · rcases mx_at (fun t => ci (Bl E a t) (Dl E fd c t) 0) 48 with h | ⟨t, -, h⟩
      · left; omega
      · skip
        by_cases hb : Bl E a t
        · rw [ci_pos hb] at h
          exact Or.inr ⟨t, hb, by omega⟩
        · rw [ci_neg hb] at h
          left; omega
