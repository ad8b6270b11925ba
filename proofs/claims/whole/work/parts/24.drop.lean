theorem xmr_up {Q : Nat → Nat} {i v : Nat} : xm_up (xmr Q) 18 i v = xmr (va_up Q i v) := by
  funext k j
  by_cases hk : k = 18
  · subst hk
    rw [xm_up_self]
    show (if j = i then v else Q j) = va_up Q i v j
    unfold va_up
    rfl
  · rw [xm_up_ne hk]
    unfold xmr
    rw [xm_bne hk]
    rfl
/-- those of the first i that stay -/
def kept (J : Nat → Int32) (x : Int32) : Nat → List Nat
  | 0 => []
  | i + 1 => if J i = x then kept J x i else kept J x i ++ [i]
theorem kept_len (J : Nat → Int32) (x : Int32) : ∀ i, (kept J x i).length ≤ i
  | 0 => Nat.le_refl 0
  | i + 1 => by
    have := kept_len J x i
    unfold kept
    split
    · omega
    · simp; omega
theorem kept_lt (J : Nat → Int32) (x : Int32) : ∀ (i p : Nat), p ∈ kept J x i → p < i
  | 0, p, h => by simp [kept] at h
  | i + 1, p, h => by
    unfold kept at h
    split at h
    · exact Nat.lt_succ_of_lt (kept_lt J x i p h)
    · rcases List.mem_append.mp h with h | h
      · exact Nat.lt_succ_of_lt (kept_lt J x i p h)
      · rw [List.mem_singleton.mp h]; exact Nat.lt_succ_self i
theorem IQ.swap {Q : Nat → Nat} (h : IQ Q) {i t : Nat} (hi : i < 16) (ht : t < 16) : IQ (va_up (va_up Q i (Q t)) t (Q i)) := by
  have e : ∀ p, va_up (va_up Q i (Q t)) t (Q i) p = Q (if p = t then i else if p = i then t else p) := by
    intro p
    unfold va_up
    split
    · rfl
    · split <;> rfl
  refine ⟨fun p hp => ?_, fun p q hp hq hpq => ?_⟩
  · rw [e]
    refine h.1 _ ?_
    split
    · exact hi
    · split <;> assumption
  · rw [e, e] at hpq
    have := h.2 _ _ (by split; exact hi; split <;> assumption) (by split; exact hi; split <;> assumption) hpq
    split at this <;> split at this <;> (try split at this) <;> (try split at this) <;> omega
theorem c82 {MI : Nat → Nat → Int32} {ML : Nat → Nat → Int64} {Q : Nat → Nat} {c : Nat} {J : Nat → Int32} (hQ : IQ Q) (hc : c ≤ 16) (h : MI 17 1 = nI c) (hJ : ∀ i, i < c → MI (Q i - 1) 0 = J i) (x : Int32) : xm_Ev xz 82 [.ref 17, .int x] (xM MI ML Q) (fun r => ∃ Q', r = (some (.int (nI (c - (kept J x c).length))), xM (xm_up MI 17 1 (nI (kept J x c).length)) ML Q') ∧ IQ Q' ∧ ∀ p, p < (kept J x c).length → Q' p = Q ((kept J x c).getD p 0)) := by
  have two : ∀ (d i : Nat), i + d = c → ∀ Qc : Nat → Nat, IQ Qc → (∀ p, i ≤ p → Qc p = Q p) → (∀ p, p < (kept J x i).length → Qc p = Q ((kept J x i).getD p 0)) → xq82 (fun r => ∃ Q', r = (some (.int (nI (c - (kept J x c).length))), xM (xm_up MI 17 1 (nI (kept J x c).length)) ML Q') ∧ IQ Q' ∧ ∀ p, p < (kept J x c).length → Q' p = Q ((kept J x c).getD p 0)) (4, [some (.ref 17), some (.int x), some (.int (nI (kept J x i).length)), some (.int (nI i)), none], [], xM MI ML Qc, 0, 0) := by
    intro d
    induction d with
    | zero =>
      intro i hi Qc q1 q2 q3
      have : i = c := by omega
      subst this
      refine xb82_4 ⟨fun _ => ⟨Qc, ?_, q1, q3⟩, fun hl => ?_⟩
      · rw [h, pk_sub (kept_len J x i)]
      · rw [h] at hl
        exact absurd (nI_le (Nat.le_refl i) (by omega)) hl
    | succ d ih =>
      intro i hi Qc q1 q2 q3
      have hl := kept_len J x i
      obtain ⟨a1, a2, a3, a4⟩ := q1.at (i := i) (by omega)
      obtain ⟨b1, b2, b3, b4⟩ := q1.at (i := (kept J x i).length) (by omega)
      have v1 : vp_in (nI i) 16 := vp_in_nI (by omega) (by decide)
      have v2 : vp_in (nI (kept J x i).length) 16 := vp_in_nI (by omega) (by decide)
      refine xb82_4 ⟨fun hl => ?_, fun _ => ⟨v1, Qc i - 1, a1, a2, fun e => ?_, fun e => ⟨v2, Qc (kept J x i).length - 1, b1, ⟨v1, b2⟩, ⟨v2, a2⟩, ?_⟩⟩⟩
      · rw [h] at hl
        exact absurd hl (nI_ge (by omega) (by omega))
      · have e2 : kept J x (i + 1) = kept J x i := by
          show (if J i = x then kept J x i else kept J x i ++ [i]) = kept J x i
          rw [if_pos]
          rw [← e, q2 i (Nat.le_refl i), hJ i (by omega)]
        have := ih (i + 1) (by omega) Qc q1 (fun p hp => q2 p (by omega)) (by rw [e2]; exact q3)
        rw [e2] at this
        rw [nI_1]
        exact this
      · have e2 : kept J x (i + 1) = kept J x i ++ [i] := by
          show (if J i = x then kept J x i else kept J x i ++ [i]) = kept J x i ++ [i]
          rw [if_neg]
          rw [← hJ i (by omega), ← q2 i (Nat.le_refl i)]
          exact e
        have z1 : Qc i - 1 + 1 = Qc i := by have := (q1.1 i (by omega)).1; omega
        have z2 : Qc (kept J x i).length - 1 + 1 = Qc (kept J x i).length := by have := (q1.1 (kept J x i).length (by omega)).1; omega
        rw [xmr_up, xmr_up, nI_clamp (by omega), nI_clamp (by omega), z1, z2, nI_1, nI_1]
        have := ih (i + 1) (by omega) (va_up (va_up Qc i (Qc (kept J x i).length)) (kept J x i).length (Qc i)) (q1.swap (by omega) (by omega)) (fun p hp => by
          rw [va_up_ne _ _ (by omega), va_up_ne _ _ (by omega)]
          exact q2 p (by omega)) (fun p hp => by
          rw [e2] at hp ⊢
          rw [List.length_append, List.length_singleton] at hp
          rw [List.getD_eq_getElem?_getD]
          by_cases hpt : p = (kept J x i).length
          · subst hpt
            rw [va_up_self, List.getElem?_append_right (Nat.le_refl _), Nat.sub_self]
            exact q2 i (Nat.le_refl i)
          · rw [va_up_ne _ _ hpt, va_up_ne _ _ (by omega), List.getElem?_append_left (by omega), ← List.getD_eq_getElem?_getD]
            exact q3 p (by omega))
        rw [e2, List.length_append, List.length_singleton] at this
        exact this
  refine xm_in (xb82_0 ?_)
  exact two c 0 (by omega) Q hQ (fun p _ => rfl) (fun p hp => absurd hp (Nat.not_lt_zero p))
/-- rows of the reference, those of L moved to the front -/
def rowF (MI : Nat → Nat → Int32) (L : List Nat) : Nat → Nat → Int32 := fun a p => if 57 ≤ a ∧ a ≤ 63 ∧ p < L.length then MI a (L.getD p 0) else MI a p
def rowG (ML : Nat → Nat → Int64) (L : List Nat) : Nat → Nat → Int64 := fun a p => if 64 ≤ a ∧ a ≤ 65 ∧ p < L.length then ML a (L.getD p 0) else ML a p
theorem rowF_s {MI : Nat → Nat → Int32} {L : List Nat} {i : Nat} (h : L.length ≤ i) : xm_up (xm_up (xm_up (xm_up (xm_up (xm_up (xm_up (rowF MI L) 57 L.length (rowF MI L 57 i)) 58 L.length (rowF MI L 58 i)) 59 L.length (rowF MI L 59 i)) 60 L.length (rowF MI L 60 i)) 61 L.length (rowF MI L 61 i)) 62 L.length (rowF MI L 62 i)) 63 L.length (rowF MI L 63 i) = rowF MI (L ++ [i]) := by
  have e : ∀ a, rowF MI L a i = MI a i := fun a => by unfold rowF; rw [if_neg (by omega)]
  funext a p
  simp only [xu, e]
  by_cases hp : p = L.length
  · subst hp
    have r : ∀ a, 57 ≤ a → a ≤ 63 → rowF MI (L ++ [i]) a L.length = MI a i := fun a h1 h2 => by
      unfold rowF
      rw [if_pos ⟨h1, h2, by simp⟩, List.getD_eq_getElem?_getD, List.getElem?_append_right (Nat.le_refl _), Nat.sub_self]
      rfl
    by_cases h7 : 57 ≤ a ∧ a ≤ 63
    · rw [r a h7.1 h7.2]
      rcases (show a = 57 ∨ a = 58 ∨ a = 59 ∨ a = 60 ∨ a = 61 ∨ a = 62 ∨ a = 63 by omega) with rfl | rfl | rfl | rfl | rfl | rfl | rfl <;> simp
    · rw [if_neg (by omega), if_neg (by omega), if_neg (by omega), if_neg (by omega), if_neg (by omega), if_neg (by omega), if_neg (by omega)]
      unfold rowF
      rw [if_neg (by omega), if_neg (by omega)]
  · rw [if_neg (by omega), if_neg (by omega), if_neg (by omega), if_neg (by omega), if_neg (by omega), if_neg (by omega), if_neg (by omega)]
    unfold rowF
    by_cases h7 : 57 ≤ a ∧ a ≤ 63 ∧ p < L.length
    · rw [if_pos h7, if_pos ⟨h7.1, h7.2.1, by simp; omega⟩, List.getD_eq_getElem?_getD, List.getD_eq_getElem?_getD, List.getElem?_append_left h7.2.2]
    · rw [if_neg h7, if_neg (by simp; omega)]
theorem rowG_s {ML : Nat → Nat → Int64} {L : List Nat} {i : Nat} (h : L.length ≤ i) : xm_up (xm_up (rowG ML L) 64 L.length (rowG ML L 64 i)) 65 L.length (rowG ML L 65 i) = rowG ML (L ++ [i]) := by
  have e : ∀ a, rowG ML L a i = ML a i := fun a => by unfold rowG; rw [if_neg (by omega)]
  funext a p
  simp only [xu, e]
  by_cases hp : p = L.length
  · subst hp
    have r : ∀ a, 64 ≤ a → a ≤ 65 → rowG ML (L ++ [i]) a L.length = ML a i := fun a h1 h2 => by
      unfold rowG
      rw [if_pos ⟨h1, h2, by simp⟩, List.getD_eq_getElem?_getD, List.getElem?_append_right (Nat.le_refl _), Nat.sub_self]
      rfl
    by_cases h7 : 64 ≤ a ∧ a ≤ 65
    · rw [r a h7.1 h7.2]
      rcases (show a = 64 ∨ a = 65 by omega) with rfl | rfl <;> simp
    · rw [if_neg (by omega), if_neg (by omega)]
      unfold rowG
      rw [if_neg (by omega), if_neg (by omega)]
  · rw [if_neg (by omega), if_neg (by omega)]
    unfold rowG
    by_cases h7 : 64 ≤ a ∧ a ≤ 65 ∧ p < L.length
    · rw [if_pos h7, if_pos ⟨h7.1, h7.2.1, by simp; omega⟩, List.getD_eq_getElem?_getD, List.getD_eq_getElem?_getD, List.getElem?_append_left h7.2.2]
    · rw [if_neg h7, if_neg (by simp; omega)]
theorem c14 {MI : Nat → Nat → Int32} {ML : Nat → Nat → Int64} {Q : Nat → Nat} (x : Int32) : xm_Ev xz 14 [.int x] (xM MI ML Q) (fun r => r = (some (.int (bI (decide (¬ x < 0 ∧ x < 5)))), xM MI ML Q)) := by
  refine xm_in (xb14_0 ⟨fun h => ⟨Or.inl rfl, ?_⟩, fun h => ⟨fun h2 => ⟨Or.inl rfl, ?_⟩, fun h2 => ⟨Or.inr rfl, ?_⟩⟩⟩)
  · rw [decide_eq_false (fun q => q.1 h)]; rfl
  · rw [decide_eq_false (fun q => k2_nle q.2 h2)]; rfl
  · rw [decide_eq_true ⟨h, k2_lt h2⟩]; rfl
theorem lt5q {x : Int32} : x < 5 ↔ ¬ 4 < x := by
  rw [Int32.lt_iff_toInt_lt, Int32.lt_iff_toInt_lt]
  have a : (5 : Int32).toInt = 5 := rfl
  have b : (4 : Int32).toInt = 4 := rfl
  omega
theorem c117 {MI : Nat → Nat → Int32} {ML : Nat → Nat → Int64} {Q : Nat → Nat} (x : Int32) : xm_Ev xz 117 [.int x] (xM MI ML Q) (fun r => r = (some (.int (bI (decide (¬ x < 0 ∧ x < 5)))), xM MI ML Q)) := by
  refine xm_in (xb117_0 ⟨fun h => ⟨Or.inl rfl, ?_⟩, fun h => ⟨fun h2 => ⟨Or.inl rfl, ?_⟩, fun h2 => ⟨Or.inr rfl, ?_⟩⟩⟩)
  · rw [decide_eq_false (fun q => q.1 h)]; rfl
  · rw [decide_eq_false (fun q => lt5q.mp q.2 h2)]; rfl
  · rw [decide_eq_true ⟨h, lt5q.mpr h2⟩]; rfl
theorem l145 {P : xm_R → Prop} {MI : Nat → Nat → Int32} {ML : Nat → Nat → Int64} {Q : Nat → Nat} {x : Int32} {c : Nat} (hc : c ≤ 16) (h : MI 45 24 = nI c) (hp : P (some (.int (nI (c - (kept (MI 57) x c).length))), xM (xm_up (rowF MI (kept (MI 57) x c)) 45 24 (nI (kept (MI 57) x c).length)) (rowG ML (kept (MI 57) x c)) Q)) : ∀ (d i : Nat), i + d = c → xq145 P (16, [some (.ref 45), some (.int x), some (.int (nI (kept (MI 57) x i).length)), some (.int (nI (i - (kept (MI 57) x i).length))), some (.int (nI i))], [], xM (rowF MI (kept (MI 57) x i)) (rowG ML (kept (MI 57) x i)) Q, 0, 0) := by
  have h45 : ∀ L, rowF MI L 45 24 = nI c := fun L => by unfold rowF; rw [if_neg (by omega), h]
  intro d
  induction d with
  | zero =>
    intro i hi
    have : i = c := by omega
    subst this
    refine xb145_16 ⟨fun _ => hp, fun hl => ?_⟩
    rw [h45] at hl
    exact absurd (nI_le (Nat.le_refl i) (by omega)) hl
  | succ d ih =>
    intro i hi
    have hl := kept_len (MI 57) x i
    have v1 : vp_in (nI i) 16 := vp_in_nI (by omega) (by decide)
    have v2 : vp_in (nI (kept (MI 57) x i).length) 16 := vp_in_nI (by omega) (by decide)
    have e57 : rowF MI (kept (MI 57) x i) 57 i = MI 57 i := by unfold rowF; rw [if_neg (by omega)]
    refine xb145_16 ⟨fun hl => ?_, fun _ => ⟨v1, ?_⟩⟩
    · rw [h45] at hl
      exact absurd hl (nI_ge (by omega) (by omega))
    · rw [nI_clamp (by omega), nI_clamp (by omega)]
      refine ⟨fun e => ?_, fun e => ⟨v1, v2, v1, v2, v1, v2, v1, v2, v1, v2, v1, v2, v1, v2, v1, v2, v1, v2, ?_⟩⟩
      · rw [e57] at e
        have e2 : kept (MI 57) x (i + 1) = kept (MI 57) x i := by
          show (if MI 57 i = x then kept (MI 57) x i else kept (MI 57) x i ++ [i]) = _
          rw [if_pos e]
        have := ih (i + 1) (by omega)
        rw [e2, show i + 1 - (kept (MI 57) x i).length = (i - (kept (MI 57) x i).length) + 1 by omega] at this
        rw [nI_1, nI_1]
        exact this
      · rw [e57] at e
        have e2 : kept (MI 57) x (i + 1) = kept (MI 57) x i ++ [i] := by
          show (if MI 57 i = x then kept (MI 57) x i else kept (MI 57) x i ++ [i]) = _
          rw [if_neg e]
        have := ih (i + 1) (by omega)
        rw [e2, List.length_append, List.length_singleton, show i + 1 - ((kept (MI 57) x i).length + 1) = i - (kept (MI 57) x i).length by omega, ← rowF_s hl, ← rowG_s hl] at this
        rw [nI_1, nI_1]
        exact this
theorem c145 {MI : Nat → Nat → Int32} {ML : Nat → Nat → Int64} {Q : Nat → Nat} {c : Nat} (hc : c ≤ 16) (h : MI 45 24 = nI c) (x : Int32) : xm_Ev xz 145 [.ref 45, .int x] (xM MI ML Q) (fun r => ((¬ x < 0 ∧ x < 5) ∧ r = (some (.int (nI (c - (kept (MI 57) x c).length))), xM (xm_up (rowF MI (kept (MI 57) x c)) 45 24 (nI (kept (MI 57) x c).length)) (rowG ML (kept (MI 57) x c)) Q)) ∨ (¬ (¬ x < 0 ∧ x < 5) ∧ r = (some (.int (-1)), xM MI ML Q))) := by
  refine xm_in (xb145_0 ⟨_, c117 x, ?_⟩)
  rintro _ rfl
  by_cases hn : ¬ x < 0 ∧ x < 5
  · rw [decide_eq_true hn]
    refine xb145_4 ⟨fun h => absurd h (by decide), fun _ => ?_⟩
    have := l145 (P := fun r => ((¬ x < 0 ∧ x < 5) ∧ r = (some (.int (nI (c - (kept (MI 57) x c).length))), xM (xm_up (rowF MI (kept (MI 57) x c)) 45 24 (nI (kept (MI 57) x c).length)) (rowG ML (kept (MI 57) x c)) Q)) ∨ (¬ (¬ x < 0 ∧ x < 5) ∧ r = (some (.int (-1)), xM MI ML Q))) (Q := Q) (ML := ML) hc h (Or.inl ⟨hn, rfl⟩) c 0 (by omega)
    have eF : rowF MI (kept (MI 57) x 0) = MI := by
      funext a p
      unfold rowF
      rw [if_neg (by simp [kept])]
    have eG : rowG ML (kept (MI 57) x 0) = ML := by
      funext a p
      unfold rowG
      rw [if_neg (by simp [kept])]
    rw [eF, eG] at this
    exact this
  · rw [decide_eq_false hn]
    exact xb145_4 ⟨fun _ => Or.inr ⟨hn, rfl⟩, fun h => absurd rfl h⟩
