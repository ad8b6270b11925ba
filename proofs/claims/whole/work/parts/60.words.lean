abbrev Wd := List Int32
/-- the word that stands in the draft -/
def wB (b : Nat → Nat) (f t : Nat) : Wd := (List.range (t - f)).map (fun i => nI (b (f + i)))
theorem wB_len (b : Nat → Nat) (f t : Nat) : (wB b f t).length = t - f := by
  unfold wB
  rw [List.length_map, List.length_range]
theorem wB_at {b : Nat → Nat} {f t i : Nat} (h : i < t - f) : (wB b f t).getD i 0 = nI (b (f + i)) := by
  unfold wB
  rw [List.getD_eq_getElem?_getD, List.getElem?_map, List.getElem?_range h]
  rfl
theorem Wd_ext {w v : Wd} (h1 : w.length = v.length) (h2 : ∀ i, i < w.length → w.getD i 0 = v.getD i 0) : w = v := by
  refine List.ext_getElem h1 (fun i a c => ?_)
  have := h2 i a
  rw [List.getD_eq_getElem?_getD, List.getD_eq_getElem?_getD, List.getElem?_eq_getElem a, List.getElem?_eq_getElem c] at this
  exact this
/-- a word that a table takes -/
def gW (w : Wd) : Prop := 1 ≤ w.length ∧ w.length ≤ 16 ∧ w.getD 0 0 ≠ 47
theorem cn_gW {b : Nat → Nat} {f t : Nat} (h : cn (bBy b) f t = true) : f < t ∧ t - f ≤ 16 ∧ gW (wB b f t) := by
  unfold cn at h
  rw [Bool.and_eq_true] at h
  have h1 := of_decide_eq_true h.1
  have h2 := h.2
  cases hd : t - f with
  | zero => rw [hd] at h2; cases h2
  | succ d =>
    rw [hd, cnF] at h2
    refine ⟨by omega, by omega, ?_⟩
    unfold gW
    rw [wB_len, wB_at (by omega)]
    refine ⟨by omega, by omega, fun q => ?_⟩
    have q : bBy b f = 47 := q
    rw [if_pos q] at h2
    cases h2
/-- the names in a type or in a method type -/
def wsO (b : Nat → Nat) : Nat → Nat → Option Nat → Option (List Wd)
  | 0, _, none => some []
  | 0, _, some _ => none
  | d + 1, i, none => wsO b d (i + 1) (if nI (b i) = 76 then some (i + 1) else none)
  | d + 1, i, some o => if nI (b i) = 59 then (if cn (bBy b) o i = true then (wsO b d (i + 1) none).map (fun l => wB b o i :: l) else none) else wsO b d (i + 1) (some o)
theorem wsO_in {b : Nat → Nat} : ∀ (d i o : Nat), sc (bBy b) d i < i + d → cn (bBy b) o (sc (bBy b) d i) = true → wsO b d i (some o) = (wsO b (i + d - (sc (bBy b) d i + 1)) (sc (bBy b) d i + 1) none).map (fun l => wB b o (sc (bBy b) d i) :: l)
  | 0, i, o, h, _ => absurd h (by rw [sc]; omega)
  | d + 1, i, o, h, hc => by
    rw [wsO]
    rw [sc] at h hc ⊢
    by_cases q : bBy b i = 59
    · rw [if_pos q] at h hc ⊢
      rw [if_pos q, if_pos hc, show i + (d + 1) - (i + 1) = d by omega]
    · rw [if_neg q] at h hc ⊢
      rw [if_neg q, wsO_in d (i + 1) o (by omega) hc, show i + 1 + d = i + (d + 1) by omega]
theorem opt_nil {α : Type} (o : Option (List α)) : o = o.map (fun l => [] ++ l) := by cases o <;> rfl
theorem wsO_te {b : Nat → Nat} : ∀ {d i e : Nat}, te (bBy b) d i = some e → ∃ l : List Wd, (∀ w, w ∈ l → gW w) ∧ wsO b d i none = (wsO b (i + d - e) e none).map (fun r => l ++ r)
  | 0, i, e, h => by cases h
  | d + 1, i, e, h => by
    rw [te] at h
    split at h
    · rename_i q
      obtain ⟨l, h1, h2⟩ := wsO_te h
      refine ⟨l, h1, ?_⟩
      have q : nI (b i) = 91 := q
      rw [wsO, if_neg (by rw [q]; decide), h2, show i + 1 + d = i + (d + 1) by omega]
    · split at h
      · rename_i q
        cases h
        refine ⟨[], fun w hw => absurd hw List.not_mem_nil, ?_⟩
        have q76 : ¬ nI (b i) = 76 := fun z => by
          have z : bBy b i = 76 := z
          rw [z] at q
          exact absurd q (by decide)
        rw [wsO, if_neg q76, show i + (d + 1) - (i + 1) = d by omega]
        exact opt_nil _
      · split at h
        · rename_i q
          cases h
          obtain ⟨q1, q2, q3⟩ := q
          obtain ⟨g1, g2, g3⟩ := cn_gW q3
          refine ⟨[wB b (i + 1) (sc (bBy b) d (i + 1))], fun w hw => ?_, ?_⟩
          · rw [List.mem_singleton] at hw
            subst hw
            exact g3
          · rw [wsO, if_pos q1, wsO_in d (i + 1) (i + 1) q2 q3, show i + 1 + d = i + (d + 1) by omega]
            rfl
        · cases h
theorem opt_app {α : Type} {l l' : List α} (o : Option (List α)) : (o.map (fun r => l' ++ r)).map (fun r => l ++ r) = o.map (fun r => (l ++ l') ++ r) := by
  cases o with
  | none => rfl
  | some x =>
    show some (l ++ (l' ++ x)) = some ((l ++ l') ++ x)
    rw [List.append_assoc]
theorem wsO_mt {b : Nat → Nat} {t : Nat} : ∀ {g a e : Nat}, mtE (bBy b) t g a = some e → ∃ l : List Wd, (∀ w, w ∈ l → gW w) ∧ wsO b (t - a) a none = (wsO b (t - e) e none).map (fun r => l ++ r)
  | 0, a, e, h => by cases h
  | g + 1, a, e, h => by
    rw [mtE] at h
    split at h
    · cases h
    · split at h
      · cases h
        exact ⟨[], fun w hw => absurd hw List.not_mem_nil, opt_nil _⟩
      · cases ht : te (bBy b) (t - a) a with
        | none => rw [ht] at h; cases h
        | some a' =>
          rw [ht] at h
          obtain ⟨l, h1, h2⟩ := wsO_te ht
          obtain ⟨l', h3, h4⟩ := wsO_mt (g := g) h
          refine ⟨l ++ l', fun w hw => ?_, ?_⟩
          · rw [List.mem_append] at hw
            exact hw.elim (h1 w) (h3 w)
          · rw [h2, show a + (t - a) - a' = t - a' by omega, h4, opt_app]
def tw (b : Nat → Nat) (T : Nat → Ent) (x : Nat) : List Wd := (wsO b ((T x).s - (T x).f) (T x).f none).getD []
def tOK (b : Nat → Nat) (T : Nat → Ent) (x : Nat) : Prop := wsO b ((T x).s - (T x).f) (T x).f none = some (tw b T x) ∧ ∀ w, w ∈ tw b T x → gW w
theorem tOK_of {b : Nat → Nat} {T : Nat → Ent} {x : Nat} {l : List Wd} (h : wsO b ((T x).s - (T x).f) (T x).f none = some l) (hl : ∀ w, w ∈ l → gW w) : tOK b T x := by
  have e : tw b T x = l := by unfold tw; rw [h]; rfl
  unfold tOK
  rw [e]
  exact ⟨h, hl⟩
theorem tE_OK {b : Nat → Nat} {T : Nat → Ent} {x : Nat} (h : tE b (T x) = true) : tOK b T x := by
  have h := of_decide_eq_true h
  have bd := te_bd h
  obtain ⟨l, h1, h2⟩ := wsO_te h
  rw [show (T x).f + ((T x).s - (T x).f) - (T x).s = 0 by omega] at h2
  refine tOK_of (l := l ++ []) h2 (fun w hw => h1 w ?_)
  rw [List.append_nil] at hw
  exact hw
theorem mE_OK {b : Nat → Nat} {T : Nat → Ent} {x : Nat} (h : mE b (T x) = true) : tOK b T x := by
  unfold mE mtB at h
  rw [Bool.and_eq_true] at h
  obtain ⟨q1, q2⟩ := of_decide_eq_true h.1
  have q2 : nI (b (T x).f) = 40 := q2
  have h2 := h.2
  cases hm : mtE (bBy b) (T x).s ((T x).s - (T x).f) ((T x).f + 1) with
  | none => rw [hm] at h2; cases h2
  | some a =>
    rw [hm] at h2
    have h3 := of_decide_eq_true h2
    obtain ⟨b1, b2, b3⟩ := mtE_bd hm
    have b3 : nI (b a) = 41 := b3
    obtain ⟨l, l1, l2⟩ := wsO_mt hm
    have e1 : wsO b ((T x).s - (T x).f) (T x).f none = wsO b ((T x).s - ((T x).f + 1)) ((T x).f + 1) none := by
      rw [show (T x).s - (T x).f = ((T x).s - ((T x).f + 1)) + 1 by omega, wsO, if_neg (by rw [q2]; decide)]
    have e2 : wsO b ((T x).s - a) a none = wsO b ((T x).s - (a + 1)) (a + 1) none := by
      rw [show (T x).s - a = ((T x).s - (a + 1)) + 1 by omega, wsO, if_neg (by rw [b3]; decide)]
    rw [e2] at l2
    have e3 : ∃ l' : List Wd, (∀ w, w ∈ l' → gW w) ∧ wsO b ((T x).s - (a + 1)) (a + 1) none = some l' := by
      rcases h3 with ⟨g1, g2⟩ | g
      · have g1 : nI (b (a + 1)) = 86 := g1
        refine ⟨[], fun w hw => absurd hw List.not_mem_nil, ?_⟩
        rw [show (T x).s - (a + 1) = 0 + 1 by omega, wsO, if_neg (by rw [g1]; decide)]
        rfl
      · obtain ⟨l', w1, w2⟩ := wsO_te g
        have bd := te_bd g
        rw [show a + 1 + ((T x).s - (a + 1)) - (T x).s = 0 by omega] at w2
        refine ⟨l' ++ [], fun w hw => w1 w ?_, w2⟩
        rw [List.append_nil] at hw
        exact hw
    obtain ⟨l', w1, w2⟩ := e3
    rw [w2] at l2
    refine tOK_of (l := l ++ l') (e1.trans l2) (fun w hw => ?_)
    rw [List.mem_append] at hw
    exact hw.elim (l1 w) (w1 w)
/-- a table of names, and whether it overflowed -/
abbrev Tb := List Wd × Bool
def mt (S : Tb) (w : Wd) : Tb := if w ∈ S.1 then S else if S.1.length = 48 then (S.1, true) else (S.1 ++ [w], S.2)
def mts (S : Tb) (ws : List Wd) : Tb := ws.foldl mt S
theorem mts_nil (S : Tb) : mts S [] = S := rfl
theorem mts_cons (S : Tb) (w : Wd) (ws : List Wd) : mts S (w :: ws) = mts (mt S w) ws := rfl
theorem mts_app (S : Tb) (ws vs : List Wd) : mts S (ws ++ vs) = mts (mts S ws) vs := List.foldl_append
/-- what a meeting answers -/
def rv (S : Tb) (w : Wd) : Int32 := if w ∈ S.1 then nI (S.1.idxOf w) else -1
theorem mt_pre (S : Tb) (w : Wd) : S.1 <+: (mt S w).1 := by
  unfold mt
  split
  · exact List.prefix_refl _
  · split
    · exact List.prefix_refl _
    · exact List.prefix_append _ _
theorem mts_pre : ∀ (ws : List Wd) (S : Tb), S.1 <+: (mts S ws).1
  | [], S => List.prefix_refl _
  | w :: ws, S => (mt_pre S w).trans (mts_pre ws (mt S w))
theorem mt_ov {S : Tb} {w : Wd} (h : (mt S w).2 = false) : S.2 = false ∧ w ∈ (mt S w).1 := by
  unfold mt at h ⊢
  split
  · rename_i q
    rw [if_pos q] at h
    exact ⟨h, q⟩
  · rename_i q
    rw [if_neg q] at h
    split
    · rename_i q2
      rw [if_pos q2] at h
      cases h
    · rename_i q2
      rw [if_neg q2] at h
      exact ⟨h, List.mem_append_right _ (List.mem_singleton.mpr rfl)⟩
theorem mts_ov : ∀ {ws : List Wd} {S : Tb}, (mts S ws).2 = false → S.2 = false ∧ ∀ w, w ∈ ws → w ∈ (mts S ws).1
  | [], S, h => ⟨h, fun w hw => absurd hw List.not_mem_nil⟩
  | v :: ws, S, h => by
    obtain ⟨h1, h2⟩ := mts_ov (ws := ws) (S := mt S v) h
    obtain ⟨h3, h4⟩ := mt_ov h1
    refine ⟨h3, fun w hw => ?_⟩
    rcases List.mem_cons.mp hw with rfl | hw
    · exact (mts_pre ws _).subset h4
    · exact h2 w hw
theorem mt_48 {S : Tb} {w : Wd} (h : S.1.length ≤ 48) : (mt S w).1.length ≤ 48 := by
  unfold mt
  split
  · exact h
  · split
    · exact h
    · rw [List.length_append]
      show S.1.length + 1 ≤ 48
      omega
theorem mts_48 : ∀ {ws : List Wd} {S : Tb}, S.1.length ≤ 48 → (mts S ws).1.length ≤ 48
  | [], S, h => h
  | w :: ws, S, h => mts_48 (ws := ws) (mt_48 h)
theorem mts_same : ∀ {ws : List Wd} {S : Tb}, (∀ w, w ∈ ws → w ∈ S.1) → mts S ws = S
  | [], S, h => rfl
  | w :: ws, S, h => by
    have e : mt S w = S := by unfold mt; rw [if_pos (h w List.mem_cons_self)]
    rw [mts_cons, e]
    exact mts_same (fun v hv => h v (List.mem_cons_of_mem _ hv))
theorem mts_true : ∀ {ws : List Wd} {S : Tb}, S.2 = true → (mts S ws).2 = true
  | [], S, h => h
  | w :: ws, S, h => by
    refine mts_true (ws := ws) ?_
    unfold mt
    split
    · exact h
    · split
      · rfl
      · exact h
theorem idx_pre {L L' : List Wd} {w : Wd} (h : L <+: L') (hw : w ∈ L) : L'.idxOf w = L.idxOf w := by
  obtain ⟨r, rfl⟩ := h
  rw [List.idxOf_append, if_pos hw]
/-- the set of the words that were met -/
def US (S : Tb) (W : List Wd) (u : Int64) : Prop := S.2 = false → (∀ w, w ∈ W → w ∈ S.1) ∧ ∀ n, hasB u n = true ↔ ∃ w, w ∈ W ∧ S.1.idxOf w = n
theorem US.nil (S : Tb) : US S [] 0 := fun _ => ⟨fun w hw => absurd hw List.not_mem_nil, fun n => ⟨fun h => (by rw [hasB_0] at h; cases h), fun ⟨w, hw, _⟩ => absurd hw List.not_mem_nil⟩⟩
theorem US.mono {S S' : Tb} {W : List Wd} {u : Int64} (h : US S W u) (h1 : S'.2 = false → S.2 = false) (h2 : S.1 <+: S'.1) : US S' W u := by
  intro ho
  obtain ⟨g1, g2⟩ := h (h1 ho)
  refine ⟨fun w hw => h2.subset (g1 w hw), fun n => ?_⟩
  rw [g2 n]
  constructor
  · rintro ⟨w, hw, e⟩
    exact ⟨w, hw, by rw [idx_pre h2 (g1 w hw)]; exact e⟩
  · rintro ⟨w, hw, e⟩
    exact ⟨w, hw, by rw [← idx_pre h2 (g1 w hw)]; exact e⟩
theorem US.mts {S : Tb} {W : List Wd} {u : Int64} (h : US S W u) (ws : List Wd) : US (mts S ws) W u := h.mono (fun q => (mts_ov q).1) (mts_pre ws S)
theorem US.mt {S : Tb} {W : List Wd} {u : Int64} (h : US S W u) (w : Wd) : US (mt S w) W u := h.mono (fun q => (mt_ov q).1) (mt_pre S w)
theorem US.or {S : Tb} {W V : List Wd} {u v : Int64} (h : US S W u) (h' : US S V v) : US S (W ++ V) (u ||| v) := by
  intro ho
  obtain ⟨g1, g2⟩ := h ho
  obtain ⟨g3, g4⟩ := h' ho
  refine ⟨fun w hw => (List.mem_append.mp hw).elim (g1 w) (g3 w), fun n => ?_⟩
  rw [hasB_or, Bool.or_eq_true, g2 n, g4 n]
  constructor
  · rintro (⟨w, hw, e⟩ | ⟨w, hw, e⟩)
    · exact ⟨w, List.mem_append_left _ hw, e⟩
    · exact ⟨w, List.mem_append_right _ hw, e⟩
  · rintro ⟨w, hw, e⟩
    rcases List.mem_append.mp hw with hw | hw
    · exact Or.inl ⟨w, hw, e⟩
    · exact Or.inr ⟨w, hw, e⟩
theorem US.one {S : Tb} {w : Wd} (h48 : S.1.length ≤ 48) (hw : w ∈ S.1) : US S [w] (one (S.1.idxOf w)) := by
  intro _
  have hi : S.1.idxOf w < S.1.length := List.idxOf_lt_length_iff.mpr hw
  refine ⟨fun v hv => by rw [List.mem_singleton] at hv; rw [hv]; exact hw, fun n => ?_⟩
  rw [hasB_one (by omega)]
  constructor
  · intro q
    exact ⟨w, List.mem_singleton.mpr rfl, (of_decide_eq_true q).symm⟩
  · rintro ⟨v, hv, e⟩
    rw [List.mem_singleton] at hv
    subst hv
    exact decide_eq_true e.symm
theorem US.uniq {S : Tb} {W V : List Wd} {u v : Int64} (h : US S W u) (h' : US S V v) (ho : S.2 = false) (e : ∀ w, w ∈ W ↔ w ∈ V) : u = v := by
  obtain ⟨-, g2⟩ := h ho
  obtain ⟨-, g4⟩ := h' ho
  refine hasB_ext (fun n _ => bool_iff ?_)
  rw [g2 n, g4 n]
  exact ⟨fun ⟨w, hw, q⟩ => ⟨w, (e w).mp hw, q⟩, fun ⟨w, hw, q⟩ => ⟨w, (e w).mpr hw, q⟩⟩
