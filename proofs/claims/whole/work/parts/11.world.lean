def xSH : List (Nat × Nat) := [(3, 0), (3, 1), (3, 2), (0, 400), (3, 3), (0, 64), (0, 64), (0, 64), (0, 64), (0, 64), (0, 50), (0, 50), (3, 4), (0, 768), (0, 48), (0, 48), (0, 48), (3, 5), (2, 16), (0, 48), (1, 16), (1, 16), (0, 16), (3, 6), (3, 6), (3, 6), (3, 6), (3, 6), (3, 6), (3, 6), (3, 6), (3, 6), (3, 6), (3, 6), (3, 6), (3, 6), (3, 6), (3, 6), (3, 6), (3, 7), (1, 5), (1, 5), (1, 5), (0, 5), (0, 5), (3, 8), (0, 400), (0, 65), (0, 65), (0, 65), (0, 65), (0, 65), (0, 200), (0, 64), (0, 64), (0, 768), (0, 48), (0, 16), (0, 16), (0, 16), (0, 16), (0, 16), (0, 16), (0, 16), (1, 16), (1, 16), (1, 48), (0, 48)]
/-- where the fields that are references point to -/
def xrf (a : Nat) : Nat := bif Nat.ble 2498 a then (bif Nat.ble 2900 a then (bif Nat.ble 2909 a then (bif Nat.ble 2912 a then (bif Nat.ble 2914 a then (bif Nat.ble 2915 a then (bif Nat.beq a 2915 then 68 else 0) else (bif Nat.beq a 2914 then 67 else 0)) else (bif Nat.ble 2913 a then (bif Nat.beq a 2913 then 66 else 0) else (bif Nat.beq a 2912 then 65 else 0))) else (bif Nat.ble 2910 a then (bif Nat.ble 2911 a then (bif Nat.beq a 2911 then 64 else 0) else (bif Nat.beq a 2910 then 63 else 0)) else (bif Nat.beq a 2909 then 62 else 0))) else (bif Nat.ble 2906 a then (bif Nat.ble 2907 a then (bif Nat.ble 2908 a then (bif Nat.beq a 2908 then 61 else 0) else (bif Nat.beq a 2907 then 60 else 0)) else (bif Nat.beq a 2906 then 59 else 0)) else (bif Nat.ble 2901 a then (bif Nat.ble 2905 a then (bif Nat.beq a 2905 then 58 else 0) else (bif Nat.beq a 2901 then 57 else 0)) else (bif Nat.beq a 2900 then 56 else 0)))) else (bif Nat.ble 2887 a then (bif Nat.ble 2894 a then (bif Nat.ble 2897 a then (bif Nat.ble 2898 a then (bif Nat.beq a 2898 then 55 else 0) else (bif Nat.beq a 2897 then 54 else 0)) else (bif Nat.beq a 2894 then 53 else 0)) else (bif Nat.ble 2888 a then (bif Nat.ble 2889 a then (bif Nat.beq a 2889 then 52 else 0) else (bif Nat.beq a 2888 then 51 else 0)) else (bif Nat.beq a 2887 then 50 else 0))) else (bif Nat.ble 2880 a then (bif Nat.ble 2885 a then (bif Nat.ble 2886 a then (bif Nat.beq a 2886 then 49 else 0) else (bif Nat.beq a 2885 then 48 else 0)) else (bif Nat.beq a 2880 then 47 else 0)) else (bif Nat.ble 2499 a then (bif Nat.ble 2500 a then (bif Nat.beq a 2500 then 45 else 0) else (bif Nat.beq a 2499 then 44 else 0)) else (bif Nat.beq a 2498 then 43 else 0))))) else (bif Nat.ble 259 a then (bif Nat.ble 1088 a then (bif Nat.ble 1092 a then (bif Nat.ble 2496 a then (bif Nat.ble 2497 a then (bif Nat.beq a 2497 then 42 else 0) else (bif Nat.beq a 2496 then 41 else 0)) else (bif Nat.ble 1093 a then (bif Nat.beq a 1093 then 23 else 0) else (bif Nat.beq a 1092 then 22 else 0))) else (bif Nat.ble 1090 a then (bif Nat.ble 1091 a then (bif Nat.beq a 1091 then 21 else 0) else (bif Nat.beq a 1090 then 20 else 0)) else (bif Nat.beq a 1088 then 19 else 0))) else (bif Nat.ble 769 a then (bif Nat.ble 770 a then (bif Nat.ble 771 a then (bif Nat.beq a 771 then 17 else 0) else (bif Nat.beq a 770 then 16 else 0)) else (bif Nat.beq a 769 then 15 else 0)) else (bif Nat.ble 260 a then (bif Nat.ble 768 a then (bif Nat.beq a 768 then 14 else 0) else (bif Nat.beq a 260 then 10 else 0)) else (bif Nat.beq a 259 then 9 else 0)))) else (bif Nat.ble 75 a then (bif Nat.ble 256 a then (bif Nat.ble 257 a then (bif Nat.ble 258 a then (bif Nat.beq a 258 then 8 else 0) else (bif Nat.beq a 257 then 7 else 0)) else (bif Nat.beq a 256 then 6 else 0)) else (bif Nat.ble 76 a then (bif Nat.ble 128 a then (bif Nat.beq a 128 then 4 else 0) else (bif Nat.beq a 76 then 12 else 0)) else (bif Nat.beq a 75 then 11 else 0))) else (bif Nat.ble 3 a then (bif Nat.ble 64 a then (bif Nat.ble 67 a then (bif Nat.beq a 67 then 5 else 0) else (bif Nat.beq a 64 then 3 else 0)) else (bif Nat.beq a 3 then 40 else 0)) else (bif Nat.ble 1 a then (bif Nat.ble 2 a then (bif Nat.beq a 2 then 18 else 0) else (bif Nat.beq a 1 then 13 else 0)) else (bif Nat.beq a 0 then 2 else 0)))))
def xmr (Q : Nat → Nat) : Nat → Nat → Nat := fun k j => bif Nat.beq k 18 then Q j else xrf (k * 64 + j)
def xm_el (a : Nat) : List Nat → Bool
  | [] => false
  | b :: l => Nat.beq a b || xm_el a l
def xm_cnd (b : Bool) (p q : Prop) : Prop := match b with
  | true => p
  | false => q
/-- a tree of steps, up to the stops -/
def xm_tr (Z : xm_Z) (ic : xm_C) (P : xm_R → Prop) (ih : xm_S → Prop) (t : Nat → Option xm_E) (st : List Nat) : Nat → xm_S → Prop
  | 0, s => ih s
  | n + 1, s => match xm_step Z t s with
    | .inl s => xm_cnd (xm_el s.1 st) (ih s) (xm_tr Z ic P ih t st n s)
    | .inr (.inl (c, s)) => c ∧ xm_cnd (xm_el s.1 st) (ih s) (xm_tr Z ic P ih t st n s)
    | .inr (.inr (.inl (c, s, s'))) => (c → xm_cnd (xm_el s.1 st) (ih s) (xm_tr Z ic P ih t st n s)) ∧ (¬ c → xm_cnd (xm_el s'.1 st) (ih s') (xm_tr Z ic P ih t st n s'))
    | .inr (.inr (.inr (.inl (c, x, f)))) => c ∧ ∃ k, x = k + 1 ∧ xm_cnd (xm_el (f k).1 st) (ih (f k)) (xm_tr Z ic P ih t st n (f k))
    | .inr (.inr (.inr (.inr (.inr (.inr (.inr (.inl (l, d)))))))) => xm_all (fun s => xm_cnd (xm_el s.1 st) (ih s) (xm_tr Z ic P ih t st n s)) d l
    | o => xm_F ic P ih o
theorem xm_tre {Z : xm_Z} {ic : xm_C} {P : xm_R → Prop} {t : Nat → Option xm_E} (st : List Nat) : ∀ (n : Nat) {s : xm_S}, xm_tr Z ic P (xm_W Z ic P t) t st n s → xm_W Z ic P t s := by
  intro n
  induction n with
  | zero => intro s h; exact h
  | succ n ih =>
    intro s h
    have one : ∀ s, xm_cnd (xm_el s.1 st) (xm_W Z ic P t s) (xm_tr Z ic P (xm_W Z ic P t) t st n s) → xm_W Z ic P t s := by
      intro s h
      cases hb : xm_el s.1 st with
      | true => rw [hb] at h; exact h
      | false => rw [hb] at h; exact ih h
    refine xm_fold ?_
    unfold xm_tr at h
    generalize xm_step Z t s = o at h ⊢
    rcases o with s | ⟨c, s⟩ | ⟨c, s, s'⟩ | ⟨c, x, f⟩ | ⟨m, av, M, f⟩ | r | ⟨c, r⟩ | ⟨l, d⟩ | u
    · exact one _ h
    · exact ⟨h.1, one _ h.2⟩
    · exact ⟨fun z => one _ (h.1 z), fun z => one _ (h.2 z)⟩
    · obtain ⟨q0, k, q1, q2⟩ := h
      exact ⟨q0, k, q1, one _ q2⟩
    · exact h
    · exact h
    · exact h
    · exact xm_all_mono one h
    · exact h
abbrev xq0 (P : xm_R → Prop) (s : xm_S) : Prop := xm_W xz (xm_Ev xz) P xt0 s
abbrev xq1 (P : xm_R → Prop) (s : xm_S) : Prop := xm_W xz (xm_Ev xz) P xt1 s
abbrev xq2 (P : xm_R → Prop) (s : xm_S) : Prop := xm_W xz (xm_Ev xz) P xt2 s
abbrev xq3 (P : xm_R → Prop) (s : xm_S) : Prop := xm_W xz (xm_Ev xz) P xt3 s
abbrev xq4 (P : xm_R → Prop) (s : xm_S) : Prop := xm_W xz (xm_Ev xz) P xt4 s
abbrev xq5 (P : xm_R → Prop) (s : xm_S) : Prop := xm_W xz (xm_Ev xz) P xt5 s
abbrev xq6 (P : xm_R → Prop) (s : xm_S) : Prop := xm_W xz (xm_Ev xz) P xt6 s
abbrev xq7 (P : xm_R → Prop) (s : xm_S) : Prop := xm_W xz (xm_Ev xz) P xt7 s
abbrev xq8 (P : xm_R → Prop) (s : xm_S) : Prop := xm_W xz (xm_Ev xz) P xt8 s
abbrev xq9 (P : xm_R → Prop) (s : xm_S) : Prop := xm_W xz (xm_Ev xz) P xt9 s
abbrev xq10 (P : xm_R → Prop) (s : xm_S) : Prop := xm_W xz (xm_Ev xz) P xt10 s
abbrev xq11 (P : xm_R → Prop) (s : xm_S) : Prop := xm_W xz (xm_Ev xz) P xt11 s
abbrev xq12 (P : xm_R → Prop) (s : xm_S) : Prop := xm_W xz (xm_Ev xz) P xt12 s
abbrev xq13 (P : xm_R → Prop) (s : xm_S) : Prop := xm_W xz (xm_Ev xz) P xt13 s
abbrev xq14 (P : xm_R → Prop) (s : xm_S) : Prop := xm_W xz (xm_Ev xz) P xt14 s
abbrev xq15 (P : xm_R → Prop) (s : xm_S) : Prop := xm_W xz (xm_Ev xz) P xt15 s
abbrev xq16 (P : xm_R → Prop) (s : xm_S) : Prop := xm_W xz (xm_Ev xz) P xt16 s
abbrev xq17 (P : xm_R → Prop) (s : xm_S) : Prop := xm_W xz (xm_Ev xz) P xt17 s
abbrev xq18 (P : xm_R → Prop) (s : xm_S) : Prop := xm_W xz (xm_Ev xz) P xt18 s
abbrev xq19 (P : xm_R → Prop) (s : xm_S) : Prop := xm_W xz (xm_Ev xz) P xt19 s
abbrev xq20 (P : xm_R → Prop) (s : xm_S) : Prop := xm_W xz (xm_Ev xz) P xt20 s
abbrev xq21 (P : xm_R → Prop) (s : xm_S) : Prop := xm_W xz (xm_Ev xz) P xt21 s
abbrev xq22 (P : xm_R → Prop) (s : xm_S) : Prop := xm_W xz (xm_Ev xz) P xt22 s
abbrev xq23 (P : xm_R → Prop) (s : xm_S) : Prop := xm_W xz (xm_Ev xz) P xt23 s
abbrev xq24 (P : xm_R → Prop) (s : xm_S) : Prop := xm_W xz (xm_Ev xz) P xt24 s
abbrev xq25 (P : xm_R → Prop) (s : xm_S) : Prop := xm_W xz (xm_Ev xz) P xt25 s
abbrev xq26 (P : xm_R → Prop) (s : xm_S) : Prop := xm_W xz (xm_Ev xz) P xt26 s
abbrev xq27 (P : xm_R → Prop) (s : xm_S) : Prop := xm_W xz (xm_Ev xz) P xt27 s
abbrev xq28 (P : xm_R → Prop) (s : xm_S) : Prop := xm_W xz (xm_Ev xz) P xt28 s
abbrev xq29 (P : xm_R → Prop) (s : xm_S) : Prop := xm_W xz (xm_Ev xz) P xt29 s
abbrev xq30 (P : xm_R → Prop) (s : xm_S) : Prop := xm_W xz (xm_Ev xz) P xt30 s
abbrev xq31 (P : xm_R → Prop) (s : xm_S) : Prop := xm_W xz (xm_Ev xz) P xt31 s
abbrev xq32 (P : xm_R → Prop) (s : xm_S) : Prop := xm_W xz (xm_Ev xz) P xt32 s
abbrev xq33 (P : xm_R → Prop) (s : xm_S) : Prop := xm_W xz (xm_Ev xz) P xt33 s
abbrev xq34 (P : xm_R → Prop) (s : xm_S) : Prop := xm_W xz (xm_Ev xz) P xt34 s
abbrev xq35 (P : xm_R → Prop) (s : xm_S) : Prop := xm_W xz (xm_Ev xz) P xt35 s
abbrev xq36 (P : xm_R → Prop) (s : xm_S) : Prop := xm_W xz (xm_Ev xz) P xt36 s
abbrev xq37 (P : xm_R → Prop) (s : xm_S) : Prop := xm_W xz (xm_Ev xz) P xt37 s
abbrev xq38 (P : xm_R → Prop) (s : xm_S) : Prop := xm_W xz (xm_Ev xz) P xt38 s
abbrev xq39 (P : xm_R → Prop) (s : xm_S) : Prop := xm_W xz (xm_Ev xz) P xt39 s
abbrev xq40 (P : xm_R → Prop) (s : xm_S) : Prop := xm_W xz (xm_Ev xz) P xt40 s
abbrev xq41 (P : xm_R → Prop) (s : xm_S) : Prop := xm_W xz (xm_Ev xz) P xt41 s
abbrev xq42 (P : xm_R → Prop) (s : xm_S) : Prop := xm_W xz (xm_Ev xz) P xt42 s
abbrev xq43 (P : xm_R → Prop) (s : xm_S) : Prop := xm_W xz (xm_Ev xz) P xt43 s
abbrev xq44 (P : xm_R → Prop) (s : xm_S) : Prop := xm_W xz (xm_Ev xz) P xt44 s
abbrev xq45 (P : xm_R → Prop) (s : xm_S) : Prop := xm_W xz (xm_Ev xz) P xt45 s
abbrev xq46 (P : xm_R → Prop) (s : xm_S) : Prop := xm_W xz (xm_Ev xz) P xt46 s
abbrev xq47 (P : xm_R → Prop) (s : xm_S) : Prop := xm_W xz (xm_Ev xz) P xt47 s
abbrev xq48 (P : xm_R → Prop) (s : xm_S) : Prop := xm_W xz (xm_Ev xz) P xt48 s
abbrev xq49 (P : xm_R → Prop) (s : xm_S) : Prop := xm_W xz (xm_Ev xz) P xt49 s
abbrev xq50 (P : xm_R → Prop) (s : xm_S) : Prop := xm_W xz (xm_Ev xz) P xt50 s
abbrev xq51 (P : xm_R → Prop) (s : xm_S) : Prop := xm_W xz (xm_Ev xz) P xt51 s
abbrev xq52 (P : xm_R → Prop) (s : xm_S) : Prop := xm_W xz (xm_Ev xz) P xt52 s
abbrev xq53 (P : xm_R → Prop) (s : xm_S) : Prop := xm_W xz (xm_Ev xz) P xt53 s
abbrev xq54 (P : xm_R → Prop) (s : xm_S) : Prop := xm_W xz (xm_Ev xz) P xt54 s
abbrev xq55 (P : xm_R → Prop) (s : xm_S) : Prop := xm_W xz (xm_Ev xz) P xt55 s
abbrev xq56 (P : xm_R → Prop) (s : xm_S) : Prop := xm_W xz (xm_Ev xz) P xt56 s
abbrev xq57 (P : xm_R → Prop) (s : xm_S) : Prop := xm_W xz (xm_Ev xz) P xt57 s
abbrev xq58 (P : xm_R → Prop) (s : xm_S) : Prop := xm_W xz (xm_Ev xz) P xt58 s
abbrev xq59 (P : xm_R → Prop) (s : xm_S) : Prop := xm_W xz (xm_Ev xz) P xt59 s
abbrev xq60 (P : xm_R → Prop) (s : xm_S) : Prop := xm_W xz (xm_Ev xz) P xt60 s
abbrev xq61 (P : xm_R → Prop) (s : xm_S) : Prop := xm_W xz (xm_Ev xz) P xt61 s
abbrev xq62 (P : xm_R → Prop) (s : xm_S) : Prop := xm_W xz (xm_Ev xz) P xt62 s
abbrev xq63 (P : xm_R → Prop) (s : xm_S) : Prop := xm_W xz (xm_Ev xz) P xt63 s
abbrev xq64 (P : xm_R → Prop) (s : xm_S) : Prop := xm_W xz (xm_Ev xz) P xt64 s
abbrev xq65 (P : xm_R → Prop) (s : xm_S) : Prop := xm_W xz (xm_Ev xz) P xt65 s
abbrev xq66 (P : xm_R → Prop) (s : xm_S) : Prop := xm_W xz (xm_Ev xz) P xt66 s
abbrev xq67 (P : xm_R → Prop) (s : xm_S) : Prop := xm_W xz (xm_Ev xz) P xt67 s
abbrev xq68 (P : xm_R → Prop) (s : xm_S) : Prop := xm_W xz (xm_Ev xz) P xt68 s
abbrev xq69 (P : xm_R → Prop) (s : xm_S) : Prop := xm_W xz (xm_Ev xz) P xt69 s
abbrev xq70 (P : xm_R → Prop) (s : xm_S) : Prop := xm_W xz (xm_Ev xz) P xt70 s
abbrev xq71 (P : xm_R → Prop) (s : xm_S) : Prop := xm_W xz (xm_Ev xz) P xt71 s
abbrev xq72 (P : xm_R → Prop) (s : xm_S) : Prop := xm_W xz (xm_Ev xz) P xt72 s
abbrev xq73 (P : xm_R → Prop) (s : xm_S) : Prop := xm_W xz (xm_Ev xz) P xt73 s
abbrev xq74 (P : xm_R → Prop) (s : xm_S) : Prop := xm_W xz (xm_Ev xz) P xt74 s
abbrev xq75 (P : xm_R → Prop) (s : xm_S) : Prop := xm_W xz (xm_Ev xz) P xt75 s
abbrev xq76 (P : xm_R → Prop) (s : xm_S) : Prop := xm_W xz (xm_Ev xz) P xt76 s
abbrev xq77 (P : xm_R → Prop) (s : xm_S) : Prop := xm_W xz (xm_Ev xz) P xt77 s
abbrev xq78 (P : xm_R → Prop) (s : xm_S) : Prop := xm_W xz (xm_Ev xz) P xt78 s
abbrev xq79 (P : xm_R → Prop) (s : xm_S) : Prop := xm_W xz (xm_Ev xz) P xt79 s
abbrev xq80 (P : xm_R → Prop) (s : xm_S) : Prop := xm_W xz (xm_Ev xz) P xt80 s
abbrev xq81 (P : xm_R → Prop) (s : xm_S) : Prop := xm_W xz (xm_Ev xz) P xt81 s
abbrev xq82 (P : xm_R → Prop) (s : xm_S) : Prop := xm_W xz (xm_Ev xz) P xt82 s
abbrev xq83 (P : xm_R → Prop) (s : xm_S) : Prop := xm_W xz (xm_Ev xz) P xt83 s
abbrev xq84 (P : xm_R → Prop) (s : xm_S) : Prop := xm_W xz (xm_Ev xz) P xt84 s
abbrev xq85 (P : xm_R → Prop) (s : xm_S) : Prop := xm_W xz (xm_Ev xz) P xt85 s
abbrev xq86 (P : xm_R → Prop) (s : xm_S) : Prop := xm_W xz (xm_Ev xz) P xt86 s
abbrev xq87 (P : xm_R → Prop) (s : xm_S) : Prop := xm_W xz (xm_Ev xz) P xt87 s
abbrev xq88 (P : xm_R → Prop) (s : xm_S) : Prop := xm_W xz (xm_Ev xz) P xt88 s
abbrev xq89 (P : xm_R → Prop) (s : xm_S) : Prop := xm_W xz (xm_Ev xz) P xt89 s
abbrev xq90 (P : xm_R → Prop) (s : xm_S) : Prop := xm_W xz (xm_Ev xz) P xt90 s
abbrev xq91 (P : xm_R → Prop) (s : xm_S) : Prop := xm_W xz (xm_Ev xz) P xt91 s
abbrev xq92 (P : xm_R → Prop) (s : xm_S) : Prop := xm_W xz (xm_Ev xz) P xt92 s
abbrev xq93 (P : xm_R → Prop) (s : xm_S) : Prop := xm_W xz (xm_Ev xz) P xt93 s
abbrev xq94 (P : xm_R → Prop) (s : xm_S) : Prop := xm_W xz (xm_Ev xz) P xt94 s
abbrev xq95 (P : xm_R → Prop) (s : xm_S) : Prop := xm_W xz (xm_Ev xz) P xt95 s
abbrev xq96 (P : xm_R → Prop) (s : xm_S) : Prop := xm_W xz (xm_Ev xz) P xt96 s
abbrev xq97 (P : xm_R → Prop) (s : xm_S) : Prop := xm_W xz (xm_Ev xz) P xt97 s
abbrev xq98 (P : xm_R → Prop) (s : xm_S) : Prop := xm_W xz (xm_Ev xz) P xt98 s
abbrev xq99 (P : xm_R → Prop) (s : xm_S) : Prop := xm_W xz (xm_Ev xz) P xt99 s
abbrev xq100 (P : xm_R → Prop) (s : xm_S) : Prop := xm_W xz (xm_Ev xz) P xt100 s
abbrev xq101 (P : xm_R → Prop) (s : xm_S) : Prop := xm_W xz (xm_Ev xz) P xt101 s
abbrev xq102 (P : xm_R → Prop) (s : xm_S) : Prop := xm_W xz (xm_Ev xz) P xt102 s
abbrev xq103 (P : xm_R → Prop) (s : xm_S) : Prop := xm_W xz (xm_Ev xz) P xt103 s
abbrev xq104 (P : xm_R → Prop) (s : xm_S) : Prop := xm_W xz (xm_Ev xz) P xt104 s
abbrev xq105 (P : xm_R → Prop) (s : xm_S) : Prop := xm_W xz (xm_Ev xz) P xt105 s
abbrev xq106 (P : xm_R → Prop) (s : xm_S) : Prop := xm_W xz (xm_Ev xz) P xt106 s
abbrev xq107 (P : xm_R → Prop) (s : xm_S) : Prop := xm_W xz (xm_Ev xz) P xt107 s
abbrev xq108 (P : xm_R → Prop) (s : xm_S) : Prop := xm_W xz (xm_Ev xz) P xt108 s
abbrev xq109 (P : xm_R → Prop) (s : xm_S) : Prop := xm_W xz (xm_Ev xz) P xt109 s
abbrev xq110 (P : xm_R → Prop) (s : xm_S) : Prop := xm_W xz (xm_Ev xz) P xt110 s
abbrev xq111 (P : xm_R → Prop) (s : xm_S) : Prop := xm_W xz (xm_Ev xz) P xt111 s
abbrev xq112 (P : xm_R → Prop) (s : xm_S) : Prop := xm_W xz (xm_Ev xz) P xt112 s
abbrev xq113 (P : xm_R → Prop) (s : xm_S) : Prop := xm_W xz (xm_Ev xz) P xt113 s
abbrev xq114 (P : xm_R → Prop) (s : xm_S) : Prop := xm_W xz (xm_Ev xz) P xt114 s
abbrev xq115 (P : xm_R → Prop) (s : xm_S) : Prop := xm_W xz (xm_Ev xz) P xt115 s
abbrev xq116 (P : xm_R → Prop) (s : xm_S) : Prop := xm_W xz (xm_Ev xz) P xt116 s
abbrev xq117 (P : xm_R → Prop) (s : xm_S) : Prop := xm_W xz (xm_Ev xz) P xt117 s
abbrev xq118 (P : xm_R → Prop) (s : xm_S) : Prop := xm_W xz (xm_Ev xz) P xt118 s
abbrev xq119 (P : xm_R → Prop) (s : xm_S) : Prop := xm_W xz (xm_Ev xz) P xt119 s
abbrev xq120 (P : xm_R → Prop) (s : xm_S) : Prop := xm_W xz (xm_Ev xz) P xt120 s
abbrev xq121 (P : xm_R → Prop) (s : xm_S) : Prop := xm_W xz (xm_Ev xz) P xt121 s
abbrev xq122 (P : xm_R → Prop) (s : xm_S) : Prop := xm_W xz (xm_Ev xz) P xt122 s
abbrev xq123 (P : xm_R → Prop) (s : xm_S) : Prop := xm_W xz (xm_Ev xz) P xt123 s
abbrev xq124 (P : xm_R → Prop) (s : xm_S) : Prop := xm_W xz (xm_Ev xz) P xt124 s
abbrev xq125 (P : xm_R → Prop) (s : xm_S) : Prop := xm_W xz (xm_Ev xz) P xt125 s
abbrev xq126 (P : xm_R → Prop) (s : xm_S) : Prop := xm_W xz (xm_Ev xz) P xt126 s
abbrev xq127 (P : xm_R → Prop) (s : xm_S) : Prop := xm_W xz (xm_Ev xz) P xt127 s
abbrev xq128 (P : xm_R → Prop) (s : xm_S) : Prop := xm_W xz (xm_Ev xz) P xt128 s
abbrev xq129 (P : xm_R → Prop) (s : xm_S) : Prop := xm_W xz (xm_Ev xz) P xt129 s
abbrev xq130 (P : xm_R → Prop) (s : xm_S) : Prop := xm_W xz (xm_Ev xz) P xt130 s
abbrev xq131 (P : xm_R → Prop) (s : xm_S) : Prop := xm_W xz (xm_Ev xz) P xt131 s
abbrev xq132 (P : xm_R → Prop) (s : xm_S) : Prop := xm_W xz (xm_Ev xz) P xt132 s
abbrev xq133 (P : xm_R → Prop) (s : xm_S) : Prop := xm_W xz (xm_Ev xz) P xt133 s
abbrev xq134 (P : xm_R → Prop) (s : xm_S) : Prop := xm_W xz (xm_Ev xz) P xt134 s
abbrev xq135 (P : xm_R → Prop) (s : xm_S) : Prop := xm_W xz (xm_Ev xz) P xt135 s
abbrev xq136 (P : xm_R → Prop) (s : xm_S) : Prop := xm_W xz (xm_Ev xz) P xt136 s
abbrev xq137 (P : xm_R → Prop) (s : xm_S) : Prop := xm_W xz (xm_Ev xz) P xt137 s
abbrev xq138 (P : xm_R → Prop) (s : xm_S) : Prop := xm_W xz (xm_Ev xz) P xt138 s
abbrev xq139 (P : xm_R → Prop) (s : xm_S) : Prop := xm_W xz (xm_Ev xz) P xt139 s
abbrev xq140 (P : xm_R → Prop) (s : xm_S) : Prop := xm_W xz (xm_Ev xz) P xt140 s
abbrev xq141 (P : xm_R → Prop) (s : xm_S) : Prop := xm_W xz (xm_Ev xz) P xt141 s
abbrev xq142 (P : xm_R → Prop) (s : xm_S) : Prop := xm_W xz (xm_Ev xz) P xt142 s
abbrev xq143 (P : xm_R → Prop) (s : xm_S) : Prop := xm_W xz (xm_Ev xz) P xt143 s
abbrev xq144 (P : xm_R → Prop) (s : xm_S) : Prop := xm_W xz (xm_Ev xz) P xt144 s
abbrev xq145 (P : xm_R → Prop) (s : xm_S) : Prop := xm_W xz (xm_Ev xz) P xt145 s
abbrev xq146 (P : xm_R → Prop) (s : xm_S) : Prop := xm_W xz (xm_Ev xz) P xt146 s
abbrev xq147 (P : xm_R → Prop) (s : xm_S) : Prop := xm_W xz (xm_Ev xz) P xt147 s
abbrev xq148 (P : xm_R → Prop) (s : xm_S) : Prop := xm_W xz (xm_Ev xz) P xt148 s
abbrev xq149 (P : xm_R → Prop) (s : xm_S) : Prop := xm_W xz (xm_Ev xz) P xt149 s
abbrev xq150 (P : xm_R → Prop) (s : xm_S) : Prop := xm_W xz (xm_Ev xz) P xt150 s
abbrev xq151 (P : xm_R → Prop) (s : xm_S) : Prop := xm_W xz (xm_Ev xz) P xt151 s
abbrev xq152 (P : xm_R → Prop) (s : xm_S) : Prop := xm_W xz (xm_Ev xz) P xt152 s
abbrev xq153 (P : xm_R → Prop) (s : xm_S) : Prop := xm_W xz (xm_Ev xz) P xt153 s
abbrev xq154 (P : xm_R → Prop) (s : xm_S) : Prop := xm_W xz (xm_Ev xz) P xt154 s
abbrev xq155 (P : xm_R → Prop) (s : xm_S) : Prop := xm_W xz (xm_Ev xz) P xt155 s
abbrev xq156 (P : xm_R → Prop) (s : xm_S) : Prop := xm_W xz (xm_Ev xz) P xt156 s
abbrev xq157 (P : xm_R → Prop) (s : xm_S) : Prop := xm_W xz (xm_Ev xz) P xt157 s
abbrev xq158 (P : xm_R → Prop) (s : xm_S) : Prop := xm_W xz (xm_Ev xz) P xt158 s
abbrev xq159 (P : xm_R → Prop) (s : xm_S) : Prop := xm_W xz (xm_Ev xz) P xt159 s
abbrev xq160 (P : xm_R → Prop) (s : xm_S) : Prop := xm_W xz (xm_Ev xz) P xt160 s
abbrev xq161 (P : xm_R → Prop) (s : xm_S) : Prop := xm_W xz (xm_Ev xz) P xt161 s
abbrev xq162 (P : xm_R → Prop) (s : xm_S) : Prop := xm_W xz (xm_Ev xz) P xt162 s
abbrev xq163 (P : xm_R → Prop) (s : xm_S) : Prop := xm_W xz (xm_Ev xz) P xt163 s
abbrev xq164 (P : xm_R → Prop) (s : xm_S) : Prop := xm_W xz (xm_Ev xz) P xt164 s
abbrev xq165 (P : xm_R → Prop) (s : xm_S) : Prop := xm_W xz (xm_Ev xz) P xt165 s
abbrev xq166 (P : xm_R → Prop) (s : xm_S) : Prop := xm_W xz (xm_Ev xz) P xt166 s
abbrev xq167 (P : xm_R → Prop) (s : xm_S) : Prop := xm_W xz (xm_Ev xz) P xt167 s
abbrev xq168 (P : xm_R → Prop) (s : xm_S) : Prop := xm_W xz (xm_Ev xz) P xt168 s
abbrev xq169 (P : xm_R → Prop) (s : xm_S) : Prop := xm_W xz (xm_Ev xz) P xt169 s
abbrev xq170 (P : xm_R → Prop) (s : xm_S) : Prop := xm_W xz (xm_Ev xz) P xt170 s
