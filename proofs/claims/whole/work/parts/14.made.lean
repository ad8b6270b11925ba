theorem xm_row_id {α : Type} {f : Nat → Nat → α} {k : Nat} {v : α} (h : ∀ j, f k j = v) : xm_row f k v = f := by
  funext a j
  by_cases ha : a = k
  · subst ha
    rw [xm_row_self]
    exact (h j).symm
  · rw [xm_row_ne ha]
theorem xm_up_id {α : Type} {f : Nat → Nat → α} {k i : Nat} {v : α} (h : f k i = v) : xm_up f k i v = f := by
  funext a j
  by_cases ha : a = k
  · subst ha
    rw [xm_up_self]
    by_cases hj : j = i
    · subst hj
      rw [if_pos rfl, h]
    · rw [if_neg hj]
  · rw [xm_up_ne ha]
theorem ci6 (k : Nat) (M : xm_M) : xm_Ev xz 6 [.ref k] M (fun r => r = (none, M)) :=
  xm_in (xm_tre (t := xt6) (s := (0, [some (.ref k)], [], M, 0, 0)) [] 4 (show ((none, M) : xm_R) = (none, M) from rfl))
def mr2 (MR : Nat → Nat → Nat) : Nat → Nat → Nat := (xm_up MR 2 0 4)
set_option maxRecDepth 4000 in
theorem ci2 {MI : Nat → Nat → Int32} {ML : Nat → Nat → Int64} (MR : Nat → Nat → Nat) (hI : ∀ k j, 3 ≤ k → MI k j = 0) (hL : ∀ k j, 3 ≤ k → ML k j = 0) : xm_Ev xz 2 [.ref 2] (xSp 3, MI, ML, MR) (fun r => r = (none, (xSp 4, MI, ML, mr2 MR))) := by
  have rI : ∀ k, 3 ≤ k → xm_row MI k 0 = MI := fun k h => xm_row_id (fun j => hI k j h)
  have rL : ∀ k, 3 ≤ k → xm_row ML k 0 = ML := fun k h => xm_row_id (fun j => hL k j h)
  refine xm_in (xb2_0 ?_)
  rw [rI 3 (by decide), rL 3 (by decide)]
  refine ⟨rfl, ?_⟩
  exact rfl
def mr3 (MR : Nat → Nat → Nat) : Nat → Nat → Nat := (xm_up (xm_up (xm_up (xm_up (xm_up MR 4 0 6) 4 1 7) 4 2 8) 4 3 9) 4 4 10)
set_option maxRecDepth 4000 in
theorem ci3 {MI : Nat → Nat → Int32} {ML : Nat → Nat → Int64} (MR : Nat → Nat → Nat) (hI : ∀ k j, 5 ≤ k → MI k j = 0) (hL : ∀ k j, 5 ≤ k → ML k j = 0) : xm_Ev xz 3 [.ref 4] (xSp 5, MI, ML, MR) (fun r => r = (none, (xSp 10, MI, ML, mr3 MR))) := by
  have rI : ∀ k, 5 ≤ k → xm_row MI k 0 = MI := fun k h => xm_row_id (fun j => hI k j h)
  have rL : ∀ k, 5 ≤ k → xm_row ML k 0 = ML := fun k h => xm_row_id (fun j => hL k j h)
  refine xm_in (xb3_0 ?_)
  rw [rI 5 (by decide), rI 6 (by decide), rI 7 (by decide), rI 8 (by decide), rI 9 (by decide), rL 5 (by decide), rL 6 (by decide), rL 7 (by decide), rL 8 (by decide), rL 9 (by decide)]
  refine ⟨rfl, ?_⟩
  refine ⟨rfl, ?_⟩
  refine ⟨rfl, ?_⟩
  refine ⟨rfl, ?_⟩
  refine ⟨rfl, ?_⟩
  exact rfl
def mr1 (MR : Nat → Nat → Nat) : Nat → Nat → Nat := (xm_up (xm_up (xm_up (mr3 (xm_row (xm_up (mr2 (xm_row MR 2 0)) 1 0 3) 4 0)) 1 3 5) 1 11 11) 1 12 12)
set_option maxRecDepth 4000 in
theorem ci1 {MI : Nat → Nat → Int32} {ML : Nat → Nat → Int64} (MR : Nat → Nat → Nat) (hI : ∀ k j, 2 ≤ k → MI k j = 0) (hL : ∀ k j, 2 ≤ k → ML k j = 0) : xm_Ev xz 1 [.ref 1] (xSp 2, MI, ML, MR) (fun r => r = (none, (xSp 12, MI, ML, mr1 MR))) := by
  have rI : ∀ k, 2 ≤ k → xm_row MI k 0 = MI := fun k h => xm_row_id (fun j => hI k j h)
  have rL : ∀ k, 2 ≤ k → xm_row ML k 0 = ML := fun k h => xm_row_id (fun j => hL k j h)
  refine xm_in (xb1_0 ?_)
  rw [rI 2 (by decide), rL 2 (by decide)]
  refine ⟨_, ci2 _ (fun k j h => hI k j (Nat.le_trans (by decide) h)) (fun k j h => hL k j (Nat.le_trans (by decide) h)), ?_⟩
  rintro _ rfl
  refine xb1_12 ?_
  rw [rI 4 (by decide), rL 4 (by decide)]
  refine ⟨_, ci3 _ (fun k j h => hI k j (Nat.le_trans (by decide) h)) (fun k j h => hL k j (Nat.le_trans (by decide) h)), ?_⟩
  rintro _ rfl
  refine xb1_23 ?_
  rw [rI 10 (by decide), rI 11 (by decide), rL 10 (by decide), rL 11 (by decide)]
  refine ⟨rfl, ?_⟩
  refine ⟨rfl, ?_⟩
  exact rfl
def mr4 (MR : Nat → Nat → Nat) : Nat → Nat → Nat := (xm_up (xm_up (xm_up (xm_up MR 12 0 14) 12 1 15) 12 2 16) 12 3 17)
set_option maxRecDepth 4000 in
theorem ci4 {MI : Nat → Nat → Int32} {ML : Nat → Nat → Int64} (MR : Nat → Nat → Nat) (hI : ∀ k j, 13 ≤ k → MI k j = 0) (hL : ∀ k j, 13 ≤ k → ML k j = 0) : xm_Ev xz 4 [.ref 12] (xSp 13, MI, ML, MR) (fun r => r = (none, (xSp 17, MI, ML, mr4 MR))) := by
  have rI : ∀ k, 13 ≤ k → xm_row MI k 0 = MI := fun k h => xm_row_id (fun j => hI k j h)
  have rL : ∀ k, 13 ≤ k → xm_row ML k 0 = ML := fun k h => xm_row_id (fun j => hL k j h)
  refine xm_in (xb4_0 ?_)
  rw [rI 13 (by decide), rI 14 (by decide), rI 15 (by decide), rI 16 (by decide), rL 13 (by decide), rL 14 (by decide), rL 15 (by decide), rL 16 (by decide)]
  refine ⟨rfl, ?_⟩
  refine ⟨rfl, ?_⟩
  refine ⟨rfl, ?_⟩
  refine ⟨rfl, ?_⟩
  exact rfl
def mr7 (MR : Nat → Nat → Nat) : Nat → Nat → Nat := (xm_up (xm_up (xm_up (xm_up (xm_up MR 39 0 41) 39 1 42) 39 2 43) 39 3 44) 39 4 45)
set_option maxRecDepth 4000 in
theorem ci7 {MI : Nat → Nat → Int32} {ML : Nat → Nat → Int64} (MR : Nat → Nat → Nat) (hI : ∀ k j, 40 ≤ k → MI k j = 0) (hL : ∀ k j, 40 ≤ k → ML k j = 0) : xm_Ev xz 7 [.ref 39] (xSp 40, MI, ML, MR) (fun r => r = (none, (xSp 45, MI, ML, mr7 MR))) := by
  have rI : ∀ k, 40 ≤ k → xm_row MI k 0 = MI := fun k h => xm_row_id (fun j => hI k j h)
  have rL : ∀ k, 40 ≤ k → xm_row ML k 0 = ML := fun k h => xm_row_id (fun j => hL k j h)
  refine xm_in (xb7_0 ?_)
  rw [rI 40 (by decide), rI 41 (by decide), rI 42 (by decide), rI 43 (by decide), rI 44 (by decide), rL 40 (by decide), rL 41 (by decide), rL 42 (by decide), rL 43 (by decide), rL 44 (by decide)]
  refine ⟨rfl, ?_⟩
  refine ⟨rfl, ?_⟩
  refine ⟨rfl, ?_⟩
  refine ⟨rfl, ?_⟩
  refine ⟨rfl, ?_⟩
  exact rfl
/-- the providers, the first n of them NONE -/
def pI (MI : Nat → Nat → Int32) (n : Nat) : Nat → Nat → Int32 := fun a j => if a = 19 ∧ j < n then -1 else MI a j
theorem pI_ne {MI : Nat → Nat → Int32} {n a j : Nat} (h : a ≠ 19) : pI MI n a j = MI a j := by
  unfold pI
  rw [if_neg (fun q => h q.1)]
theorem pI_0 {MI : Nat → Nat → Int32} : pI MI 0 = MI := by
  funext a j
  unfold pI
  rw [if_neg (fun q => absurd q.2 (Nat.not_lt_zero _))]
theorem pI_s {MI : Nat → Nat → Int32} {n : Nat} : xm_up (pI MI n) 19 n (-1) = pI MI (n + 1) := by
  funext a j
  by_cases ha : a = 19
  · subst ha
    rw [xm_up_self]
    unfold pI
    by_cases hj : j = n
    · subst hj
      rw [if_pos rfl, if_pos ⟨rfl, by omega⟩]
    · rw [if_neg hj]
      by_cases hl : j < n
      · rw [if_pos ⟨rfl, hl⟩, if_pos ⟨rfl, by omega⟩]
      · rw [if_neg (fun q => hl q.2), if_neg (fun q => hl (by omega))]
  · rw [xm_up_ne ha, pI_ne ha, pI_ne ha]
def mr5a (MR : Nat → Nat → Nat) : Nat → Nat → Nat := (xm_up (xm_up (xm_up (xm_up (xm_up (xm_row MR 18 0) 17 0 19) 17 2 20) 17 3 21) 17 4 22) 17 5 23)
def mr5s (c : Nat) (i : Int32) (MR : Nat → Nat → Nat) : Nat → Nat → Nat := xm_up (xm_row MR c 0) 18 (Int32.toNatClampNeg i) (c + 1)
def mr5 (MR : Nat → Nat → Nat) : Nat → Nat → Nat := (mr5s 38 15 (mr5s 37 14 (mr5s 36 13 (mr5s 35 12 (mr5s 34 11 (mr5s 33 10 (mr5s 32 9 (mr5s 31 8 (mr5s 30 7 (mr5s 29 6 (mr5s 28 5 (mr5s 27 4 (mr5s 26 3 (mr5s 25 2 (mr5s 24 1 (mr5s 23 0 (mr5a MR)))))))))))))))))
theorem si0 {P : xm_R → Prop} {MI : Nat → Nat → Int32} {ML : Nat → Nat → Int64} {MR : Nat → Nat → Nat} (hI : ∀ j, MI 23 j = 0) (hL : ∀ j, ML 23 j = 0) (hR : MR 17 0 = 19) (k : xq5 P (47, [some (.ref 17), some (.int 1)], [], (xSp 24, MI, ML, mr5s 23 0 MR), 15, 135)) : xq5 P (47, [some (.ref 17), some (.int 0)], [], (xSp 23, MI, ML, MR), 16, 144) := by
  refine xb5_47_0 ⟨fun h => absurd h (by decide), fun _ => ?_⟩
  rw [← xm_up_id hR]
  refine xb5_53_0 ?_
  rw [xm_row_id hI, xm_row_id hL]
  refine ⟨_, ci6 _ _, ?_⟩
  rintro _ rfl
  refine xb5_65_0 ⟨⟨vp_in_nI (n := 0) (by decide) (by decide), rfl⟩, ?_⟩
  rw [xm_up_id hR]
  exact k
theorem si1 {P : xm_R → Prop} {MI : Nat → Nat → Int32} {ML : Nat → Nat → Int64} {MR : Nat → Nat → Nat} (hI : ∀ j, MI 24 j = 0) (hL : ∀ j, ML 24 j = 0) (hR : MR 17 0 = 19) (k : xq5 P (47, [some (.ref 17), some (.int 2)], [], (xSp 25, MI, ML, mr5s 24 1 MR), 14, 126)) : xq5 P (47, [some (.ref 17), some (.int 1)], [], (xSp 24, MI, ML, MR), 15, 135) := by
  refine xb5_47_1 ⟨fun h => absurd h (by decide), fun _ => ?_⟩
  rw [← xm_up_id hR]
  refine xb5_53_1 ?_
  rw [xm_row_id hI, xm_row_id hL]
  refine ⟨_, ci6 _ _, ?_⟩
  rintro _ rfl
  refine xb5_65_1 ⟨⟨vp_in_nI (n := 1) (by decide) (by decide), rfl⟩, ?_⟩
  rw [xm_up_id hR]
  exact k
theorem si2 {P : xm_R → Prop} {MI : Nat → Nat → Int32} {ML : Nat → Nat → Int64} {MR : Nat → Nat → Nat} (hI : ∀ j, MI 25 j = 0) (hL : ∀ j, ML 25 j = 0) (hR : MR 17 0 = 19) (k : xq5 P (47, [some (.ref 17), some (.int 3)], [], (xSp 26, MI, ML, mr5s 25 2 MR), 13, 117)) : xq5 P (47, [some (.ref 17), some (.int 2)], [], (xSp 25, MI, ML, MR), 14, 126) := by
  refine xb5_47_2 ⟨fun h => absurd h (by decide), fun _ => ?_⟩
  rw [← xm_up_id hR]
  refine xb5_53_2 ?_
  rw [xm_row_id hI, xm_row_id hL]
  refine ⟨_, ci6 _ _, ?_⟩
  rintro _ rfl
  refine xb5_65_2 ⟨⟨vp_in_nI (n := 2) (by decide) (by decide), rfl⟩, ?_⟩
  rw [xm_up_id hR]
  exact k
theorem si3 {P : xm_R → Prop} {MI : Nat → Nat → Int32} {ML : Nat → Nat → Int64} {MR : Nat → Nat → Nat} (hI : ∀ j, MI 26 j = 0) (hL : ∀ j, ML 26 j = 0) (hR : MR 17 0 = 19) (k : xq5 P (47, [some (.ref 17), some (.int 4)], [], (xSp 27, MI, ML, mr5s 26 3 MR), 12, 108)) : xq5 P (47, [some (.ref 17), some (.int 3)], [], (xSp 26, MI, ML, MR), 13, 117) := by
  refine xb5_47_3 ⟨fun h => absurd h (by decide), fun _ => ?_⟩
  rw [← xm_up_id hR]
  refine xb5_53_3 ?_
  rw [xm_row_id hI, xm_row_id hL]
  refine ⟨_, ci6 _ _, ?_⟩
  rintro _ rfl
  refine xb5_65_3 ⟨⟨vp_in_nI (n := 3) (by decide) (by decide), rfl⟩, ?_⟩
  rw [xm_up_id hR]
  exact k
theorem si4 {P : xm_R → Prop} {MI : Nat → Nat → Int32} {ML : Nat → Nat → Int64} {MR : Nat → Nat → Nat} (hI : ∀ j, MI 27 j = 0) (hL : ∀ j, ML 27 j = 0) (hR : MR 17 0 = 19) (k : xq5 P (47, [some (.ref 17), some (.int 5)], [], (xSp 28, MI, ML, mr5s 27 4 MR), 11, 99)) : xq5 P (47, [some (.ref 17), some (.int 4)], [], (xSp 27, MI, ML, MR), 12, 108) := by
  refine xb5_47_4 ⟨fun h => absurd h (by decide), fun _ => ?_⟩
  rw [← xm_up_id hR]
  refine xb5_53_4 ?_
  rw [xm_row_id hI, xm_row_id hL]
  refine ⟨_, ci6 _ _, ?_⟩
  rintro _ rfl
  refine xb5_65_4 ⟨⟨vp_in_nI (n := 4) (by decide) (by decide), rfl⟩, ?_⟩
  rw [xm_up_id hR]
  exact k
theorem si5 {P : xm_R → Prop} {MI : Nat → Nat → Int32} {ML : Nat → Nat → Int64} {MR : Nat → Nat → Nat} (hI : ∀ j, MI 28 j = 0) (hL : ∀ j, ML 28 j = 0) (hR : MR 17 0 = 19) (k : xq5 P (47, [some (.ref 17), some (.int 6)], [], (xSp 29, MI, ML, mr5s 28 5 MR), 10, 90)) : xq5 P (47, [some (.ref 17), some (.int 5)], [], (xSp 28, MI, ML, MR), 11, 99) := by
  refine xb5_47_5 ⟨fun h => absurd h (by decide), fun _ => ?_⟩
  rw [← xm_up_id hR]
  refine xb5_53_5 ?_
  rw [xm_row_id hI, xm_row_id hL]
  refine ⟨_, ci6 _ _, ?_⟩
  rintro _ rfl
  refine xb5_65_5 ⟨⟨vp_in_nI (n := 5) (by decide) (by decide), rfl⟩, ?_⟩
  rw [xm_up_id hR]
  exact k
theorem si6 {P : xm_R → Prop} {MI : Nat → Nat → Int32} {ML : Nat → Nat → Int64} {MR : Nat → Nat → Nat} (hI : ∀ j, MI 29 j = 0) (hL : ∀ j, ML 29 j = 0) (hR : MR 17 0 = 19) (k : xq5 P (47, [some (.ref 17), some (.int 7)], [], (xSp 30, MI, ML, mr5s 29 6 MR), 9, 81)) : xq5 P (47, [some (.ref 17), some (.int 6)], [], (xSp 29, MI, ML, MR), 10, 90) := by
  refine xb5_47_6 ⟨fun h => absurd h (by decide), fun _ => ?_⟩
  rw [← xm_up_id hR]
  refine xb5_53_6 ?_
  rw [xm_row_id hI, xm_row_id hL]
  refine ⟨_, ci6 _ _, ?_⟩
  rintro _ rfl
  refine xb5_65_6 ⟨⟨vp_in_nI (n := 6) (by decide) (by decide), rfl⟩, ?_⟩
  rw [xm_up_id hR]
  exact k
theorem si7 {P : xm_R → Prop} {MI : Nat → Nat → Int32} {ML : Nat → Nat → Int64} {MR : Nat → Nat → Nat} (hI : ∀ j, MI 30 j = 0) (hL : ∀ j, ML 30 j = 0) (hR : MR 17 0 = 19) (k : xq5 P (47, [some (.ref 17), some (.int 8)], [], (xSp 31, MI, ML, mr5s 30 7 MR), 8, 72)) : xq5 P (47, [some (.ref 17), some (.int 7)], [], (xSp 30, MI, ML, MR), 9, 81) := by
  refine xb5_47_7 ⟨fun h => absurd h (by decide), fun _ => ?_⟩
  rw [← xm_up_id hR]
  refine xb5_53_7 ?_
  rw [xm_row_id hI, xm_row_id hL]
  refine ⟨_, ci6 _ _, ?_⟩
  rintro _ rfl
  refine xb5_65_7 ⟨⟨vp_in_nI (n := 7) (by decide) (by decide), rfl⟩, ?_⟩
  rw [xm_up_id hR]
  exact k
theorem si8 {P : xm_R → Prop} {MI : Nat → Nat → Int32} {ML : Nat → Nat → Int64} {MR : Nat → Nat → Nat} (hI : ∀ j, MI 31 j = 0) (hL : ∀ j, ML 31 j = 0) (hR : MR 17 0 = 19) (k : xq5 P (47, [some (.ref 17), some (.int 9)], [], (xSp 32, MI, ML, mr5s 31 8 MR), 7, 63)) : xq5 P (47, [some (.ref 17), some (.int 8)], [], (xSp 31, MI, ML, MR), 8, 72) := by
  refine xb5_47_8 ⟨fun h => absurd h (by decide), fun _ => ?_⟩
  rw [← xm_up_id hR]
  refine xb5_53_8 ?_
  rw [xm_row_id hI, xm_row_id hL]
  refine ⟨_, ci6 _ _, ?_⟩
  rintro _ rfl
  refine xb5_65_8 ⟨⟨vp_in_nI (n := 8) (by decide) (by decide), rfl⟩, ?_⟩
  rw [xm_up_id hR]
  exact k
theorem si9 {P : xm_R → Prop} {MI : Nat → Nat → Int32} {ML : Nat → Nat → Int64} {MR : Nat → Nat → Nat} (hI : ∀ j, MI 32 j = 0) (hL : ∀ j, ML 32 j = 0) (hR : MR 17 0 = 19) (k : xq5 P (47, [some (.ref 17), some (.int 10)], [], (xSp 33, MI, ML, mr5s 32 9 MR), 6, 54)) : xq5 P (47, [some (.ref 17), some (.int 9)], [], (xSp 32, MI, ML, MR), 7, 63) := by
  refine xb5_47_9 ⟨fun h => absurd h (by decide), fun _ => ?_⟩
  rw [← xm_up_id hR]
  refine xb5_53_9 ?_
  rw [xm_row_id hI, xm_row_id hL]
  refine ⟨_, ci6 _ _, ?_⟩
  rintro _ rfl
  refine xb5_65_9 ⟨⟨vp_in_nI (n := 9) (by decide) (by decide), rfl⟩, ?_⟩
  rw [xm_up_id hR]
  exact k
theorem si10 {P : xm_R → Prop} {MI : Nat → Nat → Int32} {ML : Nat → Nat → Int64} {MR : Nat → Nat → Nat} (hI : ∀ j, MI 33 j = 0) (hL : ∀ j, ML 33 j = 0) (hR : MR 17 0 = 19) (k : xq5 P (47, [some (.ref 17), some (.int 11)], [], (xSp 34, MI, ML, mr5s 33 10 MR), 5, 45)) : xq5 P (47, [some (.ref 17), some (.int 10)], [], (xSp 33, MI, ML, MR), 6, 54) := by
  refine xb5_47_10 ⟨fun h => absurd h (by decide), fun _ => ?_⟩
  rw [← xm_up_id hR]
  refine xb5_53_10 ?_
  rw [xm_row_id hI, xm_row_id hL]
  refine ⟨_, ci6 _ _, ?_⟩
  rintro _ rfl
  refine xb5_65_10 ⟨⟨vp_in_nI (n := 10) (by decide) (by decide), rfl⟩, ?_⟩
  rw [xm_up_id hR]
  exact k
theorem si11 {P : xm_R → Prop} {MI : Nat → Nat → Int32} {ML : Nat → Nat → Int64} {MR : Nat → Nat → Nat} (hI : ∀ j, MI 34 j = 0) (hL : ∀ j, ML 34 j = 0) (hR : MR 17 0 = 19) (k : xq5 P (47, [some (.ref 17), some (.int 12)], [], (xSp 35, MI, ML, mr5s 34 11 MR), 4, 36)) : xq5 P (47, [some (.ref 17), some (.int 11)], [], (xSp 34, MI, ML, MR), 5, 45) := by
  refine xb5_47_11 ⟨fun h => absurd h (by decide), fun _ => ?_⟩
  rw [← xm_up_id hR]
  refine xb5_53_11 ?_
  rw [xm_row_id hI, xm_row_id hL]
  refine ⟨_, ci6 _ _, ?_⟩
  rintro _ rfl
  refine xb5_65_11 ⟨⟨vp_in_nI (n := 11) (by decide) (by decide), rfl⟩, ?_⟩
  rw [xm_up_id hR]
  exact k
theorem si12 {P : xm_R → Prop} {MI : Nat → Nat → Int32} {ML : Nat → Nat → Int64} {MR : Nat → Nat → Nat} (hI : ∀ j, MI 35 j = 0) (hL : ∀ j, ML 35 j = 0) (hR : MR 17 0 = 19) (k : xq5 P (47, [some (.ref 17), some (.int 13)], [], (xSp 36, MI, ML, mr5s 35 12 MR), 3, 27)) : xq5 P (47, [some (.ref 17), some (.int 12)], [], (xSp 35, MI, ML, MR), 4, 36) := by
  refine xb5_47_12 ⟨fun h => absurd h (by decide), fun _ => ?_⟩
  rw [← xm_up_id hR]
  refine xb5_53_12 ?_
  rw [xm_row_id hI, xm_row_id hL]
  refine ⟨_, ci6 _ _, ?_⟩
  rintro _ rfl
  refine xb5_65_12 ⟨⟨vp_in_nI (n := 12) (by decide) (by decide), rfl⟩, ?_⟩
  rw [xm_up_id hR]
  exact k
theorem si13 {P : xm_R → Prop} {MI : Nat → Nat → Int32} {ML : Nat → Nat → Int64} {MR : Nat → Nat → Nat} (hI : ∀ j, MI 36 j = 0) (hL : ∀ j, ML 36 j = 0) (hR : MR 17 0 = 19) (k : xq5 P (47, [some (.ref 17), some (.int 14)], [], (xSp 37, MI, ML, mr5s 36 13 MR), 2, 18)) : xq5 P (47, [some (.ref 17), some (.int 13)], [], (xSp 36, MI, ML, MR), 3, 27) := by
  refine xb5_47_13 ⟨fun h => absurd h (by decide), fun _ => ?_⟩
  rw [← xm_up_id hR]
  refine xb5_53_13 ?_
  rw [xm_row_id hI, xm_row_id hL]
  refine ⟨_, ci6 _ _, ?_⟩
  rintro _ rfl
  refine xb5_65_13 ⟨⟨vp_in_nI (n := 13) (by decide) (by decide), rfl⟩, ?_⟩
  rw [xm_up_id hR]
  exact k
theorem si14 {P : xm_R → Prop} {MI : Nat → Nat → Int32} {ML : Nat → Nat → Int64} {MR : Nat → Nat → Nat} (hI : ∀ j, MI 37 j = 0) (hL : ∀ j, ML 37 j = 0) (hR : MR 17 0 = 19) (k : xq5 P (47, [some (.ref 17), some (.int 15)], [], (xSp 38, MI, ML, mr5s 37 14 MR), 1, 9)) : xq5 P (47, [some (.ref 17), some (.int 14)], [], (xSp 37, MI, ML, MR), 2, 18) := by
  refine xb5_47_14 ⟨fun h => absurd h (by decide), fun _ => ?_⟩
  rw [← xm_up_id hR]
  refine xb5_53_14 ?_
  rw [xm_row_id hI, xm_row_id hL]
  refine ⟨_, ci6 _ _, ?_⟩
  rintro _ rfl
  refine xb5_65_14 ⟨⟨vp_in_nI (n := 14) (by decide) (by decide), rfl⟩, ?_⟩
  rw [xm_up_id hR]
  exact k
theorem si15 {P : xm_R → Prop} {MI : Nat → Nat → Int32} {ML : Nat → Nat → Int64} {MR : Nat → Nat → Nat} (hI : ∀ j, MI 38 j = 0) (hL : ∀ j, ML 38 j = 0) (hR : MR 17 0 = 19) (k : xq5 P (47, [some (.ref 17), some (.int 16)], [], (xSp 39, MI, ML, mr5s 38 15 MR), 0, 0)) : xq5 P (47, [some (.ref 17), some (.int 15)], [], (xSp 38, MI, ML, MR), 1, 9) := by
  refine xb5_47_15 ⟨fun h => absurd h (by decide), fun _ => ?_⟩
  rw [← xm_up_id hR]
  refine xb5_53_15 ?_
  rw [xm_row_id hI, xm_row_id hL]
  refine ⟨_, ci6 _ _, ?_⟩
  rintro _ rfl
  refine xb5_65_15 ⟨⟨vp_in_nI (n := 15) (by decide) (by decide), rfl⟩, ?_⟩
  rw [xm_up_id hR]
  exact k
theorem sl {P : xm_R → Prop} {MI : Nat → Nat → Int32} {ML : Nat → Nat → Int64} {MR : Nat → Nat → Nat} (hR : MR 17 2 = 20) (k : P (none, (xSp 39, pI MI 48, ML, MR))) : ∀ (d n : Nat), n + d = 48 → xq5 P (74, [some (.ref 17), some (.int (nI n))], [], (xSp 39, pI MI n, ML, MR), 0, 0) := by
  intro d
  induction d with
  | zero =>
    intro n hn
    have : n = 48 := by omega
    subst this
    exact xb5_74 ⟨fun _ => xb5_93 k, fun h => absurd (show (48 : Int32) ≤ nI 48 by decide) h⟩
  | succ d ih =>
    intro n hn
    refine xb5_74 ⟨fun h => absurd h (nI_ge (b := 48) (a := n) (by omega) (by decide)), fun _ => ?_⟩
    rw [← xm_up_id hR]
    refine xb5_80 ⟨vp_in_nI (by omega) (by decide), ?_⟩
    rw [xm_up_id hR, nI_clamp (by omega), pI_s, nI_1]
    exact ih (n + 1) (by omega)
set_option maxRecDepth 4000 in
theorem ci5 {MI : Nat → Nat → Int32} {ML : Nat → Nat → Int64} (MR : Nat → Nat → Nat) (hI : ∀ k j, 18 ≤ k → MI k j = 0) (hL : ∀ k j, 18 ≤ k → ML k j = 0) : xm_Ev xz 5 [.ref 17] (xSp 18, MI, ML, MR) (fun r => r = (none, (xSp 39, pI MI 48, ML, mr5 MR))) := by
  have rI : ∀ k, 18 ≤ k → xm_row MI k 0 = MI := fun k h => xm_row_id (fun j => hI k j h)
  have rL : ∀ k, 18 ≤ k → xm_row ML k 0 = ML := fun k h => xm_row_id (fun j => hL k j h)
  refine xm_in (xb5_0 ?_)
  rw [rI 19 (by decide), rI 20 (by decide), rI 21 (by decide), rI 22 (by decide), rL 19 (by decide), rL 20 (by decide), rL 21 (by decide), rL 22 (by decide)]
  refine ⟨rfl, ?_⟩
  refine ⟨rfl, ?_⟩
  refine ⟨rfl, ?_⟩
  refine ⟨rfl, ?_⟩
  refine ⟨rfl, ?_⟩
  refine si0 (fun j => hI _ j (by decide)) (fun j => hL _ j (by decide)) rfl ?_
  refine si1 (fun j => hI _ j (by decide)) (fun j => hL _ j (by decide)) rfl ?_
  refine si2 (fun j => hI _ j (by decide)) (fun j => hL _ j (by decide)) rfl ?_
  refine si3 (fun j => hI _ j (by decide)) (fun j => hL _ j (by decide)) rfl ?_
  refine si4 (fun j => hI _ j (by decide)) (fun j => hL _ j (by decide)) rfl ?_
  refine si5 (fun j => hI _ j (by decide)) (fun j => hL _ j (by decide)) rfl ?_
  refine si6 (fun j => hI _ j (by decide)) (fun j => hL _ j (by decide)) rfl ?_
  refine si7 (fun j => hI _ j (by decide)) (fun j => hL _ j (by decide)) rfl ?_
  refine si8 (fun j => hI _ j (by decide)) (fun j => hL _ j (by decide)) rfl ?_
  refine si9 (fun j => hI _ j (by decide)) (fun j => hL _ j (by decide)) rfl ?_
  refine si10 (fun j => hI _ j (by decide)) (fun j => hL _ j (by decide)) rfl ?_
  refine si11 (fun j => hI _ j (by decide)) (fun j => hL _ j (by decide)) rfl ?_
  refine si12 (fun j => hI _ j (by decide)) (fun j => hL _ j (by decide)) rfl ?_
  refine si13 (fun j => hI _ j (by decide)) (fun j => hL _ j (by decide)) rfl ?_
  refine si14 (fun j => hI _ j (by decide)) (fun j => hL _ j (by decide)) rfl ?_
  refine si15 (fun j => hI _ j (by decide)) (fun j => hL _ j (by decide)) rfl ?_
  refine xb5_47_16 ⟨fun _ => ?_, fun h => absurd (by decide) h⟩
  refine xb5_72 ?_
  have := sl (P := fun r => r = (none, (xSp 39, pI MI 48, ML, mr5 MR))) (MI := MI) (ML := ML) (MR := mr5 MR) rfl rfl 48 0 rfl
  rw [pI_0] at this
  exact this
def mr0 (MR : Nat → Nat → Nat) : Nat → Nat → Nat := (xm_up (mr7 (xm_row (xm_up (mr5 (xm_row (xm_up (mr4 (xm_row (xm_up (mr1 (xm_row MR 1 0)) 0 0 2) 12 0)) 0 1 13) 17 0)) 0 2 18) 39 0)) 0 3 40)
set_option maxRecDepth 4000 in
theorem ci0 {MI : Nat → Nat → Int32} {ML : Nat → Nat → Int64} (MR : Nat → Nat → Nat) (hI : ∀ k j, 1 ≤ k → MI k j = 0) (hL : ∀ k j, 1 ≤ k → ML k j = 0) : xm_Ev xz 0 [.ref 0] (xSp 1, MI, ML, MR) (fun r => r = (none, (xSp 45, (pI MI 48), ML, mr0 MR))) := by
  have rI : ∀ k, 1 ≤ k → xm_row MI k 0 = MI := fun k h => xm_row_id (fun j => hI k j h)
  have rL : ∀ k, 1 ≤ k → xm_row ML k 0 = ML := fun k h => xm_row_id (fun j => hL k j h)
  refine xm_in (xb0_0 ?_)
  rw [rI 1 (by decide), rL 1 (by decide)]
  refine ⟨_, ci1 _ (fun k j h => hI k j (Nat.le_trans (by decide) h)) (fun k j h => hL k j (Nat.le_trans (by decide) h)), ?_⟩
  rintro _ rfl
  refine xb0_12 ?_
  rw [rI 12 (by decide), rL 12 (by decide)]
  refine ⟨_, ci4 _ (fun k j h => hI k j (Nat.le_trans (by decide) h)) (fun k j h => hL k j (Nat.le_trans (by decide) h)), ?_⟩
  rintro _ rfl
  refine xb0_23 ?_
  rw [rI 17 (by decide), rL 17 (by decide)]
  refine ⟨_, ci5 _ (fun k j h => hI k j (Nat.le_trans (by decide) h)) (fun k j h => hL k j (Nat.le_trans (by decide) h)), ?_⟩
  rintro _ rfl
  have rP : ∀ k, 20 ≤ k → xm_row (pI MI 48) k 0 = pI MI 48 := fun k h => xm_row_id (fun j => by rw [pI_ne (by omega)]; exact hI k j (by omega))
  refine xb0_34 ?_
  rw [rP 39 (by decide), rL 39 (by decide)]
  refine ⟨_, ci7 _ (fun k j h => by rw [pI_ne (by omega)]; exact hI k j (Nat.le_trans (by decide) h)) (fun k j h => hL k j (Nat.le_trans (by decide) h)), ?_⟩
  rintro _ rfl
  refine xb0_45 ?_
  exact rfl
def mr8 (MR : Nat → Nat → Nat) : Nat → Nat → Nat := (xm_up (xm_up (xm_up (xm_up (xm_up (xm_up (xm_up (xm_up (xm_up (xm_up (xm_up (xm_up (xm_up (xm_up (xm_up (xm_up (xm_up (xm_up (xm_up (xm_up (xm_up (xm_up MR 45 0 47) 45 5 48) 45 6 49) 45 7 50) 45 8 51) 45 9 52) 45 14 53) 45 17 54) 45 18 55) 45 20 56) 45 21 57) 45 25 58) 45 26 59) 45 27 60) 45 28 61) 45 29 62) 45 30 63) 45 31 64) 45 32 65) 45 33 66) 45 34 67) 45 35 68)
set_option maxRecDepth 4000 in
theorem ci8 {MI : Nat → Nat → Int32} {ML : Nat → Nat → Int64} (MR : Nat → Nat → Nat) (hI : ∀ k j, 46 ≤ k → MI k j = 0) (hL : ∀ k j, 46 ≤ k → ML k j = 0) : xm_Ev xz 8 [.ref 45] (xSp 46, MI, ML, MR) (fun r => r = (none, (xSp 68, MI, ML, mr8 MR))) := by
  have rI : ∀ k, 46 ≤ k → xm_row MI k 0 = MI := fun k h => xm_row_id (fun j => hI k j h)
  have rL : ∀ k, 46 ≤ k → xm_row ML k 0 = ML := fun k h => xm_row_id (fun j => hL k j h)
  refine xm_in (xb8_0 ?_)
  rw [rI 46 (by decide), rL 46 (by decide)]
  refine ⟨rfl, ?_⟩
  refine xb8_13 ?_
  rw [rI 47 (by decide), rL 47 (by decide)]
  refine ⟨rfl, ?_⟩
  refine xb8_21 ?_
  rw [rI 48 (by decide), rL 48 (by decide)]
  refine ⟨rfl, ?_⟩
  refine xb8_29 ?_
  rw [rI 49 (by decide), rL 49 (by decide)]
  refine ⟨rfl, ?_⟩
  refine xb8_37 ?_
  rw [rI 50 (by decide), rL 50 (by decide)]
  refine ⟨rfl, ?_⟩
  refine xb8_45 ?_
  rw [rI 51 (by decide), rL 51 (by decide)]
  refine ⟨rfl, ?_⟩
  refine xb8_53 ?_
  rw [rI 52 (by decide), rL 52 (by decide)]
  refine ⟨rfl, ?_⟩
  refine xb8_62 ?_
  rw [rI 53 (by decide), rL 53 (by decide)]
  refine ⟨rfl, ?_⟩
  refine xb8_70 ?_
  rw [rI 54 (by decide), rL 54 (by decide)]
  refine ⟨rfl, ?_⟩
  refine xb8_78 ?_
  rw [rI 55 (by decide), rL 55 (by decide)]
  refine ⟨rfl, ?_⟩
  refine xb8_87 ?_
  rw [rI 56 (by decide), rL 56 (by decide)]
  refine ⟨rfl, ?_⟩
  refine xb8_95 ?_
  rw [rI 57 (by decide), rL 57 (by decide)]
  refine ⟨rfl, ?_⟩
  refine xb8_103 ?_
  rw [rI 58 (by decide), rL 58 (by decide)]
  refine ⟨rfl, ?_⟩
  refine xb8_111 ?_
  rw [rI 59 (by decide), rL 59 (by decide)]
  refine ⟨rfl, ?_⟩
  refine xb8_119 ?_
  rw [rI 60 (by decide), rL 60 (by decide)]
  refine ⟨rfl, ?_⟩
  refine xb8_127 ?_
  rw [rI 61 (by decide), rL 61 (by decide)]
  refine ⟨rfl, ?_⟩
  refine xb8_135 ?_
  rw [rI 62 (by decide), rL 62 (by decide)]
  refine ⟨rfl, ?_⟩
  refine xb8_143 ?_
  rw [rI 63 (by decide), rL 63 (by decide)]
  refine ⟨rfl, ?_⟩
  refine xb8_151 ?_
  rw [rI 64 (by decide), rL 64 (by decide)]
  refine ⟨rfl, ?_⟩
  refine xb8_159 ?_
  rw [rI 65 (by decide), rL 65 (by decide)]
  refine ⟨rfl, ?_⟩
  refine xb8_167 ?_
  rw [rI 66 (by decide), rL 66 (by decide)]
  refine ⟨rfl, ?_⟩
  refine xb8_175 ?_
  rw [rI 67 (by decide), rL 67 (by decide)]
  refine ⟨rfl, ?_⟩
  refine xb8_183 ?_
  exact rfl
