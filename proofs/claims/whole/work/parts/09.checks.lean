theorem xm_blt {pc N : Nat} (h : N ≤ pc) : Nat.blt pc N = false := by
  cases hq : Nat.blt pc N with
  | false => rfl
  | true =>
    have : pc < N := Nat.le_of_ble_eq_true hq
    omega
def xm_ckA (V : xm_V) (K : xm_K) (J : xm_J) (mm : Nat) (t : Nat → Option xm_E) (N : Nat) : Bool := (List.range N).all fun pc => match t pc with
  | none => true
  | some e => xm_chk V K J mm pc e
theorem xm_ckT {V : xm_V} {K : xm_K} {J : xm_J} {mm : Nat} {t : Nat → Option xm_E} {N : Nat} (hN : ∀ pc, N ≤ pc → t pc = none) (h : xm_ckA V K J mm t N = true) (pc : Nat) (e : xm_E) (he : t pc = some e) : xm_chk V K J mm pc e = true ∧ pc < N := by
  have hlt : pc < N := by
    refine Nat.lt_of_not_le fun hq => ?_
    rw [hN pc hq] at he
    cases he
  have := List.all_eq_true.mp h pc (List.mem_range.mpr hlt)
  rw [he] at this
  exact ⟨this, hlt⟩
theorem xck0 : xm_ckA xV xK xJ 0 xt0 49 = true := by decide +kernel
theorem xcn0 : ∀ pc, 49 ≤ pc → xt0 pc = none := fun pc h => by
  unfold xt0
  rw [xm_blt h]
  rfl
theorem xck1 : xm_ckA xV xK xJ 1 xt1 43 = true := by decide +kernel
theorem xcn1 : ∀ pc, 43 ≤ pc → xt1 pc = none := fun pc h => by
  unfold xt1
  rw [xm_blt h]
  rfl
theorem xck2 : xm_ckA xV xK xJ 2 xt2 14 = true := by decide +kernel
theorem xcn2 : ∀ pc, 14 ≤ pc → xt2 pc = none := fun pc h => by
  unfold xt2
  rw [xm_blt h]
  rfl
theorem xck3 : xm_ckA xV xK xJ 3 xt3 45 = true := by decide +kernel
theorem xcn3 : ∀ pc, 45 ≤ pc → xt3 pc = none := fun pc h => by
  unfold xt3
  rw [xm_blt h]
  rfl
theorem xck4 : xm_ckA xV xK xJ 4 xt4 38 = true := by decide +kernel
theorem xcn4 : ∀ pc, 38 ≤ pc → xt4 pc = none := fun pc h => by
  unfold xt4
  rw [xm_blt h]
  rfl
theorem xck5 : xm_ckA xV xK xJ 5 xt5 94 = true := by decide +kernel
theorem xcn5 : ∀ pc, 94 ≤ pc → xt5 pc = none := fun pc h => by
  unfold xt5
  rw [xm_blt h]
  rfl
theorem xck6 : xm_ckA xV xK xJ 6 xt6 5 = true := by decide +kernel
theorem xcn6 : ∀ pc, 5 ≤ pc → xt6 pc = none := fun pc h => by
  unfold xt6
  rw [xm_blt h]
  rfl
theorem xck7 : xm_ckA xV xK xJ 7 xt7 40 = true := by decide +kernel
theorem xcn7 : ∀ pc, 40 ≤ pc → xt7 pc = none := fun pc h => by
  unfold xt7
  rw [xm_blt h]
  rfl
theorem xck8 : xm_ckA xV xK xJ 8 xt8 184 = true := by decide +kernel
theorem xcn8 : ∀ pc, 184 ≤ pc → xt8 pc = none := fun pc h => by
  unfold xt8
  rw [xm_blt h]
  rfl
theorem xck9 : xm_ckA xV xK xJ 9 xt9 13 = true := by decide +kernel
theorem xcn9 : ∀ pc, 13 ≤ pc → xt9 pc = none := fun pc h => by
  unfold xt9
  rw [xm_blt h]
  rfl
theorem xck10 : xm_ckA xV xK xJ 10 xt10 74 = true := by decide +kernel
theorem xcn10 : ∀ pc, 74 ≤ pc → xt10 pc = none := fun pc h => by
  unfold xt10
  rw [xm_blt h]
  rfl
theorem xck11 : xm_ckA xV xK xJ 11 xt11 11 = true := by decide +kernel
theorem xcn11 : ∀ pc, 11 ≤ pc → xt11 pc = none := fun pc h => by
  unfold xt11
  rw [xm_blt h]
  rfl
theorem xck12 : xm_ckA xV xK xJ 12 xt12 6 = true := by decide +kernel
theorem xcn12 : ∀ pc, 6 ≤ pc → xt12 pc = none := fun pc h => by
  unfold xt12
  rw [xm_blt h]
  rfl
theorem xck13 : xm_ckA xV xK xJ 13 xt13 155 = true := by decide +kernel
theorem xcn13 : ∀ pc, 155 ≤ pc → xt13 pc = none := fun pc h => by
  unfold xt13
  rw [xm_blt h]
  rfl
theorem xck14 : xm_ckA xV xK xJ 14 xt14 15 = true := by decide +kernel
theorem xcn14 : ∀ pc, 15 ≤ pc → xt14 pc = none := fun pc h => by
  unfold xt14
  rw [xm_blt h]
  rfl
theorem xck15 : xm_ckA xV xK xJ 15 xt15 105 = true := by decide +kernel
theorem xcn15 : ∀ pc, 105 ≤ pc → xt15 pc = none := fun pc h => by
  unfold xt15
  rw [xm_blt h]
  rfl
theorem xck16 : xm_ckA xV xK xJ 16 xt16 60 = true := by decide +kernel
theorem xcn16 : ∀ pc, 60 ≤ pc → xt16 pc = none := fun pc h => by
  unfold xt16
  rw [xm_blt h]
  rfl
theorem xck17 : xm_ckA xV xK xJ 17 xt17 61 = true := by decide +kernel
theorem xcn17 : ∀ pc, 61 ≤ pc → xt17 pc = none := fun pc h => by
  unfold xt17
  rw [xm_blt h]
  rfl
theorem xck18 : xm_ckA xV xK xJ 18 xt18 50 = true := by decide +kernel
theorem xcn18 : ∀ pc, 50 ≤ pc → xt18 pc = none := fun pc h => by
  unfold xt18
  rw [xm_blt h]
  rfl
theorem xck19 : xm_ckA xV xK xJ 19 xt19 18 = true := by decide +kernel
theorem xcn19 : ∀ pc, 18 ≤ pc → xt19 pc = none := fun pc h => by
  unfold xt19
  rw [xm_blt h]
  rfl
theorem xck20 : xm_ckA xV xK xJ 20 xt20 84 = true := by decide +kernel
theorem xcn20 : ∀ pc, 84 ≤ pc → xt20 pc = none := fun pc h => by
  unfold xt20
  rw [xm_blt h]
  rfl
theorem xck21 : xm_ckA xV xK xJ 21 xt21 43 = true := by decide +kernel
theorem xcn21 : ∀ pc, 43 ≤ pc → xt21 pc = none := fun pc h => by
  unfold xt21
  rw [xm_blt h]
  rfl
theorem xck22 : xm_ckA xV xK xJ 22 xt22 11 = true := by decide +kernel
theorem xcn22 : ∀ pc, 11 ≤ pc → xt22 pc = none := fun pc h => by
  unfold xt22
  rw [xm_blt h]
  rfl
theorem xck23 : xm_ckA xV xK xJ 23 xt23 19 = true := by decide +kernel
theorem xcn23 : ∀ pc, 19 ≤ pc → xt23 pc = none := fun pc h => by
  unfold xt23
  rw [xm_blt h]
  rfl
theorem xck24 : xm_ckA xV xK xJ 24 xt24 19 = true := by decide +kernel
theorem xcn24 : ∀ pc, 19 ≤ pc → xt24 pc = none := fun pc h => by
  unfold xt24
  rw [xm_blt h]
  rfl
theorem xck25 : xm_ckA xV xK xJ 25 xt25 17 = true := by decide +kernel
theorem xcn25 : ∀ pc, 17 ≤ pc → xt25 pc = none := fun pc h => by
  unfold xt25
  rw [xm_blt h]
  rfl
theorem xck26 : xm_ckA xV xK xJ 26 xt26 193 = true := by decide +kernel
theorem xcn26 : ∀ pc, 193 ≤ pc → xt26 pc = none := fun pc h => by
  unfold xt26
  rw [xm_blt h]
  rfl
theorem xck27 : xm_ckA xV xK xJ 27 xt27 30 = true := by decide +kernel
theorem xcn27 : ∀ pc, 30 ≤ pc → xt27 pc = none := fun pc h => by
  unfold xt27
  rw [xm_blt h]
  rfl
theorem xck28 : xm_ckA xV xK xJ 28 xt28 85 = true := by decide +kernel
theorem xcn28 : ∀ pc, 85 ≤ pc → xt28 pc = none := fun pc h => by
  unfold xt28
  rw [xm_blt h]
  rfl
theorem xck29 : xm_ckA xV xK xJ 29 xt29 23 = true := by decide +kernel
theorem xcn29 : ∀ pc, 23 ≤ pc → xt29 pc = none := fun pc h => by
  unfold xt29
  rw [xm_blt h]
  rfl
theorem xck30 : xm_ckA xV xK xJ 30 xt30 123 = true := by decide +kernel
theorem xcn30 : ∀ pc, 123 ≤ pc → xt30 pc = none := fun pc h => by
  unfold xt30
  rw [xm_blt h]
  rfl
theorem xck31 : xm_ckA xV xK xJ 31 xt31 84 = true := by decide +kernel
theorem xcn31 : ∀ pc, 84 ≤ pc → xt31 pc = none := fun pc h => by
  unfold xt31
  rw [xm_blt h]
  rfl
theorem xck32 : xm_ckA xV xK xJ 32 xt32 23 = true := by decide +kernel
theorem xcn32 : ∀ pc, 23 ≤ pc → xt32 pc = none := fun pc h => by
  unfold xt32
  rw [xm_blt h]
  rfl
theorem xck33 : xm_ckA xV xK xJ 33 xt33 54 = true := by decide +kernel
theorem xcn33 : ∀ pc, 54 ≤ pc → xt33 pc = none := fun pc h => by
  unfold xt33
  rw [xm_blt h]
  rfl
theorem xck34 : xm_ckA xV xK xJ 34 xt34 114 = true := by decide +kernel
theorem xcn34 : ∀ pc, 114 ≤ pc → xt34 pc = none := fun pc h => by
  unfold xt34
  rw [xm_blt h]
  rfl
theorem xck35 : xm_ckA xV xK xJ 35 xt35 120 = true := by decide +kernel
theorem xcn35 : ∀ pc, 120 ≤ pc → xt35 pc = none := fun pc h => by
  unfold xt35
  rw [xm_blt h]
  rfl
theorem xck36 : xm_ckA xV xK xJ 36 xt36 137 = true := by decide +kernel
theorem xcn36 : ∀ pc, 137 ≤ pc → xt36 pc = none := fun pc h => by
  unfold xt36
  rw [xm_blt h]
  rfl
theorem xck37 : xm_ckA xV xK xJ 37 xt37 33 = true := by decide +kernel
theorem xcn37 : ∀ pc, 33 ≤ pc → xt37 pc = none := fun pc h => by
  unfold xt37
  rw [xm_blt h]
  rfl
theorem xck38 : xm_ckA xV xK xJ 38 xt38 204 = true := by decide +kernel
theorem xcn38 : ∀ pc, 204 ≤ pc → xt38 pc = none := fun pc h => by
  unfold xt38
  rw [xm_blt h]
  rfl
theorem xck39 : xm_ckA xV xK xJ 39 xt39 19 = true := by decide +kernel
theorem xcn39 : ∀ pc, 19 ≤ pc → xt39 pc = none := fun pc h => by
  unfold xt39
  rw [xm_blt h]
  rfl
theorem xck40 : xm_ckA xV xK xJ 40 xt40 19 = true := by decide +kernel
theorem xcn40 : ∀ pc, 19 ≤ pc → xt40 pc = none := fun pc h => by
  unfold xt40
  rw [xm_blt h]
  rfl
theorem xck41 : xm_ckA xV xK xJ 41 xt41 19 = true := by decide +kernel
theorem xcn41 : ∀ pc, 19 ≤ pc → xt41 pc = none := fun pc h => by
  unfold xt41
  rw [xm_blt h]
  rfl
theorem xck42 : xm_ckA xV xK xJ 42 xt42 26 = true := by decide +kernel
theorem xcn42 : ∀ pc, 26 ≤ pc → xt42 pc = none := fun pc h => by
  unfold xt42
  rw [xm_blt h]
  rfl
theorem xck43 : xm_ckA xV xK xJ 43 xt43 15 = true := by decide +kernel
theorem xcn43 : ∀ pc, 15 ≤ pc → xt43 pc = none := fun pc h => by
  unfold xt43
  rw [xm_blt h]
  rfl
theorem xck44 : xm_ckA xV xK xJ 44 xt44 30 = true := by decide +kernel
theorem xcn44 : ∀ pc, 30 ≤ pc → xt44 pc = none := fun pc h => by
  unfold xt44
  rw [xm_blt h]
  rfl
theorem xck45 : xm_ckA xV xK xJ 45 xt45 148 = true := by decide +kernel
theorem xcn45 : ∀ pc, 148 ≤ pc → xt45 pc = none := fun pc h => by
  unfold xt45
  rw [xm_blt h]
  rfl
theorem xck46 : xm_ckA xV xK xJ 46 xt46 30 = true := by decide +kernel
theorem xcn46 : ∀ pc, 30 ≤ pc → xt46 pc = none := fun pc h => by
  unfold xt46
  rw [xm_blt h]
  rfl
theorem xck47 : xm_ckA xV xK xJ 47 xt47 100 = true := by decide +kernel
theorem xcn47 : ∀ pc, 100 ≤ pc → xt47 pc = none := fun pc h => by
  unfold xt47
  rw [xm_blt h]
  rfl
theorem xck48 : xm_ckA xV xK xJ 48 xt48 48 = true := by decide +kernel
theorem xcn48 : ∀ pc, 48 ≤ pc → xt48 pc = none := fun pc h => by
  unfold xt48
  rw [xm_blt h]
  rfl
theorem xck49 : xm_ckA xV xK xJ 49 xt49 113 = true := by decide +kernel
theorem xcn49 : ∀ pc, 113 ≤ pc → xt49 pc = none := fun pc h => by
  unfold xt49
  rw [xm_blt h]
  rfl
theorem xck50 : xm_ckA xV xK xJ 50 xt50 55 = true := by decide +kernel
theorem xcn50 : ∀ pc, 55 ≤ pc → xt50 pc = none := fun pc h => by
  unfold xt50
  rw [xm_blt h]
  rfl
theorem xck51 : xm_ckA xV xK xJ 51 xt51 60 = true := by decide +kernel
theorem xcn51 : ∀ pc, 60 ≤ pc → xt51 pc = none := fun pc h => by
  unfold xt51
  rw [xm_blt h]
  rfl
theorem xck52 : xm_ckA xV xK xJ 52 xt52 68 = true := by decide +kernel
theorem xcn52 : ∀ pc, 68 ≤ pc → xt52 pc = none := fun pc h => by
  unfold xt52
  rw [xm_blt h]
  rfl
theorem xck53 : xm_ckA xV xK xJ 53 xt53 46 = true := by decide +kernel
theorem xcn53 : ∀ pc, 46 ≤ pc → xt53 pc = none := fun pc h => by
  unfold xt53
  rw [xm_blt h]
  rfl
theorem xck54 : xm_ckA xV xK xJ 54 xt54 195 = true := by decide +kernel
theorem xcn54 : ∀ pc, 195 ≤ pc → xt54 pc = none := fun pc h => by
  unfold xt54
  rw [xm_blt h]
  rfl
theorem xck55 : xm_ckA xV xK xJ 55 xt55 49 = true := by decide +kernel
theorem xcn55 : ∀ pc, 49 ≤ pc → xt55 pc = none := fun pc h => by
  unfold xt55
  rw [xm_blt h]
  rfl
theorem xck56 : xm_ckA xV xK xJ 56 xt56 87 = true := by decide +kernel
theorem xcn56 : ∀ pc, 87 ≤ pc → xt56 pc = none := fun pc h => by
  unfold xt56
  rw [xm_blt h]
  rfl
theorem xck57 : xm_ckA xV xK xJ 57 xt57 85 = true := by decide +kernel
theorem xcn57 : ∀ pc, 85 ≤ pc → xt57 pc = none := fun pc h => by
  unfold xt57
  rw [xm_blt h]
  rfl
theorem xck58 : xm_ckA xV xK xJ 58 xt58 26 = true := by decide +kernel
theorem xcn58 : ∀ pc, 26 ≤ pc → xt58 pc = none := fun pc h => by
  unfold xt58
  rw [xm_blt h]
  rfl
theorem xck59 : xm_ckA xV xK xJ 59 xt59 64 = true := by decide +kernel
theorem xcn59 : ∀ pc, 64 ≤ pc → xt59 pc = none := fun pc h => by
  unfold xt59
  rw [xm_blt h]
  rfl
theorem xck60 : xm_ckA xV xK xJ 60 xt60 142 = true := by decide +kernel
theorem xcn60 : ∀ pc, 142 ≤ pc → xt60 pc = none := fun pc h => by
  unfold xt60
  rw [xm_blt h]
  rfl
theorem xck61 : xm_ckA xV xK xJ 61 xt61 13 = true := by decide +kernel
theorem xcn61 : ∀ pc, 13 ≤ pc → xt61 pc = none := fun pc h => by
  unfold xt61
  rw [xm_blt h]
  rfl
theorem xck62 : xm_ckA xV xK xJ 62 xt62 97 = true := by decide +kernel
theorem xcn62 : ∀ pc, 97 ≤ pc → xt62 pc = none := fun pc h => by
  unfold xt62
  rw [xm_blt h]
  rfl
theorem xck63 : xm_ckA xV xK xJ 63 xt63 85 = true := by decide +kernel
theorem xcn63 : ∀ pc, 85 ≤ pc → xt63 pc = none := fun pc h => by
  unfold xt63
  rw [xm_blt h]
  rfl
theorem xck64 : xm_ckA xV xK xJ 64 xt64 55 = true := by decide +kernel
theorem xcn64 : ∀ pc, 55 ≤ pc → xt64 pc = none := fun pc h => by
  unfold xt64
  rw [xm_blt h]
  rfl
theorem xck65 : xm_ckA xV xK xJ 65 xt65 6 = true := by decide +kernel
theorem xcn65 : ∀ pc, 6 ≤ pc → xt65 pc = none := fun pc h => by
  unfold xt65
  rw [xm_blt h]
  rfl
theorem xck66 : xm_ckA xV xK xJ 66 xt66 19 = true := by decide +kernel
theorem xcn66 : ∀ pc, 19 ≤ pc → xt66 pc = none := fun pc h => by
  unfold xt66
  rw [xm_blt h]
  rfl
theorem xck67 : xm_ckA xV xK xJ 67 xt67 17 = true := by decide +kernel
theorem xcn67 : ∀ pc, 17 ≤ pc → xt67 pc = none := fun pc h => by
  unfold xt67
  rw [xm_blt h]
  rfl
theorem xck68 : xm_ckA xV xK xJ 68 xt68 87 = true := by decide +kernel
theorem xcn68 : ∀ pc, 87 ≤ pc → xt68 pc = none := fun pc h => by
  unfold xt68
  rw [xm_blt h]
  rfl
theorem xck69 : xm_ckA xV xK xJ 69 xt69 21 = true := by decide +kernel
theorem xcn69 : ∀ pc, 21 ≤ pc → xt69 pc = none := fun pc h => by
  unfold xt69
  rw [xm_blt h]
  rfl
theorem xck70 : xm_ckA xV xK xJ 70 xt70 85 = true := by decide +kernel
theorem xcn70 : ∀ pc, 85 ≤ pc → xt70 pc = none := fun pc h => by
  unfold xt70
  rw [xm_blt h]
  rfl
theorem xck71 : xm_ckA xV xK xJ 71 xt71 23 = true := by decide +kernel
theorem xcn71 : ∀ pc, 23 ≤ pc → xt71 pc = none := fun pc h => by
  unfold xt71
  rw [xm_blt h]
  rfl
theorem xck72 : xm_ckA xV xK xJ 72 xt72 41 = true := by decide +kernel
theorem xcn72 : ∀ pc, 41 ≤ pc → xt72 pc = none := fun pc h => by
  unfold xt72
  rw [xm_blt h]
  rfl
theorem xck73 : xm_ckA xV xK xJ 73 xt73 19 = true := by decide +kernel
theorem xcn73 : ∀ pc, 19 ≤ pc → xt73 pc = none := fun pc h => by
  unfold xt73
  rw [xm_blt h]
  rfl
theorem xck74 : xm_ckA xV xK xJ 74 xt74 16 = true := by decide +kernel
theorem xcn74 : ∀ pc, 16 ≤ pc → xt74 pc = none := fun pc h => by
  unfold xt74
  rw [xm_blt h]
  rfl
theorem xck75 : xm_ckA xV xK xJ 75 xt75 78 = true := by decide +kernel
theorem xcn75 : ∀ pc, 78 ≤ pc → xt75 pc = none := fun pc h => by
  unfold xt75
  rw [xm_blt h]
  rfl
theorem xck76 : xm_ckA xV xK xJ 76 xt76 63 = true := by decide +kernel
theorem xcn76 : ∀ pc, 63 ≤ pc → xt76 pc = none := fun pc h => by
  unfold xt76
  rw [xm_blt h]
  rfl
theorem xck77 : xm_ckA xV xK xJ 77 xt77 59 = true := by decide +kernel
theorem xcn77 : ∀ pc, 59 ≤ pc → xt77 pc = none := fun pc h => by
  unfold xt77
  rw [xm_blt h]
  rfl
theorem xck78 : xm_ckA xV xK xJ 78 xt78 73 = true := by decide +kernel
theorem xcn78 : ∀ pc, 73 ≤ pc → xt78 pc = none := fun pc h => by
  unfold xt78
  rw [xm_blt h]
  rfl
theorem xck79 : xm_ckA xV xK xJ 79 xt79 167 = true := by decide +kernel
theorem xcn79 : ∀ pc, 167 ≤ pc → xt79 pc = none := fun pc h => by
  unfold xt79
  rw [xm_blt h]
  rfl
theorem xck80 : xm_ckA xV xK xJ 80 xt80 50 = true := by decide +kernel
theorem xcn80 : ∀ pc, 50 ≤ pc → xt80 pc = none := fun pc h => by
  unfold xt80
  rw [xm_blt h]
  rfl
theorem xck81 : xm_ckA xV xK xJ 81 xt81 24 = true := by decide +kernel
theorem xcn81 : ∀ pc, 24 ≤ pc → xt81 pc = none := fun pc h => by
  unfold xt81
  rw [xm_blt h]
  rfl
theorem xck82 : xm_ckA xV xK xJ 82 xt82 72 = true := by decide +kernel
theorem xcn82 : ∀ pc, 72 ≤ pc → xt82 pc = none := fun pc h => by
  unfold xt82
  rw [xm_blt h]
  rfl
theorem xck83 : xm_ckA xV xK xJ 83 xt83 8 = true := by decide +kernel
theorem xcn83 : ∀ pc, 8 ≤ pc → xt83 pc = none := fun pc h => by
  unfold xt83
  rw [xm_blt h]
  rfl
theorem xck84 : xm_ckA xV xK xJ 84 xt84 10 = true := by decide +kernel
theorem xcn84 : ∀ pc, 10 ≤ pc → xt84 pc = none := fun pc h => by
  unfold xt84
  rw [xm_blt h]
  rfl
theorem xck85 : xm_ckA xV xK xJ 85 xt85 36 = true := by decide +kernel
theorem xcn85 : ∀ pc, 36 ≤ pc → xt85 pc = none := fun pc h => by
  unfold xt85
  rw [xm_blt h]
  rfl
theorem xck86 : xm_ckA xV xK xJ 86 xt86 18 = true := by decide +kernel
theorem xcn86 : ∀ pc, 18 ≤ pc → xt86 pc = none := fun pc h => by
  unfold xt86
  rw [xm_blt h]
  rfl
theorem xck87 : xm_ckA xV xK xJ 87 xt87 9 = true := by decide +kernel
theorem xcn87 : ∀ pc, 9 ≤ pc → xt87 pc = none := fun pc h => by
  unfold xt87
  rw [xm_blt h]
  rfl
theorem xck88 : xm_ckA xV xK xJ 88 xt88 101 = true := by decide +kernel
theorem xcn88 : ∀ pc, 101 ≤ pc → xt88 pc = none := fun pc h => by
  unfold xt88
  rw [xm_blt h]
  rfl
theorem xck89 : xm_ckA xV xK xJ 89 xt89 21 = true := by decide +kernel
theorem xcn89 : ∀ pc, 21 ≤ pc → xt89 pc = none := fun pc h => by
  unfold xt89
  rw [xm_blt h]
  rfl
theorem xck90 : xm_ckA xV xK xJ 90 xt90 42 = true := by decide +kernel
theorem xcn90 : ∀ pc, 42 ≤ pc → xt90 pc = none := fun pc h => by
  unfold xt90
  rw [xm_blt h]
  rfl
theorem xck91 : xm_ckA xV xK xJ 91 xt91 43 = true := by decide +kernel
theorem xcn91 : ∀ pc, 43 ≤ pc → xt91 pc = none := fun pc h => by
  unfold xt91
  rw [xm_blt h]
  rfl
theorem xck92 : xm_ckA xV xK xJ 92 xt92 44 = true := by decide +kernel
theorem xcn92 : ∀ pc, 44 ≤ pc → xt92 pc = none := fun pc h => by
  unfold xt92
  rw [xm_blt h]
  rfl
theorem xck93 : xm_ckA xV xK xJ 93 xt93 26 = true := by decide +kernel
theorem xcn93 : ∀ pc, 26 ≤ pc → xt93 pc = none := fun pc h => by
  unfold xt93
  rw [xm_blt h]
  rfl
theorem xck94 : xm_ckA xV xK xJ 94 xt94 80 = true := by decide +kernel
theorem xcn94 : ∀ pc, 80 ≤ pc → xt94 pc = none := fun pc h => by
  unfold xt94
  rw [xm_blt h]
  rfl
theorem xck95 : xm_ckA xV xK xJ 95 xt95 41 = true := by decide +kernel
theorem xcn95 : ∀ pc, 41 ≤ pc → xt95 pc = none := fun pc h => by
  unfold xt95
  rw [xm_blt h]
  rfl
theorem xck96 : xm_ckA xV xK xJ 96 xt96 9 = true := by decide +kernel
theorem xcn96 : ∀ pc, 9 ≤ pc → xt96 pc = none := fun pc h => by
  unfold xt96
  rw [xm_blt h]
  rfl
theorem xck97 : xm_ckA xV xK xJ 97 xt97 19 = true := by decide +kernel
theorem xcn97 : ∀ pc, 19 ≤ pc → xt97 pc = none := fun pc h => by
  unfold xt97
  rw [xm_blt h]
  rfl
theorem xck98 : xm_ckA xV xK xJ 98 xt98 28 = true := by decide +kernel
theorem xcn98 : ∀ pc, 28 ≤ pc → xt98 pc = none := fun pc h => by
  unfold xt98
  rw [xm_blt h]
  rfl
theorem xck99 : xm_ckA xV xK xJ 99 xt99 63 = true := by decide +kernel
theorem xcn99 : ∀ pc, 63 ≤ pc → xt99 pc = none := fun pc h => by
  unfold xt99
  rw [xm_blt h]
  rfl
theorem xck100 : xm_ckA xV xK xJ 100 xt100 67 = true := by decide +kernel
theorem xcn100 : ∀ pc, 67 ≤ pc → xt100 pc = none := fun pc h => by
  unfold xt100
  rw [xm_blt h]
  rfl
theorem xck101 : xm_ckA xV xK xJ 101 xt101 20 = true := by decide +kernel
theorem xcn101 : ∀ pc, 20 ≤ pc → xt101 pc = none := fun pc h => by
  unfold xt101
  rw [xm_blt h]
  rfl
theorem xck102 : xm_ckA xV xK xJ 102 xt102 49 = true := by decide +kernel
theorem xcn102 : ∀ pc, 49 ≤ pc → xt102 pc = none := fun pc h => by
  unfold xt102
  rw [xm_blt h]
  rfl
theorem xck103 : xm_ckA xV xK xJ 103 xt103 70 = true := by decide +kernel
theorem xcn103 : ∀ pc, 70 ≤ pc → xt103 pc = none := fun pc h => by
  unfold xt103
  rw [xm_blt h]
  rfl
theorem xck104 : xm_ckA xV xK xJ 104 xt104 42 = true := by decide +kernel
theorem xcn104 : ∀ pc, 42 ≤ pc → xt104 pc = none := fun pc h => by
  unfold xt104
  rw [xm_blt h]
  rfl
theorem xck105 : xm_ckA xV xK xJ 105 xt105 75 = true := by decide +kernel
theorem xcn105 : ∀ pc, 75 ≤ pc → xt105 pc = none := fun pc h => by
  unfold xt105
  rw [xm_blt h]
  rfl
theorem xck106 : xm_ckA xV xK xJ 106 xt106 67 = true := by decide +kernel
theorem xcn106 : ∀ pc, 67 ≤ pc → xt106 pc = none := fun pc h => by
  unfold xt106
  rw [xm_blt h]
  rfl
theorem xck107 : xm_ckA xV xK xJ 107 xt107 61 = true := by decide +kernel
theorem xcn107 : ∀ pc, 61 ≤ pc → xt107 pc = none := fun pc h => by
  unfold xt107
  rw [xm_blt h]
  rfl
theorem xck108 : xm_ckA xV xK xJ 108 xt108 50 = true := by decide +kernel
theorem xcn108 : ∀ pc, 50 ≤ pc → xt108 pc = none := fun pc h => by
  unfold xt108
  rw [xm_blt h]
  rfl
theorem xck109 : xm_ckA xV xK xJ 109 xt109 53 = true := by decide +kernel
theorem xcn109 : ∀ pc, 53 ≤ pc → xt109 pc = none := fun pc h => by
  unfold xt109
  rw [xm_blt h]
  rfl
theorem xck110 : xm_ckA xV xK xJ 110 xt110 41 = true := by decide +kernel
theorem xcn110 : ∀ pc, 41 ≤ pc → xt110 pc = none := fun pc h => by
  unfold xt110
  rw [xm_blt h]
  rfl
theorem xck111 : xm_ckA xV xK xJ 111 xt111 48 = true := by decide +kernel
theorem xcn111 : ∀ pc, 48 ≤ pc → xt111 pc = none := fun pc h => by
  unfold xt111
  rw [xm_blt h]
  rfl
theorem xck112 : xm_ckA xV xK xJ 112 xt112 23 = true := by decide +kernel
theorem xcn112 : ∀ pc, 23 ≤ pc → xt112 pc = none := fun pc h => by
  unfold xt112
  rw [xm_blt h]
  rfl
theorem xck113 : xm_ckA xV xK xJ 113 xt113 31 = true := by decide +kernel
theorem xcn113 : ∀ pc, 31 ≤ pc → xt113 pc = none := fun pc h => by
  unfold xt113
  rw [xm_blt h]
  rfl
theorem xck114 : xm_ckA xV xK xJ 114 xt114 74 = true := by decide +kernel
theorem xcn114 : ∀ pc, 74 ≤ pc → xt114 pc = none := fun pc h => by
  unfold xt114
  rw [xm_blt h]
  rfl
theorem xck115 : xm_ckA xV xK xJ 115 xt115 6 = true := by decide +kernel
theorem xcn115 : ∀ pc, 6 ≤ pc → xt115 pc = none := fun pc h => by
  unfold xt115
  rw [xm_blt h]
  rfl
theorem xck116 : xm_ckA xV xK xJ 116 xt116 186 = true := by decide +kernel
theorem xcn116 : ∀ pc, 186 ≤ pc → xt116 pc = none := fun pc h => by
  unfold xt116
  rw [xm_blt h]
  rfl
theorem xck117 : xm_ckA xV xK xJ 117 xt117 15 = true := by decide +kernel
theorem xcn117 : ∀ pc, 15 ≤ pc → xt117 pc = none := fun pc h => by
  unfold xt117
  rw [xm_blt h]
  rfl
theorem xck118 : xm_ckA xV xK xJ 118 xt118 276 = true := by decide +kernel
theorem xcn118 : ∀ pc, 276 ≤ pc → xt118 pc = none := fun pc h => by
  unfold xt118
  rw [xm_blt h]
  rfl
theorem xck119 : xm_ckA xV xK xJ 119 xt119 79 = true := by decide +kernel
theorem xcn119 : ∀ pc, 79 ≤ pc → xt119 pc = none := fun pc h => by
  unfold xt119
  rw [xm_blt h]
  rfl
theorem xck120 : xm_ckA xV xK xJ 120 xt120 24 = true := by decide +kernel
theorem xcn120 : ∀ pc, 24 ≤ pc → xt120 pc = none := fun pc h => by
  unfold xt120
  rw [xm_blt h]
  rfl
theorem xck121 : xm_ckA xV xK xJ 121 xt121 7 = true := by decide +kernel
theorem xcn121 : ∀ pc, 7 ≤ pc → xt121 pc = none := fun pc h => by
  unfold xt121
  rw [xm_blt h]
  rfl
theorem xck122 : xm_ckA xV xK xJ 122 xt122 216 = true := by decide +kernel
theorem xcn122 : ∀ pc, 216 ≤ pc → xt122 pc = none := fun pc h => by
  unfold xt122
  rw [xm_blt h]
  rfl
theorem xck123 : xm_ckA xV xK xJ 123 xt123 81 = true := by decide +kernel
theorem xcn123 : ∀ pc, 81 ≤ pc → xt123 pc = none := fun pc h => by
  unfold xt123
  rw [xm_blt h]
  rfl
theorem xck124 : xm_ckA xV xK xJ 124 xt124 224 = true := by decide +kernel
theorem xcn124 : ∀ pc, 224 ≤ pc → xt124 pc = none := fun pc h => by
  unfold xt124
  rw [xm_blt h]
  rfl
theorem xck125 : xm_ckA xV xK xJ 125 xt125 162 = true := by decide +kernel
theorem xcn125 : ∀ pc, 162 ≤ pc → xt125 pc = none := fun pc h => by
  unfold xt125
  rw [xm_blt h]
  rfl
theorem xck126 : xm_ckA xV xK xJ 126 xt126 24 = true := by decide +kernel
theorem xcn126 : ∀ pc, 24 ≤ pc → xt126 pc = none := fun pc h => by
  unfold xt126
  rw [xm_blt h]
  rfl
theorem xck127 : xm_ckA xV xK xJ 127 xt127 93 = true := by decide +kernel
theorem xcn127 : ∀ pc, 93 ≤ pc → xt127 pc = none := fun pc h => by
  unfold xt127
  rw [xm_blt h]
  rfl
theorem xck128 : xm_ckA xV xK xJ 128 xt128 54 = true := by decide +kernel
theorem xcn128 : ∀ pc, 54 ≤ pc → xt128 pc = none := fun pc h => by
  unfold xt128
  rw [xm_blt h]
  rfl
theorem xck129 : xm_ckA xV xK xJ 129 xt129 26 = true := by decide +kernel
theorem xcn129 : ∀ pc, 26 ≤ pc → xt129 pc = none := fun pc h => by
  unfold xt129
  rw [xm_blt h]
  rfl
theorem xck130 : xm_ckA xV xK xJ 130 xt130 103 = true := by decide +kernel
theorem xcn130 : ∀ pc, 103 ≤ pc → xt130 pc = none := fun pc h => by
  unfold xt130
  rw [xm_blt h]
  rfl
theorem xck131 : xm_ckA xV xK xJ 131 xt131 54 = true := by decide +kernel
theorem xcn131 : ∀ pc, 54 ≤ pc → xt131 pc = none := fun pc h => by
  unfold xt131
  rw [xm_blt h]
  rfl
theorem xck132 : xm_ckA xV xK xJ 132 xt132 103 = true := by decide +kernel
theorem xcn132 : ∀ pc, 103 ≤ pc → xt132 pc = none := fun pc h => by
  unfold xt132
  rw [xm_blt h]
  rfl
theorem xck133 : xm_ckA xV xK xJ 133 xt133 45 = true := by decide +kernel
theorem xcn133 : ∀ pc, 45 ≤ pc → xt133 pc = none := fun pc h => by
  unfold xt133
  rw [xm_blt h]
  rfl
theorem xck134 : xm_ckA xV xK xJ 134 xt134 37 = true := by decide +kernel
theorem xcn134 : ∀ pc, 37 ≤ pc → xt134 pc = none := fun pc h => by
  unfold xt134
  rw [xm_blt h]
  rfl
theorem xck135 : xm_ckA xV xK xJ 135 xt135 95 = true := by decide +kernel
theorem xcn135 : ∀ pc, 95 ≤ pc → xt135 pc = none := fun pc h => by
  unfold xt135
  rw [xm_blt h]
  rfl
theorem xck136 : xm_ckA xV xK xJ 136 xt136 38 = true := by decide +kernel
theorem xcn136 : ∀ pc, 38 ≤ pc → xt136 pc = none := fun pc h => by
  unfold xt136
  rw [xm_blt h]
  rfl
theorem xck137 : xm_ckA xV xK xJ 137 xt137 102 = true := by decide +kernel
theorem xcn137 : ∀ pc, 102 ≤ pc → xt137 pc = none := fun pc h => by
  unfold xt137
  rw [xm_blt h]
  rfl
theorem xck138 : xm_ckA xV xK xJ 138 xt138 32 = true := by decide +kernel
theorem xcn138 : ∀ pc, 32 ≤ pc → xt138 pc = none := fun pc h => by
  unfold xt138
  rw [xm_blt h]
  rfl
theorem xck139 : xm_ckA xV xK xJ 139 xt139 71 = true := by decide +kernel
theorem xcn139 : ∀ pc, 71 ≤ pc → xt139 pc = none := fun pc h => by
  unfold xt139
  rw [xm_blt h]
  rfl
theorem xck140 : xm_ckA xV xK xJ 140 xt140 268 = true := by decide +kernel
theorem xcn140 : ∀ pc, 268 ≤ pc → xt140 pc = none := fun pc h => by
  unfold xt140
  rw [xm_blt h]
  rfl
theorem xck141 : xm_ckA xV xK xJ 141 xt141 65 = true := by decide +kernel
theorem xcn141 : ∀ pc, 65 ≤ pc → xt141 pc = none := fun pc h => by
  unfold xt141
  rw [xm_blt h]
  rfl
theorem xck142 : xm_ckA xV xK xJ 142 xt142 93 = true := by decide +kernel
theorem xcn142 : ∀ pc, 93 ≤ pc → xt142 pc = none := fun pc h => by
  unfold xt142
  rw [xm_blt h]
  rfl
theorem xck143 : xm_ckA xV xK xJ 143 xt143 107 = true := by decide +kernel
theorem xcn143 : ∀ pc, 107 ≤ pc → xt143 pc = none := fun pc h => by
  unfold xt143
  rw [xm_blt h]
  rfl
theorem xck144 : xm_ckA xV xK xJ 144 xt144 135 = true := by decide +kernel
theorem xcn144 : ∀ pc, 135 ≤ pc → xt144 pc = none := fun pc h => by
  unfold xt144
  rw [xm_blt h]
  rfl
theorem xck145 : xm_ckA xV xK xJ 145 xt145 175 = true := by decide +kernel
theorem xcn145 : ∀ pc, 175 ≤ pc → xt145 pc = none := fun pc h => by
  unfold xt145
  rw [xm_blt h]
  rfl
theorem xck146 : xm_ckA xV xK xJ 146 xt146 5 = true := by decide +kernel
theorem xcn146 : ∀ pc, 5 ≤ pc → xt146 pc = none := fun pc h => by
  unfold xt146
  rw [xm_blt h]
  rfl
theorem xck147 : xm_ckA xV xK xJ 147 xt147 38 = true := by decide +kernel
theorem xcn147 : ∀ pc, 38 ≤ pc → xt147 pc = none := fun pc h => by
  unfold xt147
  rw [xm_blt h]
  rfl
theorem xck148 : xm_ckA xV xK xJ 148 xt148 18 = true := by decide +kernel
theorem xcn148 : ∀ pc, 18 ≤ pc → xt148 pc = none := fun pc h => by
  unfold xt148
  rw [xm_blt h]
  rfl
theorem xck149 : xm_ckA xV xK xJ 149 xt149 18 = true := by decide +kernel
theorem xcn149 : ∀ pc, 18 ≤ pc → xt149 pc = none := fun pc h => by
  unfold xt149
  rw [xm_blt h]
  rfl
theorem xck150 : xm_ckA xV xK xJ 150 xt150 56 = true := by decide +kernel
theorem xcn150 : ∀ pc, 56 ≤ pc → xt150 pc = none := fun pc h => by
  unfold xt150
  rw [xm_blt h]
  rfl
theorem xck151 : xm_ckA xV xK xJ 151 xt151 107 = true := by decide +kernel
theorem xcn151 : ∀ pc, 107 ≤ pc → xt151 pc = none := fun pc h => by
  unfold xt151
  rw [xm_blt h]
  rfl
theorem xck152 : xm_ckA xV xK xJ 152 xt152 36 = true := by decide +kernel
theorem xcn152 : ∀ pc, 36 ≤ pc → xt152 pc = none := fun pc h => by
  unfold xt152
  rw [xm_blt h]
  rfl
theorem xck153 : xm_ckA xV xK xJ 153 xt153 21 = true := by decide +kernel
theorem xcn153 : ∀ pc, 21 ≤ pc → xt153 pc = none := fun pc h => by
  unfold xt153
  rw [xm_blt h]
  rfl
theorem xck154 : xm_ckA xV xK xJ 154 xt154 120 = true := by decide +kernel
theorem xcn154 : ∀ pc, 120 ≤ pc → xt154 pc = none := fun pc h => by
  unfold xt154
  rw [xm_blt h]
  rfl
theorem xck155 : xm_ckA xV xK xJ 155 xt155 16 = true := by decide +kernel
theorem xcn155 : ∀ pc, 16 ≤ pc → xt155 pc = none := fun pc h => by
  unfold xt155
  rw [xm_blt h]
  rfl
theorem xck156 : xm_ckA xV xK xJ 156 xt156 33 = true := by decide +kernel
theorem xcn156 : ∀ pc, 33 ≤ pc → xt156 pc = none := fun pc h => by
  unfold xt156
  rw [xm_blt h]
  rfl
theorem xck157 : xm_ckA xV xK xJ 157 xt157 32 = true := by decide +kernel
theorem xcn157 : ∀ pc, 32 ≤ pc → xt157 pc = none := fun pc h => by
  unfold xt157
  rw [xm_blt h]
  rfl
theorem xck158 : xm_ckA xV xK xJ 158 xt158 119 = true := by decide +kernel
theorem xcn158 : ∀ pc, 119 ≤ pc → xt158 pc = none := fun pc h => by
  unfold xt158
  rw [xm_blt h]
  rfl
theorem xck159 : xm_ckA xV xK xJ 159 xt159 113 = true := by decide +kernel
theorem xcn159 : ∀ pc, 113 ≤ pc → xt159 pc = none := fun pc h => by
  unfold xt159
  rw [xm_blt h]
  rfl
theorem xck160 : xm_ckA xV xK xJ 160 xt160 29 = true := by decide +kernel
theorem xcn160 : ∀ pc, 29 ≤ pc → xt160 pc = none := fun pc h => by
  unfold xt160
  rw [xm_blt h]
  rfl
theorem xck161 : xm_ckA xV xK xJ 161 xt161 79 = true := by decide +kernel
theorem xcn161 : ∀ pc, 79 ≤ pc → xt161 pc = none := fun pc h => by
  unfold xt161
  rw [xm_blt h]
  rfl
theorem xck162 : xm_ckA xV xK xJ 162 xt162 37 = true := by decide +kernel
theorem xcn162 : ∀ pc, 37 ≤ pc → xt162 pc = none := fun pc h => by
  unfold xt162
  rw [xm_blt h]
  rfl
theorem xck163 : xm_ckA xV xK xJ 163 xt163 57 = true := by decide +kernel
theorem xcn163 : ∀ pc, 57 ≤ pc → xt163 pc = none := fun pc h => by
  unfold xt163
  rw [xm_blt h]
  rfl
theorem xck164 : xm_ckA xV xK xJ 164 xt164 47 = true := by decide +kernel
theorem xcn164 : ∀ pc, 47 ≤ pc → xt164 pc = none := fun pc h => by
  unfold xt164
  rw [xm_blt h]
  rfl
theorem xck165 : xm_ckA xV xK xJ 165 xt165 67 = true := by decide +kernel
theorem xcn165 : ∀ pc, 67 ≤ pc → xt165 pc = none := fun pc h => by
  unfold xt165
  rw [xm_blt h]
  rfl
theorem xck166 : xm_ckA xV xK xJ 166 xt166 124 = true := by decide +kernel
theorem xcn166 : ∀ pc, 124 ≤ pc → xt166 pc = none := fun pc h => by
  unfold xt166
  rw [xm_blt h]
  rfl
theorem xck167 : xm_ckA xV xK xJ 167 xt167 132 = true := by decide +kernel
theorem xcn167 : ∀ pc, 132 ≤ pc → xt167 pc = none := fun pc h => by
  unfold xt167
  rw [xm_blt h]
  rfl
theorem xck168 : xm_ckA xV xK xJ 168 xt168 211 = true := by decide +kernel
theorem xcn168 : ∀ pc, 211 ≤ pc → xt168 pc = none := fun pc h => by
  unfold xt168
  rw [xm_blt h]
  rfl
theorem xck169 : xm_ckA xV xK xJ 169 xt169 73 = true := by decide +kernel
theorem xcn169 : ∀ pc, 73 ≤ pc → xt169 pc = none := fun pc h => by
  unfold xt169
  rw [xm_blt h]
  rfl
theorem xck170 : xm_ckA xV xK xJ 170 xt170 74 = true := by decide +kernel
theorem xcn170 : ∀ pc, 74 ≤ pc → xt170 pc = none := fun pc h => by
  unfold xt170
  rw [xm_blt h]
  rfl
