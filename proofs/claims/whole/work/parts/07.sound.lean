/-- what is known in a frame of method mm -/
def xm_Fr (p : Program) (s : State) (m : MethodId) (args : Array Value) (meth : Method) (c : Code) (yy : Nat → MethodName) (nm : Nat → String) (V : xm_V) (lg Ns : List Cond) (CF : String) (b : Nat) (G : xm_G) (D : va_G) (cl : List vw_C) (mm : Nat) : Prop :=
  CallFix p m c (V.1 mm) (V.2.2.1 mm) s args (xm_ws yy V lg mm) (nm (V.2.2.2.2.1 mm)) ∧ va_K D cl (xm_tys G CF) s ∧ xm_N Ns CF s ∧ b ≤ s.heap.size ∧ meth.locks = false ∧ meth.sig.returnType = V.2.1 mm ∧ (V.2.2.2.2.2.2 mm = 2 → meth.name = "<init>")
section XF
variable {p : Program} {l : Launch} {e : Env} {R : Room} {s : State} {m : MethodId} {args : Array Value} {below : List Frame} {meth : Method} {c : Code} {Q : State → Prop}
variable {b : Nat} {G : xm_G} {D : va_G} {cl : List vw_C} {pc : Nat} {L : xm_L} {S : List Value} {M : xm_M} {bc bs : Nat} {CF : String} {Ns : List Cond}
variable {Z : xm_Z} {yy : Nat → MethodName} {nm : Nat → String} {V : xm_V} {K : xm_K} {J : xm_J} {tyf : Nat → Nat → FieldType} {lg : List Cond} {mm : Nat}
theorem xc_get (hF : xm_Fr p s m args meth c yy nm V lg Ns CF b G D cl mm) (hL : xm_LK yy nm V K J cl tyf lg Ns CF) (hG : G.2.2.2 = J.1) {ix a j t k : Nat} {v : Value} (hkd : (J.1 a)[j]? = some t) (hor : (V.2.2.2.2.1 mm, ix, a, j) ∈ K.1 ∨ (V.2.2.2.2.1 mm, ix, a, j) ∈ K.2.1) (hsh : xm_nth M.1 k = some (3, a)) (hv : xm_fv b M k j t = xm_v b v) (hd : decode (V.1 mm) pc = .ok (.getfield ix, 3)) (kk : xm_X p l e R s m args below meth c Q b G D cl (V.2.2.1 mm) (pc + 3, L, v :: S, M, bc, bs)) : xm_X p l e R s m args below meth c Q b G D cl (V.2.2.1 mm) (pc, L, .ref k :: S, M, bc, bs) := by
  obtain ⟨⟨hx, hb, hml, hown, hts⟩, hK, hN, -⟩ := hF
  obtain ⟨-, -, -, -, hcls, -, hFL, hFN, -⟩ := hL
  have hkd2 : (G.2.2.2 a)[j]? = some t := by rw [hG]; exact hkd
  rcases hor with h | h
  · obtain ⟨C, T, N, hc0, hw⟩ := hFL _ _ _ _ h
    obtain ⟨-, h2, -, -, -, h6, -⟩ := hcls _ _ _ _ hc0
    have hj : j < N := by rw [← h6]; exact (List.getElem?_eq_some_iff.mp hkd).1
    exact xs_getf hx hb hts (fun w hw => List.mem_cons_of_mem _ (h2 w hw)) hown hK hc0 hj (hts _ (List.mem_cons_of_mem _ hw)) hkd2 hsh hv hd kk
  · obtain ⟨C, T, N, host, hc0, hw⟩ := hFN _ _ _ _ h
    obtain ⟨-, h2, -, -, -, h6, -⟩ := hcls _ _ _ _ hc0
    have hj : j < N := by rw [← h6]; exact (List.getElem?_eq_some_iff.mp hkd).1
    exact xs_getfN hx hb hts (fun w hw => List.mem_cons_of_mem _ (h2 w hw)) hown hK hc0 hj (va_Nw.use rfl (hN.1 _ hw)) hkd2 hsh hv hd kk
theorem xc_put (hF : xm_Fr p s m args meth c yy nm V lg Ns CF b G D cl mm) (hL : xm_LK yy nm V K J cl tyf lg Ns CF) (hG : G.2.2.2 = J.1) {ix a j t k : Nat} {v : Value} {M' : xm_M} (hkd : (J.1 a)[j]? = some t) (hor : ((V.2.2.2.2.1 mm, ix, a, j) ∈ K.1 ∧ (J.2.1 a j = false ∨ (V.2.2.2.2.2.2 mm = 2 ∧ V.2.2.2.2.1 mm = a))) ∨ ((V.2.2.2.2.1 mm, ix, a, j) ∈ K.2.1 ∧ J.2.1 a j = false)) (hsh : xm_nth M.1 k = some (3, a)) (hnf : ∀ ty, xm_kt t ty → narrow ty (xm_v b v) = xm_v b v ∧ fits ty (xm_v b v) = true) (h1 : M'.1 = M.1) (hv : xm_fv b M' k j t = xm_v b v) (ho : ∀ i t', i ≠ j → xm_fv b M' k i t' = xm_fv b M k i t') (ho2 : ∀ i sh, i ≠ k → xm_e b G M' i sh = xm_e b G M i sh) (hd : decode (V.1 mm) pc = .ok (.putfield ix, 3)) (kk : xm_X p l e R s m args below meth c Q b G D cl (V.2.2.1 mm) (pc + 3, L, S, M', bc, bs)) : xm_X p l e R s m args below meth c Q b G D cl (V.2.2.1 mm) (pc, L, v :: .ref k :: S, M, bc, bs) := by
  obtain ⟨⟨hx, hb, hml, hown, hts⟩, hK, hN, -, -, -, hin2⟩ := hF
  obtain ⟨-, -, -, -, hcls, -, hFL, hFN, -⟩ := hL
  have hkd2 : (G.2.2.2 a)[j]? = some t := by rw [hG]; exact hkd
  rcases hor with ⟨h, hfi⟩ | ⟨h, hfi⟩
  · obtain ⟨C, T, N, hc0, hw⟩ := hFL _ _ _ _ h
    obtain ⟨hnm, h2, h3, h4, h5, h6, -⟩ := hcls _ _ _ _ hc0
    have hj : j < N := by rw [← h6]; exact (List.getElem?_eq_some_iff.mp hkd).1
    obtain ⟨t', g1, g2, g3, g4⟩ := h5 j hj
    have ht : t' = t := Option.some.inj (g1.symm.trans hkd)
    subst ht
    obtain ⟨n1, n2⟩ := hnf _ g2
    by_cases hfin : (T j).2.2.2 = true
    · rw [g3, hfin] at hfi
      rcases hfi with hfi | ⟨f1, f2⟩
      · cases hfi
      · exact xs_putfF hx hb hts (fun w hw => List.mem_cons_of_mem _ (h2 w hw)) (tyf a) h3 h4 hown hK hc0 hj (hts _ (List.mem_cons_of_mem _ hw)) hfin (hin2 f1) (by rw [g4 hfin, f2, hnm]) n1 n2 hkd2 hsh h1 hv ho ho2 hd kk
    · have hfin : (T j).2.2.2 = false := by simpa using hfin
      exact xs_putf hx hb hts (fun w hw => List.mem_cons_of_mem _ (h2 w hw)) (tyf a) h3 h4 hown hK hc0 hj (hts _ (List.mem_cons_of_mem _ hw)) hfin n1 n2 hkd2 hsh h1 hv ho ho2 hd kk
  · obtain ⟨C, T, N, host, hc0, hw⟩ := hFN _ _ _ _ h
    obtain ⟨hnm, h2, h3, h4, h5, h6, -⟩ := hcls _ _ _ _ hc0
    have hj : j < N := by rw [← h6]; exact (List.getElem?_eq_some_iff.mp hkd).1
    obtain ⟨t', g1, g2, g3, g4⟩ := h5 j hj
    have ht : t' = t := Option.some.inj (g1.symm.trans hkd)
    subst ht
    obtain ⟨n1, n2⟩ := hnf _ g2
    exact xs_putfN (host := host) hx hb hts (fun w hw => List.mem_cons_of_mem _ (h2 w hw)) (tyf a) h3 h4 hown hK hc0 hj (va_Nw.use rfl (hN.1 _ hw)) (by rw [← g3]; exact hfi) n1 n2 hkd2 hsh h1 hv ho ho2 hd kk
theorem xc_pI (hF : xm_Fr p s m args meth c yy nm V lg Ns CF b G D cl mm) (hL : xm_LK yy nm V K J cl tyf lg Ns CF) (hG : G.2.2.2 = J.1) {ix a j t k : Nat} {x : Int32} (ht : t = 0 ∨ (t = 3 ∧ (x = 0 ∨ x = 1))) (hkd : (J.1 a)[j]? = some t) (hor : ((V.2.2.2.2.1 mm, ix, a, j) ∈ K.1 ∧ (J.2.1 a j = false ∨ (V.2.2.2.2.2.2 mm = 2 ∧ V.2.2.2.2.1 mm = a))) ∨ ((V.2.2.2.2.1 mm, ix, a, j) ∈ K.2.1 ∧ J.2.1 a j = false)) (hsh : xm_nth M.1 k = some (3, a)) (hd : decode (V.1 mm) pc = .ok (.putfield ix, 3)) (kk : xm_X p l e R s m args below meth c Q b G D cl (V.2.2.1 mm) (pc + 3, L, S, (M.1, xm_up M.2.1 k j x, M.2.2), bc, bs)) : xm_X p l e R s m args below meth c Q b G D cl (V.2.2.1 mm) (pc, L, .int x :: .ref k :: S, M, bc, bs) := by
  refine xc_put (v := .int x) (M' := (M.1, xm_up M.2.1 k j x, M.2.2)) hF hL hG hkd hor hsh ?_ rfl ?_ ?_ (fun _ _ h => xm_eI h) hd kk
  · intro ty hty
    rcases ht with rfl | ⟨rfl, rfl | rfl⟩
    · have : ty = .int := hty
      subst this
      exact ⟨rfl, rfl⟩
    · have : ty = .boolean := hty
      subst this
      exact ⟨rfl, rfl⟩
    · have : ty = .boolean := hty
      subst this
      exact ⟨rfl, rfl⟩
  · have : xm_up M.2.1 k j x k j = x := by rw [xm_up_self, if_pos rfl]
    rcases ht with rfl | ⟨rfl, -⟩
    · show Value.int (xm_up M.2.1 k j x k j) = _
      rw [this]
      rfl
    · show Value.int (xm_up M.2.1 k j x k j) = _
      rw [this]
      rfl
  · intro i t' hi
    unfold xm_fv
    simp only [xm_up_self, if_neg hi]
theorem xc_pL (hF : xm_Fr p s m args meth c yy nm V lg Ns CF b G D cl mm) (hL : xm_LK yy nm V K J cl tyf lg Ns CF) (hG : G.2.2.2 = J.1) {ix a j k : Nat} {x : Int64} (hkd : (J.1 a)[j]? = some 1) (hor : ((V.2.2.2.2.1 mm, ix, a, j) ∈ K.1 ∧ (J.2.1 a j = false ∨ (V.2.2.2.2.2.2 mm = 2 ∧ V.2.2.2.2.1 mm = a))) ∨ ((V.2.2.2.2.1 mm, ix, a, j) ∈ K.2.1 ∧ J.2.1 a j = false)) (hsh : xm_nth M.1 k = some (3, a)) (hd : decode (V.1 mm) pc = .ok (.putfield ix, 3)) (kk : xm_X p l e R s m args below meth c Q b G D cl (V.2.2.1 mm) (pc + 3, L, S, (M.1, M.2.1, xm_up M.2.2.1 k j x, M.2.2.2), bc, bs)) : xm_X p l e R s m args below meth c Q b G D cl (V.2.2.1 mm) (pc, L, .long x :: .ref k :: S, M, bc, bs) := by
  refine xc_put (v := .long x) (M' := (M.1, M.2.1, xm_up M.2.2.1 k j x, M.2.2.2)) hF hL hG hkd hor hsh ?_ rfl ?_ ?_ (fun _ _ h => xm_eL h) hd kk
  · intro ty hty
    have : ty = .long := hty
    subst this
    exact ⟨rfl, rfl⟩
  · show Value.long (xm_up M.2.2.1 k j x k j) = _
    rw [xm_up_self, if_pos rfl]
    rfl
  · intro i t' hi
    unfold xm_fv
    simp only [xm_up_self, if_neg hi]
theorem xc_pR (hF : xm_Fr p s m args meth c yy nm V lg Ns CF b G D cl mm) (hL : xm_LK yy nm V K J cl tyf lg Ns CF) (hG : G.2.2.2 = J.1) {ix a j k x : Nat} (hkd : (J.1 a)[j]? = some 2) (hor : ((V.2.2.2.2.1 mm, ix, a, j) ∈ K.1 ∧ (J.2.1 a j = false ∨ (V.2.2.2.2.2.2 mm = 2 ∧ V.2.2.2.2.1 mm = a))) ∨ ((V.2.2.2.2.1 mm, ix, a, j) ∈ K.2.1 ∧ J.2.1 a j = false)) (hsh : xm_nth M.1 k = some (3, a)) (hd : decode (V.1 mm) pc = .ok (.putfield ix, 3)) (kk : xm_X p l e R s m args below meth c Q b G D cl (V.2.2.1 mm) (pc + 3, L, S, (M.1, M.2.1, M.2.2.1, xm_up M.2.2.2 k j (x + 1)), bc, bs)) : xm_X p l e R s m args below meth c Q b G D cl (V.2.2.1 mm) (pc, L, .ref x :: .ref k :: S, M, bc, bs) := by
  refine xc_put (v := .ref x) (M' := (M.1, M.2.1, M.2.2.1, xm_up M.2.2.2 k j (x + 1))) hF hL hG hkd hor hsh ?_ rfl ?_ ?_ (fun _ _ h => xm_eR h) hd kk
  · intro ty hty
    rcases hty with ⟨n, rfl⟩ | ⟨z, rfl⟩ <;> exact ⟨rfl, rfl⟩
  · show va_rf (xm_q b (xm_up M.2.2.2 k j (x + 1) k j)) = _
    rw [xm_up_self, if_pos rfl]
    rfl
  · intro i t' hi
    unfold xm_fv
    simp only [xm_up_self, if_neg hi]
theorem xc_room {a : Nat} (h1 : (V.2.2.2.1 a).1 + 1 ≤ (V.2.2.2.1 mm).1) (h2 : V.2.2.1 a + 19 + (V.2.2.2.1 a).2 ≤ (V.2.2.2.1 mm).2) : (xm_rm Z V a).frames + 1 ≤ (xm_rm Z V mm).frames ∧ 8 + (V.2.2.1 a + 11) + (xm_rm Z V a).locals ≤ (xm_rm Z V mm).locals := by
  refine ⟨h1, ?_⟩
  show 8 + (V.2.2.1 a + 11) + (V.2.2.2.1 a).2 ≤ (V.2.2.2.1 mm).2
  omega
theorem xc_callV (hF : xm_Fr p s m args meth c yy nm V lg Ns CF b G D cl mm) (hL : xm_LK yy nm V K J cl tyf lg Ns CF) (hG : G.2.2.2 = J.1) (hMW : ∀ o ix a, ((o, ix, a) ∈ K.2.2.1 ∨ (o, ix, a) ∈ K.2.2.2.1) → xm_MW yy nm V cl lg a) {ix a k : Nat} {As : List Value} {P0 : xm_R → Prop} (hor : (V.2.2.2.2.1 mm, ix, a) ∈ K.2.2.1 ∨ (V.2.2.2.2.1 mm, ix, a) ∈ K.2.2.2.1) (hsk : V.2.2.2.2.2.2 a = 0) (hn : As.length = V.2.2.2.2.2.1 a) (hdp : (V.2.2.2.1 a).1 + 1 ≤ (V.2.2.2.1 mm).1) (h61 : V.2.2.1 a + 19 + (V.2.2.2.1 a).2 ≤ (V.2.2.2.1 mm).2) (hsh : xm_nth M.1 k = some (3, V.2.2.2.2.1 a)) (hM : xm_Met l Z yy V lg Ns CF b G D cl a (.ref k :: As) M P0) (hcat : xm_cat S ≤ 8) (h1c : (Z.2.2 a).1 ≤ bc) (h1s : (Z.2.2 a).2 ≤ bs) (hd : decode (V.1 mm) pc = .ok (.invokevirtual ix, 3)) (kk : ∀ r, P0 r → xm_X p l e (xm_rm Z V mm) s m args below meth c Q b G D cl (V.2.2.1 mm) (xm_bk (pc + 3) L S (bc - (Z.2.2 a).1) (bs - (Z.2.2 a).2) r)) : xm_X p l e (xm_rm Z V mm) s m args below meth c Q b G D cl (V.2.2.1 mm) (pc, L, As.reverse ++ .ref k :: S, M, bc, bs) := by
  obtain ⟨S0, hK, hN, hbs, -⟩ := hF
  obtain ⟨w1, w2, w3, w4, w5, w6, w7, w8⟩ := hMW _ _ _ hor
  have hL0 := hL
  obtain ⟨hgw, hNs, -, -, -, -, -, -, hML, hMN, -⟩ := hL
  have hts := S0.2.2.2.2
  have hgd : GoodIn (xm_ws yy V lg mm) (xm_ws yy V lg a) := xm_good hgw w3
  have hmem : ∀ w, w ∈ lg → w.before args s = true := fun w h => hts w (List.mem_cons_of_mem _ h)
  obtain ⟨v1, v2, C, T, N, v3⟩ := w6 hsk
  obtain ⟨hgw2, -, -, -, hcls, -⟩ := hL0
  have hC : (yy a).cls = C := by rw [← w1]; exact (hcls _ _ _ _ v3).1
  subst hC
  rcases hor with h | h
  · exact xs_callV (C := (yy a).cls) S0 hNs hN hK hbs hM ⟨callB_of _ hts hgd rfl rfl rfl (hmem _ w4) (hmem _ (hML _ _ _ h)) w5 (xc_room hdp h61), hmem _ v1, hmem _ v2⟩ v3 hsh hn hcat h1c h1s hd kk
  · obtain ⟨host, h⟩ := hMN _ _ _ h
    exact xs_callVN (C := (yy a).cls) (host := host) S0 hNs hN hK hbs hM ⟨va_cnB _ hts hgd rfl rfl rfl (hN.1 _ h) (hmem _ w4) w5 (xc_room hdp h61), hmem _ v1, hmem _ v2⟩ v3 hsh hn hcat h1c h1s hd kk
theorem xc_callS (hF : xm_Fr p s m args meth c yy nm V lg Ns CF b G D cl mm) (hL : xm_LK yy nm V K J cl tyf lg Ns CF) (hG : G.2.2.2 = J.1) (hMW : ∀ o ix a, ((o, ix, a) ∈ K.2.2.1 ∨ (o, ix, a) ∈ K.2.2.2.1) → xm_MW yy nm V cl lg a) {ix a : Nat} {As : List Value} {P0 : xm_R → Prop} (hor : (V.2.2.2.2.1 mm, ix, a) ∈ K.2.2.1 ∨ (V.2.2.2.2.1 mm, ix, a) ∈ K.2.2.2.1) (hsk : V.2.2.2.2.2.2 a = 1) (hn : As.length = V.2.2.2.2.2.1 a) (hdp : (V.2.2.2.1 a).1 + 1 ≤ (V.2.2.2.1 mm).1) (h61 : V.2.2.1 a + 19 + (V.2.2.2.1 a).2 ≤ (V.2.2.2.1 mm).2)  (hM : xm_Met l Z yy V lg Ns CF b G D cl a (As) M P0) (hcat : xm_cat S ≤ 8) (h1c : (Z.2.2 a).1 ≤ bc) (h1s : (Z.2.2 a).2 ≤ bs) (hd : decode (V.1 mm) pc = .ok (.invokestatic ix, 3)) (kk : ∀ r, P0 r → xm_X p l e (xm_rm Z V mm) s m args below meth c Q b G D cl (V.2.2.1 mm) (xm_bk (pc + 3) L S (bc - (Z.2.2 a).1) (bs - (Z.2.2 a).2) r)) : xm_X p l e (xm_rm Z V mm) s m args below meth c Q b G D cl (V.2.2.1 mm) (pc, L, As.reverse ++ S, M, bc, bs) := by
  obtain ⟨S0, hK, hN, hbs, -⟩ := hF
  obtain ⟨w1, w2, w3, w4, w5, w6, w7, w8⟩ := hMW _ _ _ hor
  obtain ⟨hgw, hNs, -, -, -, -, -, -, hML, hMN, -⟩ := hL
  have hts := S0.2.2.2.2
  have hgd : GoodIn (xm_ws yy V lg mm) (xm_ws yy V lg a) := xm_good hgw w3
  have hmem : ∀ w, w ∈ lg → w.before args s = true := fun w h => hts w (List.mem_cons_of_mem _ h)
  rcases hor with h | h
  · exact xs_callS S0 hNs hN hK hbs hM ⟨callB_of _ hts hgd rfl rfl rfl (hmem _ w4) (hmem _ (hML _ _ _ h)) w5 (xc_room hdp h61), hmem _ (w7 hsk)⟩ hn hcat h1c h1s hd kk
  · obtain ⟨host, h⟩ := hMN _ _ _ h
    exact xs_callSN (host := host) S0 hNs hN hK hbs hM ⟨va_cnB _ hts hgd rfl rfl rfl (hN.1 _ h) (hmem _ w4) w5 (xc_room hdp h61), hmem _ (w7 hsk), trivial⟩ hn hcat h1c h1s hd kk
theorem xc_callI (hF : xm_Fr p s m args meth c yy nm V lg Ns CF b G D cl mm) (hL : xm_LK yy nm V K J cl tyf lg Ns CF) (hG : G.2.2.2 = J.1) (hMW : ∀ o ix a, ((o, ix, a) ∈ K.2.2.1 ∨ (o, ix, a) ∈ K.2.2.2.1) → xm_MW yy nm V cl lg a) {ix a k : Nat} {As : List Value} {P0 : xm_R → Prop} (hor : (V.2.2.2.2.1 mm, ix, a) ∈ K.2.2.1 ∨ (V.2.2.2.2.1 mm, ix, a) ∈ K.2.2.2.1) (hsk : V.2.2.2.2.2.2 a = 2) (hn : As.length = V.2.2.2.2.2.1 a) (hdp : (V.2.2.2.1 a).1 + 1 ≤ (V.2.2.2.1 mm).1) (h61 : V.2.2.1 a + 19 + (V.2.2.2.1 a).2 ≤ (V.2.2.2.1 mm).2)  (hM : xm_Met l Z yy V lg Ns CF b G D cl a (.ref k :: As) M P0) (hcat : xm_cat S ≤ 8) (h1c : (Z.2.2 a).1 ≤ bc) (h1s : (Z.2.2 a).2 ≤ bs) (hd : decode (V.1 mm) pc = .ok (.invokespecial ix, 3)) (kk : ∀ r, P0 r → xm_X p l e (xm_rm Z V mm) s m args below meth c Q b G D cl (V.2.2.1 mm) (xm_bk (pc + 3) L S (bc - (Z.2.2 a).1) (bs - (Z.2.2 a).2) r)) : xm_X p l e (xm_rm Z V mm) s m args below meth c Q b G D cl (V.2.2.1 mm) (pc, L, As.reverse ++ .ref k :: S, M, bc, bs) := by
  obtain ⟨S0, hK, hN, hbs, -⟩ := hF
  obtain ⟨w1, w2, w3, w4, w5, w6, w7, w8⟩ := hMW _ _ _ hor
  obtain ⟨hgw, hNs, -, -, -, -, -, -, hML, hMN, -⟩ := hL
  have hts := S0.2.2.2.2
  have hgd : GoodIn (xm_ws yy V lg mm) (xm_ws yy V lg a) := xm_good hgw w3
  have hmem : ∀ w, w ∈ lg → w.before args s = true := fun w h => hts w (List.mem_cons_of_mem _ h)
  obtain ⟨v1, v2, v3⟩ := w8 hsk
  have hws : xm_ws yy V lg a = Cond.code (yy a) (V.1 a) (V.2.2.1 a) none :: lg := by rw [← v3]; rfl
  rcases hor with h | h
  · exact xs_callI S0 hNs hN hK hbs hM ⟨callB_of _ hts hgd hws rfl rfl (hmem _ w4) (hmem _ (hML _ _ _ h)) w5 (xc_room hdp h61), v1, hmem _ v2⟩ hn hcat h1c h1s hd kk
  · obtain ⟨host, h⟩ := hMN _ _ _ h
    exact xs_callIN (host := host) S0 hNs hN hK hbs hM ⟨va_cnB _ hts hgd hws rfl rfl (hN.1 _ h) (hmem _ w4) w5 (xc_room hdp h61), v1, hmem _ v2⟩ hn hcat h1c h1s hd kk
end XF
set_option maxHeartbeats 4000000 in
theorem xm_close {p : Program} {l : Launch} {e : Env} {s : State} {m : MethodId} {args : Array Value} {below : List Frame} {meth : Method} {c : Code} {b : Nat} {G : xm_G} {D : va_G} {cl : List vw_C} {CF : String} {Ns : List Cond} {Z : xm_Z} {yy : Nat → MethodName} {nm : Nat → String} {V : xm_V} {K : xm_K} {J : xm_J} {tyf : Nat → Nat → FieldType} {lg : List Cond} {mm : Nat} {P : xm_R → Prop} (hF : xm_Fr p s m args meth c yy nm V lg Ns CF b G D cl mm) (hL : xm_LK yy nm V K J cl tyf lg Ns CF) (hG : G.2.2.2 = J.1) (hMW : ∀ o ix a, ((o, ix, a) ∈ K.2.2.1 ∨ (o, ix, a) ∈ K.2.2.2.1) → xm_MW yy nm V cl lg a) (hk4 : ∀ (ci j n : Nat), (J.1 ci)[j]? = some (n + 4) → False)
    {pc : Nat} {L : xm_L} {S : List Value} {M : xm_M} {bc bs : Nat} {ins : Jvm.ClassFile.Instr} {nx tg : Nat} {D1 D2 : List Nat} {a b' c' d : Nat} {kI : Int32} {kL : Int64} {sw : List (Int32 × Nat × List Nat)}
    (hk0 : xm_chk V K J mm pc (ins, nx, tg, D1, D2, (a, b', c', d), kI, kL, sw) = true)
    (h : xm_F (xm_Met l Z yy V lg Ns CF b G D cl) P (xm_X p l e (xm_rm Z V mm) s m args below meth c (MQ below (xm_Qc b G D cl P) args s (Z.2.2 mm).1 (Z.2.2 mm).2 (fun q => b ≤ q)) b G D cl (V.2.2.1 mm)) (xm_ins Z (ins, nx, tg, D1, D2, (a, b', c', d), kI, kL, sw) L S M bc bs)) : xm_X p l e (xm_rm Z V mm) s m args below meth c (MQ below (xm_Qc b G D cl P) args s (Z.2.2 mm).1 (Z.2.2 mm).2 (fun q => b ≤ q)) b G D cl (V.2.2.1 mm) (pc, L, S, M, bc, bs) := by
  obtain ⟨hd0, hk1⟩ := xm_and hk0
  obtain ⟨hn0, hk⟩ := xm_and hk1
  have hd := xm_dc hd0
  have hn := xm_dc hn0
  clear hk0 hk1 hd0 hn0
  have hk4 := hk4 a b'
  obtain ⟨⟨hx, hb, hml, hown, hts⟩, hK, hN, hbs, hlk, hrt, hin2⟩ := id hF
  obtain ⟨hgw, hNs, hAI, hAL, hcls, hcf, hFL, hFN, hML, hMN, hCL, hOL, hKI, hKL, hXL⟩ := id hL
  have hmem : ∀ w, w ∈ lg → w.before args s = true := fun w h => hts w (List.mem_cons_of_mem _ h)
  cases ins with
  | iconst n =>
    have hn : nx = pc + 1 := hn
    subst hn
    exact xs_iconst hx hb hd (xm_dc hk) (xs_drop D1 h)
  | bipush n =>
    have hn : nx = pc + 2 := hn
    subst hn
    exact xs_bipush hx hb hd (xm_dc hk) (xs_drop D1 h)
  | sipush n =>
    have hn : nx = pc + 3 := hn
    subst hn
    exact xs_sipush hx hb hd (xm_dc hk) (xs_drop D1 h)
  | lconst n =>
    have hn : nx = pc + 1 := hn
    subst hn
    exact xs_lconst hx hb hd (xm_dc hk) (xs_drop D1 h)
  | ldc ix =>
    have hn : nx = pc + 2 := hn
    subst hn
    exact xs_ldc hx hb hd hown (hmem _ (hKI _ _ _ (xm_dc hk))) (xs_drop D1 h)
  | ldc_w ix =>
    have hn : nx = pc + 3 := hn
    subst hn
    exact xs_ldcw hx hb hd hown (hmem _ (hKI _ _ _ (xm_dc hk))) (xs_drop D1 h)
  | ldc2_w ix =>
    have hn : nx = pc + 3 := hn
    subst hn
    exact xs_ldc2 hx hb hd hown (hmem _ (hKL _ _ _ (xm_dc hk))) (xs_drop D1 h)
  | iload_n i =>
    have hn : nx = pc + 1 := hn
    subst hn
    obtain ⟨x, hg, h9⟩ := xe_gI h
    clear h
    have h := h9
    clear h9
    exact xs_iload_n hx hb hd (xm_dc hk) hg (xs_drop D1 h)
  | iload i =>
    have hn : nx = pc + 2 := hn
    subst hn
    obtain ⟨x, hg, h9⟩ := xe_gI h
    clear h
    have h := h9
    clear h9
    have hi : i = a := xm_dc hk
    subst hi
    exact xs_iload hx hb hd hg (xs_drop D1 h)
  | istore_n i =>
    have hn : nx = pc + 1 := hn
    subst hn
    obtain ⟨x, S, rfl, h9⟩ := xe_pI h
    clear h
    have h := h9
    clear h9
    obtain ⟨k1, k2⟩ := xm_and hk
    exact xs_istore_n hx hb hd (xm_dc k1) (xm_dc k2) (xs_drop D1 h)
  | istore i =>
    have hn : nx = pc + 2 := hn
    subst hn
    obtain ⟨x, S, rfl, h9⟩ := xe_pI h
    clear h
    have h := h9
    clear h9
    obtain ⟨k1, k2⟩ := xm_and hk
    have hi : i = a := xm_dc k1
    subst hi
    exact xs_istore hx hb hd (xm_dc k2) (xs_drop D1 h)
  | lload_n i =>
    have hn : nx = pc + 1 := hn
    subst hn
    obtain ⟨x, hg, h9⟩ := xe_gL h
    clear h
    have h := h9
    clear h9
    exact xs_lload_n hx hb hd (xm_dc hk) hg (xs_drop D1 h)
  | lload i =>
    have hn : nx = pc + 2 := hn
    subst hn
    obtain ⟨x, hg, h9⟩ := xe_gL h
    clear h
    have h := h9
    clear h9
    have hi : i = a := xm_dc hk
    subst hi
    exact xs_lload hx hb hd hg (xs_drop D1 h)
  | lstore_n i =>
    have hn : nx = pc + 1 := hn
    subst hn
    obtain ⟨x, S, rfl, h9⟩ := xe_pL h
    clear h
    have h := h9
    clear h9
    obtain ⟨k1, k2⟩ := xm_and hk
    exact xs_lstore_n hx hb hd (xm_dc k1) (xm_dc k2) (xs_drop D1 h)
  | lstore i =>
    have hn : nx = pc + 2 := hn
    subst hn
    obtain ⟨x, S, rfl, h9⟩ := xe_pL h
    clear h
    have h := h9
    clear h9
    obtain ⟨k1, k2⟩ := xm_and hk
    have hi : i = a := xm_dc k1
    subst hi
    exact xs_lstore hx hb hd (xm_dc k2) (xs_drop D1 h)
  | aload_n i =>
    have hn : nx = pc + 1 := hn
    subst hn
    obtain ⟨x, hg, h9⟩ := xe_gR h
    clear h
    have h := h9
    clear h9
    exact xs_aload_n hx hb hd (xm_dc hk) hg (xs_drop D1 h)
  | aload i =>
    have hn : nx = pc + 2 := hn
    subst hn
    obtain ⟨x, hg, h9⟩ := xe_gR h
    clear h
    have h := h9
    clear h9
    have hi : i = a := xm_dc hk
    subst hi
    exact xs_aload hx hb hd hg (xs_drop D1 h)
  | astore_n i =>
    have hn : nx = pc + 1 := hn
    subst hn
    obtain ⟨x, S, rfl, h9⟩ := xe_pR h
    clear h
    have h := h9
    clear h9
    obtain ⟨k1, k2⟩ := xm_and hk
    exact xs_astore_n hx hb hd (xm_dc k1) (xm_dc k2) (xs_drop D1 h)
  | astore i =>
    have hn : nx = pc + 2 := hn
    subst hn
    obtain ⟨x, S, rfl, h9⟩ := xe_pR h
    clear h
    have h := h9
    clear h9
    obtain ⟨k1, k2⟩ := xm_and hk
    have hi : i = a := xm_dc k1
    subst hi
    exact xs_astore hx hb hd (xm_dc k2) (xs_drop D1 h)
  | iinc i n =>
    have hn : nx = pc + 3 := hn
    subst hn
    obtain ⟨x, hg, h9⟩ := xe_gI h
    clear h
    have h := h9
    clear h9
    obtain ⟨k1, k2⟩ := xm_and hk
    obtain ⟨k29, k3⟩ := xm_and k2
    clear k2
    have k2 := k29
    clear k29
    have hi : i = a := xm_dc k1
    subst hi
    exact xs_iinc hx hb hd (xm_dc k2) hg (xm_dc k3) (xs_drop D1 h)
  | iadd =>
    have hn : nx = pc + 1 := hn
    subst hn
    obtain ⟨y, S, rfl, h9⟩ := xe_pI h
    clear h
    have h := h9
    clear h9
    obtain ⟨x, S, rfl, h9⟩ := xe_pI h
    clear h
    have h := h9
    clear h9
    exact xs_iadd hx hb hd (xs_drop D1 h)
  | isub =>
    have hn : nx = pc + 1 := hn
    subst hn
    obtain ⟨y, S, rfl, h9⟩ := xe_pI h
    clear h
    have h := h9
    clear h9
    obtain ⟨x, S, rfl, h9⟩ := xe_pI h
    clear h
    have h := h9
    clear h9
    exact xs_isub hx hb hd (xs_drop D1 h)
  | imul =>
    have hn : nx = pc + 1 := hn
    subst hn
    obtain ⟨y, S, rfl, h9⟩ := xe_pI h
    clear h
    have h := h9
    clear h9
    obtain ⟨x, S, rfl, h9⟩ := xe_pI h
    clear h
    have h := h9
    clear h9
    exact xs_imul hx hb hd (xs_drop D1 h)
  | iand =>
    have hn : nx = pc + 1 := hn
    subst hn
    obtain ⟨y, S, rfl, h9⟩ := xe_pI h
    clear h
    have h := h9
    clear h9
    obtain ⟨x, S, rfl, h9⟩ := xe_pI h
    clear h
    have h := h9
    clear h9
    exact xs_iand hx hb hd (xs_drop D1 h)
  | ior =>
    have hn : nx = pc + 1 := hn
    subst hn
    obtain ⟨y, S, rfl, h9⟩ := xe_pI h
    clear h
    have h := h9
    clear h9
    obtain ⟨x, S, rfl, h9⟩ := xe_pI h
    clear h
    have h := h9
    clear h9
    exact xs_ior hx hb hd (xs_drop D1 h)
  | ixor =>
    have hn : nx = pc + 1 := hn
    subst hn
    obtain ⟨y, S, rfl, h9⟩ := xe_pI h
    clear h
    have h := h9
    clear h9
    obtain ⟨x, S, rfl, h9⟩ := xe_pI h
    clear h
    have h := h9
    clear h9
    exact xs_ixor hx hb hd (xs_drop D1 h)
  | ishl =>
    have hn : nx = pc + 1 := hn
    subst hn
    obtain ⟨y, S, rfl, h9⟩ := xe_pI h
    clear h
    have h := h9
    clear h9
    obtain ⟨x, S, rfl, h9⟩ := xe_pI h
    clear h
    have h := h9
    clear h9
    exact xs_ishl hx hb hd (xs_drop D1 h)
  | ishr =>
    have hn : nx = pc + 1 := hn
    subst hn
    obtain ⟨y, S, rfl, h9⟩ := xe_pI h
    clear h
    have h := h9
    clear h9
    obtain ⟨x, S, rfl, h9⟩ := xe_pI h
    clear h
    have h := h9
    clear h9
    exact xs_ishr hx hb hd (xs_drop D1 h)
  | iushr =>
    have hn : nx = pc + 1 := hn
    subst hn
    obtain ⟨y, S, rfl, h9⟩ := xe_pI h
    clear h
    have h := h9
    clear h9
    obtain ⟨x, S, rfl, h9⟩ := xe_pI h
    clear h
    have h := h9
    clear h9
    exact xs_iushr hx hb hd (xs_drop D1 h)
  | ladd =>
    have hn : nx = pc + 1 := hn
    subst hn
    obtain ⟨y, S, rfl, h9⟩ := xe_pL h
    clear h
    have h := h9
    clear h9
    obtain ⟨x, S, rfl, h9⟩ := xe_pL h
    clear h
    have h := h9
    clear h9
    exact xs_ladd hx hb hd (xs_drop D1 h)
  | lsub =>
    have hn : nx = pc + 1 := hn
    subst hn
    obtain ⟨y, S, rfl, h9⟩ := xe_pL h
    clear h
    have h := h9
    clear h9
    obtain ⟨x, S, rfl, h9⟩ := xe_pL h
    clear h
    have h := h9
    clear h9
    exact xs_lsub hx hb hd (xs_drop D1 h)
  | lmul =>
    have hn : nx = pc + 1 := hn
    subst hn
    obtain ⟨y, S, rfl, h9⟩ := xe_pL h
    clear h
    have h := h9
    clear h9
    obtain ⟨x, S, rfl, h9⟩ := xe_pL h
    clear h
    have h := h9
    clear h9
    exact xs_lmul hx hb hd (xs_drop D1 h)
  | land =>
    have hn : nx = pc + 1 := hn
    subst hn
    obtain ⟨y, S, rfl, h9⟩ := xe_pL h
    clear h
    have h := h9
    clear h9
    obtain ⟨x, S, rfl, h9⟩ := xe_pL h
    clear h
    have h := h9
    clear h9
    exact xs_land hx hb hd (xs_drop D1 h)
  | lor =>
    have hn : nx = pc + 1 := hn
    subst hn
    obtain ⟨y, S, rfl, h9⟩ := xe_pL h
    clear h
    have h := h9
    clear h9
    obtain ⟨x, S, rfl, h9⟩ := xe_pL h
    clear h
    have h := h9
    clear h9
    exact xs_lor hx hb hd (xs_drop D1 h)
  | lxor =>
    have hn : nx = pc + 1 := hn
    subst hn
    obtain ⟨y, S, rfl, h9⟩ := xe_pL h
    clear h
    have h := h9
    clear h9
    obtain ⟨x, S, rfl, h9⟩ := xe_pL h
    clear h
    have h := h9
    clear h9
    exact xs_lxor hx hb hd (xs_drop D1 h)
  | lcmp =>
    have hn : nx = pc + 1 := hn
    subst hn
    obtain ⟨y, S, rfl, h9⟩ := xe_pL h
    clear h
    have h := h9
    clear h9
    obtain ⟨x, S, rfl, h9⟩ := xe_pL h
    clear h
    have h := h9
    clear h9
    exact xs_lcmp hx hb hd (xs_drop D1 h)
  | lshl =>
    have hn : nx = pc + 1 := hn
    subst hn
    obtain ⟨y, S, rfl, h9⟩ := xe_pI h
    clear h
    have h := h9
    clear h9
    obtain ⟨x, S, rfl, h9⟩ := xe_pL h
    clear h
    have h := h9
    clear h9
    exact xs_lshl hx hb hd (xs_drop D1 h)
  | lshr =>
    have hn : nx = pc + 1 := hn
    subst hn
    obtain ⟨y, S, rfl, h9⟩ := xe_pI h
    clear h
    have h := h9
    clear h9
    obtain ⟨x, S, rfl, h9⟩ := xe_pL h
    clear h
    have h := h9
    clear h9
    exact xs_lshr hx hb hd (xs_drop D1 h)
  | lushr =>
    have hn : nx = pc + 1 := hn
    subst hn
    obtain ⟨y, S, rfl, h9⟩ := xe_pI h
    clear h
    have h := h9
    clear h9
    obtain ⟨x, S, rfl, h9⟩ := xe_pL h
    clear h
    have h := h9
    clear h9
    exact xs_lushr hx hb hd (xs_drop D1 h)
  | i2l =>
    have hn : nx = pc + 1 := hn
    subst hn
    obtain ⟨x, S, rfl, h9⟩ := xe_pI h
    clear h
    have h := h9
    clear h9
    exact xs_i2l hx hb hd (xs_drop D1 h)
  | l2i =>
    have hn : nx = pc + 1 := hn
    subst hn
    obtain ⟨x, S, rfl, h9⟩ := xe_pL h
    clear h
    have h := h9
    clear h9
    exact xs_l2i hx hb hd (xs_drop D1 h)
  | dup =>
    have hn : nx = pc + 1 := hn
    subst hn
    match S, h with
    | .int x :: S, h => exact xs_dup (v := .int x) hx hb hd rfl (xs_drop D1 h)
    | .ref x :: S, h => exact xs_dup (v := .ref x) hx hb hd rfl (xs_drop D1 h)
    | [], h => exact False.elim h
    | .long _ :: _, h => exact False.elim h
    | .float _ :: _, h => exact False.elim h
    | .double _ :: _, h => exact False.elim h
    | .null :: _, h => exact False.elim h
    | .retAddr _ :: _, h => exact False.elim h
  | pop =>
    have hn : nx = pc + 1 := hn
    subst hn
    match S, h with
    | .int x :: S, h => exact xs_pop (v := .int x) hx hb hd rfl (xs_drop D1 h)
    | .ref x :: S, h => exact xs_pop (v := .ref x) hx hb hd rfl (xs_drop D1 h)
    | [], h => exact False.elim h
    | .long _ :: _, h => exact False.elim h
    | .float _ :: _, h => exact False.elim h
    | .double _ :: _, h => exact False.elim h
    | .null :: _, h => exact False.elim h
    | .retAddr _ :: _, h => exact False.elim h
  | dup2 =>
    have hn : nx = pc + 1 := hn
    subst hn
    obtain ⟨y, S, rfl, h9⟩ := xe_pI h
    clear h
    have h := h9
    clear h9
    obtain ⟨x, S, rfl, h9⟩ := xe_pR h
    clear h
    have h := h9
    clear h9
    exact xs_dup2 (v := .int y) (w := .ref x) hx hb hd rfl rfl (xs_drop D1 h)
  | goto off =>
    have hn : nx = pc + 3 := hn
    subst hn
    exact xs_goto hx hb hd (xm_dc hk) (xs_drop D1 h)
  | ifCond q off =>
    have hn : nx = pc + 3 := hn
    subst hn
    obtain ⟨x, S, rfl, h9⟩ := xe_pI h
    clear h
    have h := h9
    clear h9
    match q, hd, h with
    | .eq, hd, h => exact xs_if_eq hx hb hd (xm_dc hk) (fun z => xs_drop D2 (h.1 z)) (fun z => xs_drop D1 (h.2 z))
    | .ne, hd, h => exact xs_if_ne hx hb hd (xm_dc hk) (fun z => xs_drop D2 (h.2 z)) (fun z => xs_drop D1 (h.1 z))
    | .lt, hd, h => exact xs_if_lt hx hb hd (xm_dc hk) (fun z => xs_drop D2 (h.1 z)) (fun z => xs_drop D1 (h.2 z))
    | .ge, hd, h => exact xs_if_ge hx hb hd (xm_dc hk) (fun z => xs_drop D2 (h.1 z)) (fun z => xs_drop D1 (h.2 z))
    | .gt, hd, h => exact xs_if_gt hx hb hd (xm_dc hk) (fun z => xs_drop D2 (h.1 z)) (fun z => xs_drop D1 (h.2 z))
    | .le, hd, h => exact xs_if_le hx hb hd (xm_dc hk) (fun z => xs_drop D2 (h.1 z)) (fun z => xs_drop D1 (h.2 z))
  | if_icmp q off =>
    have hn : nx = pc + 3 := hn
    subst hn
    obtain ⟨y, S, rfl, h9⟩ := xe_pI h
    clear h
    have h := h9
    clear h9
    obtain ⟨x, S, rfl, h9⟩ := xe_pI h
    clear h
    have h := h9
    clear h9
    match q, hd, h with
    | .eq, hd, h => exact xs_icmp_eq hx hb hd (xm_dc hk) (fun z => xs_drop D2 (h.1 z)) (fun z => xs_drop D1 (h.2 z))
    | .ne, hd, h => exact xs_icmp_ne hx hb hd (xm_dc hk) (fun z => xs_drop D2 (h.2 z)) (fun z => xs_drop D1 (h.1 z))
    | .lt, hd, h => exact xs_icmp_lt hx hb hd (xm_dc hk) (fun z => xs_drop D2 (h.1 z)) (fun z => xs_drop D1 (h.2 z))
    | .ge, hd, h => exact xs_icmp_ge hx hb hd (xm_dc hk) (fun z => xs_drop D2 (h.1 z)) (fun z => xs_drop D1 (h.2 z))
    | .gt, hd, h => exact xs_icmp_gt hx hb hd (xm_dc hk) (fun z => xs_drop D2 (h.1 z)) (fun z => xs_drop D1 (h.2 z))
    | .le, hd, h => exact xs_icmp_le hx hb hd (xm_dc hk) (fun z => xs_drop D2 (h.1 z)) (fun z => xs_drop D1 (h.2 z))
  | tableswitch df lo hi offs =>
    obtain ⟨x, S, rfl, h⟩ := xe_pI h
    obtain ⟨k1, k2⟩ := xm_and hk
    exact xs_tsw hx hb hd k1 (xm_dc k2) h
  | getfield ix =>
    have hn : nx = pc + 3 := hn
    subst hn
    obtain ⟨k, S, rfl, h9⟩ := xe_pR h
    clear h
    have h := h9
    clear h9
    obtain ⟨k1, k2⟩ := xm_and hk
    have hkd : (J.1 a)[b']? = some c' := xm_dc k1
    have hor : (V.2.2.2.2.1 mm, ix, a, b') ∈ K.1 ∨ (V.2.2.2.2.1 mm, ix, a, b') ∈ K.2.1 := (xm_or k2).imp xm_dc xm_dc
    match d, h with
    | 0, g =>
      obtain ⟨ci, hsh, g9⟩ := xe_sh g
      clear g
      have g := g9
      clear g9
      obtain ⟨hq, g9⟩ := xe_if g
      clear g
      have g := g9
      clear g9
      replace hq : ci = a := Nat.eq_of_beq_eq_true hq
      subst hq
      match c', hkd, g with
      | 0, hkd, g => exact xc_get (v := .int (M.2.1 k b')) hF hL hG hkd hor hsh rfl hd (xs_drop D1 g)
      | 1, hkd, g => exact xc_get (v := .long (M.2.2.1 k b')) hF hL hG hkd hor hsh rfl hd (xs_drop D1 g)
      | 2, hkd, g =>
        obtain ⟨q, hq, g9⟩ := xe_rv g
        clear g
        have g := g9
        clear g9
        exact xc_get (v := .ref q) hF hL hG hkd hor hsh (by show va_rf (xm_q b (M.2.2.2 k b')) = _; rw [hq]; rfl) hd (xs_drop D1 g)
      | n + 3, hkd, g => exact xc_get (v := .int (M.2.1 k b')) hF hL hG hkd hor hsh rfl hd (xs_drop D1 g)
    | d + 1, h =>
      match c', hkd, h with
      | 0, hkd, h => exact xc_get (v := .int (M.2.1 k b')) hF hL hG hkd hor h.1 rfl hd (xs_drop D1 h.2)
      | 1, hkd, h => exact xc_get (v := .long (M.2.2.1 k b')) hF hL hG hkd hor h.1 rfl hd (xs_drop D1 h.2)
      | 2, hkd, h => exact False.elim h
      | n + 3, hkd, h => exact xc_get (v := .int (M.2.1 k b')) hF hL hG hkd hor h.1 rfl hd (xs_drop D1 h.2)
  | putfield ix =>
    have hn : nx = pc + 3 := hn
    subst hn
    obtain ⟨k1, k2⟩ := xm_and hk
    have hkd : (J.1 a)[b']? = some c' := xm_dc k1
    have hor : ((V.2.2.2.2.1 mm, ix, a, b') ∈ K.1 ∧ (J.2.1 a b' = false ∨ (V.2.2.2.2.2.2 mm = 2 ∧ V.2.2.2.2.1 mm = a))) ∨ ((V.2.2.2.2.1 mm, ix, a, b') ∈ K.2.1 ∧ J.2.1 a b' = false) := by
      rcases xm_or k2 with z | z
      · obtain ⟨z1, z2⟩ := xm_and z
        refine Or.inl ⟨xm_dc z1, ?_⟩
        rcases xm_or z2 with y | y
        · exact Or.inl (by simpa using y)
        · obtain ⟨y1, y2⟩ := xm_and y
          exact Or.inr ⟨xm_dc y1, xm_dc y2⟩
      · obtain ⟨z1, z2⟩ := xm_and z
        exact Or.inr ⟨xm_dc z1, by simpa using z2⟩
    match c', hkd, h with
    | 1, hkd, g =>
      obtain ⟨x, S, rfl, g9⟩ := xe_pL g
      clear g
      have g := g9
      clear g9
      obtain ⟨k, S, rfl, g9⟩ := xe_pR g
      clear g
      have g := g9
      clear g9
      match d, g with
      | 0, f =>
        obtain ⟨ci, hsh, f9⟩ := xe_sh f
        clear f
        have f := f9
        clear f9
        obtain ⟨hq, f9⟩ := xe_if f
        clear f
        have f := f9
        clear f9
        replace hq : ci = a := Nat.eq_of_beq_eq_true hq
        subst hq
        exact xc_pL hF hL hG hkd hor hsh hd (xs_drop D1 f)
      | d + 1, f => exact xc_pL hF hL hG hkd hor f.1 hd (xs_drop D1 f.2)
    | 2, hkd, g =>
      obtain ⟨x, S, rfl, g9⟩ := xe_pR g
      clear g
      have g := g9
      clear g9
      obtain ⟨k, S, rfl, g9⟩ := xe_pR g
      clear g
      have g := g9
      clear g9
      obtain ⟨ci, hsh, g9⟩ := xe_sh g
      clear g
      have g := g9
      clear g9
      obtain ⟨hq, g9⟩ := xe_if g
      clear g
      have g := g9
      clear g9
      replace hq : ci = a := Nat.eq_of_beq_eq_true hq
      subst hq
      exact xc_pR hF hL hG hkd hor hsh hd (xs_drop D1 g)
    | 3, hkd, g =>
      obtain ⟨x, S, rfl, g9⟩ := xe_pI g
      clear g
      have g := g9
      clear g9
      obtain ⟨k, S, rfl, g9⟩ := xe_pR g
      clear g
      have g := g9
      clear g9
      obtain ⟨ci, hsh, g9⟩ := xe_sh g
      clear g
      have g := g9
      clear g9
      obtain ⟨hq, g9⟩ := xe_if g
      clear g
      have g := g9
      clear g9
      replace hq : ci = a := Nat.eq_of_beq_eq_true hq
      subst hq
      exact xc_pI hF hL hG (Or.inr ⟨rfl, g.1⟩) hkd hor hsh hd (xs_drop D1 g.2)
    | 0, hkd, g =>
      obtain ⟨x, S, rfl, g9⟩ := xe_pI g
      clear g
      have g := g9
      clear g9
      obtain ⟨k, S, rfl, g9⟩ := xe_pR g
      clear g
      have g := g9
      clear g9
      match d, g with
      | 0, f =>
        obtain ⟨ci, hsh, f9⟩ := xe_sh f
        clear f
        have f := f9
        clear f9
        obtain ⟨hq, f9⟩ := xe_if f
        clear f
        have f := f9
        clear f9
        replace hq : ci = a := Nat.eq_of_beq_eq_true hq
        subst hq
        exact xc_pI hF hL hG (Or.inl rfl) hkd hor hsh hd (xs_drop D1 f)
      | d + 1, f => exact xc_pI hF hL hG (Or.inl rfl) hkd hor f.1 hd (xs_drop D1 f.2)
    | n + 4, hkd, h => exact False.elim (hk4 n hkd)
  | iaload =>
    have hn : nx = pc + 1 := hn
    subst hn
    obtain ⟨i, S, rfl, h9⟩ := xe_pI h
    clear h
    have h := h9
    clear h9
    obtain ⟨k, S, rfl, h9⟩ := xe_pR h
    clear h
    have h := h9
    clear h9
    obtain ⟨n, hsh, h9⟩ := xe_sh h
    clear h
    have h := h9
    clear h9
    exact xs_iald hx hb hK hsh h.1 hd (xs_drop D1 h.2)
  | laload =>
    have hn : nx = pc + 1 := hn
    subst hn
    obtain ⟨i, S, rfl, h9⟩ := xe_pI h
    clear h
    have h := h9
    clear h9
    obtain ⟨k, S, rfl, h9⟩ := xe_pR h
    clear h
    have h := h9
    clear h9
    obtain ⟨n, hsh, h9⟩ := xe_sh h
    clear h
    have h := h9
    clear h9
    exact xs_lald hx hb hK hsh h.1 hd (xs_drop D1 h.2)
  | aaload =>
    have hn : nx = pc + 1 := hn
    subst hn
    obtain ⟨i, S, rfl, h9⟩ := xe_pI h
    clear h
    have h := h9
    clear h9
    obtain ⟨k, S, rfl, h9⟩ := xe_pR h
    clear h
    have h := h9
    clear h9
    obtain ⟨n, hsh, h9⟩ := xe_sh h
    clear h
    have h := h9
    clear h9
    obtain ⟨h1, q, hq, h⟩ := h
    exact xs_aald hx hb hK hsh h1 hq hd (xs_drop D1 h)
  | iastore =>
    have hn : nx = pc + 1 := hn
    subst hn
    obtain ⟨x, S, rfl, h9⟩ := xe_pI h
    clear h
    have h := h9
    clear h9
    obtain ⟨i, S, rfl, h9⟩ := xe_pI h
    clear h
    have h := h9
    clear h9
    obtain ⟨k, S, rfl, h9⟩ := xe_pR h
    clear h
    have h := h9
    clear h9
    obtain ⟨n, hsh, h9⟩ := xe_sh h
    clear h
    have h := h9
    clear h9
    exact xs_iast hx hb hK hsh h.1 hd (xs_drop D1 h.2)
  | lastore =>
    have hn : nx = pc + 1 := hn
    subst hn
    obtain ⟨x, S, rfl, h9⟩ := xe_pL h
    clear h
    have h := h9
    clear h9
    obtain ⟨i, S, rfl, h9⟩ := xe_pI h
    clear h
    have h := h9
    clear h9
    obtain ⟨k, S, rfl, h9⟩ := xe_pR h
    clear h
    have h := h9
    clear h9
    obtain ⟨n, hsh, h9⟩ := xe_sh h
    clear h
    have h := h9
    clear h9
    exact xs_last hx hb hK hsh h.1 hd (xs_drop D1 h.2)
  | aastore =>
    have hn : nx = pc + 1 := hn
    subst hn
    obtain ⟨x, S, rfl, h9⟩ := xe_pR h
    clear h
    have h := h9
    clear h9
    obtain ⟨i, S, rfl, h9⟩ := xe_pI h
    clear h
    have h := h9
    clear h9
    obtain ⟨k, S, rfl, h9⟩ := xe_pR h
    clear h
    have h := h9
    clear h9
    obtain ⟨n, hsh, h9⟩ := xe_sh h
    clear h
    have h := h9
    clear h9
    have ha : a = J.2.2.1 := xm_dc hk
    subst ha
    obtain ⟨T, N, hcf⟩ := hcf
    exact xs_aast hx hb hcf hK hsh h.1.1 h.1.2 hd (xs_drop D1 h.2)
  | arraylength =>
    have hn : nx = pc + 1 := hn
    subst hn
    obtain ⟨k, S, rfl, h9⟩ := xe_pR h
    clear h
    have h := h9
    clear h9
    obtain ⟨n, hsh, h9⟩ := xe_sh h
    clear h
    have h := h9
    clear h9
    exact xs_alen hx hb hK hsh hd (xs_drop D1 h)
  | newarray t =>
    have hn : nx = pc + 2 := hn
    subst hn
    obtain ⟨x, S, rfl, h9⟩ := xe_pI h
    clear h
    have h := h9
    clear h9
    obtain ⟨hq, h9⟩ := xe_if h
    clear h
    have h := h9
    clear h9
    obtain ⟨q1, q2⟩ := xm_and hq
    have hxk : x = kI := h.1
    subst hxk
    obtain ⟨k1, k2⟩ := xm_and hk
    obtain ⟨k29, k3⟩ := xm_and k2
    clear k2
    have k2 := k29
    clear k29
    obtain ⟨k39, k4⟩ := xm_and k3
    clear k3
    have k3 := k39
    clear k39
    replace k4 : b' * 8 ≤ 536870912 := xm_dc k4
    rcases xm_or k1 with z | z
    · obtain ⟨z1, z2⟩ := xm_and z
      replace z1 : t = .int := xm_dc z1
      replace z2 : a = 0 := xm_dc z2
      subst z1; subst z2
      exact xs_newI hx hb hK (hmem _ hAI) (xm_dc k3) (xm_dc k2) (by omega) (Nat.le_of_ble_eq_true q1) (Nat.le_of_ble_eq_true q2) hd (xs_drop D1 h.2)
    · obtain ⟨z1, z2⟩ := xm_and z
      replace z1 : t = .long := xm_dc z1
      replace z2 : a = 1 := xm_dc z2
      subst z1; subst z2
      exact xs_newL hx hb hK (hmem _ hAL) (xm_dc k3) (xm_dc k2) (by omega) (Nat.le_of_ble_eq_true q1) (Nat.le_of_ble_eq_true q2) hd (xs_drop D1 h.2)
  | anewarray ix =>
    have hn : nx = pc + 3 := hn
    subst hn
    obtain ⟨x, S, rfl, h9⟩ := xe_pI h
    clear h
    have h := h9
    clear h9
    obtain ⟨hq, h9⟩ := xe_if h
    clear h
    have h := h9
    clear h9
    obtain ⟨q1, q2⟩ := xm_and hq
    have hxk : x = kI := h.1
    subst hxk
    obtain ⟨k1, k2⟩ := xm_and hk
    obtain ⟨k29, k3⟩ := xm_and k2
    clear k2
    have k2 := k29
    clear k29
    obtain ⟨k39, k4⟩ := xm_and k3
    clear k3
    have k3 := k39
    clear k39
    replace k4 : b' * 8 ≤ 536870912 := xm_dc k4
    obtain ⟨C, T, N, hc0, y1, -, -⟩ := hCL _ _ _ (xm_dc k1)
    obtain ⟨T2, N2, hcf⟩ := hcf
    have hC : C = CF := by have := hc0.symm.trans hcf; simp at this; exact this.1
    subst hC
    exact xs_newR hx hb hown (hmem _ y1) hN.2 hK (xm_dc k3) (xm_dc k2) (by omega) (Nat.le_of_ble_eq_true q1) (Nat.le_of_ble_eq_true q2) hd (xs_drop D1 h.2)
  | new ix =>
    have hn : nx = pc + 3 := hn
    subst hn
    obtain ⟨hq, h9⟩ := xe_if h
    clear h
    have h := h9
    clear h9
    obtain ⟨q1, q2⟩ := xm_and hq
    obtain ⟨k1, k2⟩ := xm_and hk
    obtain ⟨C, T, N, hc0, y1, y2, y3⟩ := hCL _ _ _ (xm_dc k1)
    obtain ⟨-, g2, g3, -, g5, -, g7⟩ := hcls _ _ _ _ hc0
    have hN0 : N = b' := g7.symm.trans (xm_dc k2)
    subst hN0
    refine xs_newO hx hb hts (fun w hw => List.mem_cons_of_mem _ (g2 w hw)) (tyf a) g3 hown (hmem _ y1) (hmem _ y2) (hmem _ y3) hK hc0 (fun j hj => ?_) (Nat.le_of_ble_eq_true q1) (Nat.le_of_ble_eq_true q2) hd (xs_drop D1 h)
    obtain ⟨t, f1, f2, -⟩ := g5 j hj
    refine ⟨t, by rw [hG]; exact f1, ?_⟩
    match t, f2 with
    | 0, f2 => rw [show tyf a j = .int from f2]; rfl
    | 1, f2 => rw [show tyf a j = .long from f2]; rfl
    | 2, f2 => rcases f2 with ⟨n, f2⟩ | ⟨z, f2⟩ <;> rw [f2] <;> rfl
    | n + 3, f2 => rw [show tyf a j = .boolean from f2]; rfl
  | invokevirtual ix =>
    have hn : nx = pc + 3 := hn
    subst hn
    obtain ⟨As, S', p1, p2, h9⟩ := xe_pop h
    clear h
    have h := h9
    clear h9
    replace p2 : As.reverse ++ S' = S := p2
    subst p2
    obtain ⟨k, S', rfl, h9⟩ := xe_pR h
    clear h
    have h := h9
    clear h9
    obtain ⟨ci, hsh, h9⟩ := xe_sh h
    clear h
    have h := h9
    clear h9
    obtain ⟨hq, h9⟩ := xe_if h
    clear h
    have h := h9
    clear h9
    obtain ⟨q0, hq9⟩ := xm_and hq
    clear hq
    have hq := hq9
    clear hq9
    replace q0 : ci = c' := Nat.eq_of_beq_eq_true q0
    obtain ⟨q1, hq9⟩ := xm_and hq
    clear hq
    have hq := hq9
    clear hq9
    obtain ⟨q2, q3⟩ := xm_and hq
    obtain ⟨k1, k2⟩ := xm_and hk
    obtain ⟨k29, k3⟩ := xm_and k2
    clear k2
    have k2 := k29
    clear k29
    obtain ⟨k39, k4⟩ := xm_and k3
    clear k3
    have k3 := k39
    clear k39
    obtain ⟨k49, k5⟩ := xm_and k4
    clear k4
    have k4 := k49
    clear k49
    replace k4 : V.2.2.2.2.1 a = c' := xm_dc k4
    obtain ⟨k59, k6⟩ := xm_and k5
    clear k5
    have k5 := k59
    clear k59
    replace hsh : xm_nth M.1 k = some (3, V.2.2.2.2.1 a) := by rw [k4, ← q0]; exact hsh
    have hnp : V.2.2.2.2.2.1 a = b' := xm_dc k3
    have hlen : As.length = V.2.2.2.2.2.1 a := by rw [hnp]; exact p1
    obtain ⟨P0, h1, h2⟩ := h
    refine xs_drop D1 ?_
    exact xc_callV hF hL hG hMW ((xm_or k1).imp xm_dc xm_dc) (xm_dc k2) hlen (xm_dc k5) (xm_dc k6) hsh h1 (Nat.le_of_ble_eq_true q1) (Nat.le_of_ble_eq_true q2) (Nat.le_of_ble_eq_true q3) hd (fun r hr => h2 r hr)
  | invokestatic ix =>
    have hn : nx = pc + 3 := hn
    subst hn
    match d, hk, h with
    | 2, gk, g =>
      obtain ⟨y, S, rfl, g9⟩ := xe_pI g
      clear g
      have g := g9
      clear g9
      obtain ⟨x, S, rfl, g9⟩ := xe_pI g
      clear g
      have g := g9
      clear g9
      obtain ⟨hq, g9⟩ := xe_if g
      clear g
      have g := g9
      clear g9
      obtain ⟨k1, k2⟩ := xm_and gk
      obtain ⟨k29, k3⟩ := xm_and k2
      clear k2
      have k2 := k29
      clear k29
      exact xs_mmax hx hb hml hown (hmem _ (hXL.1 _ _ (xm_dc k1))) (hmem _ hXL.2.1) (hmem _ hXL.2.2.1) (hmem _ hXL.2.2.2) (Nat.le_of_ble_eq_true hq) (xm_dc k2) (xm_dc k3) hd (xs_drop D1 g)
    | 0, gk, g =>
      obtain ⟨As, S', p1, p2, g9⟩ := xe_pop g
      clear g
      have g := g9
      clear g9
      replace p2 : As.reverse ++ S' = S := p2
      subst p2
      obtain ⟨hq, g9⟩ := xe_if g
      clear g
      have g := g9
      clear g9
      obtain ⟨q1, hq9⟩ := xm_and hq
      clear hq
      have hq := hq9
      clear hq9
      obtain ⟨q2, q3⟩ := xm_and hq
      obtain ⟨k1, k2⟩ := xm_and gk
      obtain ⟨k29, k3⟩ := xm_and k2
      clear k2
      have k2 := k29
      clear k29
      obtain ⟨k39, k4⟩ := xm_and k3
      clear k3
      have k3 := k39
      clear k39
      obtain ⟨k5, k6⟩ := xm_and k4
      have hnp : V.2.2.2.2.2.1 a = b' := xm_dc k3
      have hlen : As.length = V.2.2.2.2.2.1 a := by rw [hnp]; exact p1
      obtain ⟨P0, h1, h2⟩ := g
      refine xs_drop D1 ?_
      exact xc_callS hF hL hG hMW ((xm_or k1).imp xm_dc xm_dc) (xm_dc k2) hlen (xm_dc k5) (xm_dc k6) h1 (Nat.le_of_ble_eq_true q1) (Nat.le_of_ble_eq_true q2) (Nat.le_of_ble_eq_true q3) hd (fun r hr => h2 r hr)
    | 1, gk, g =>
      obtain ⟨As, S', p1, p2, g9⟩ := xe_pop g
      clear g
      have g := g9
      clear g9
      replace p2 : As.reverse ++ S' = S := p2
      subst p2
      obtain ⟨hq, g9⟩ := xe_if g
      clear g
      have g := g9
      clear g9
      obtain ⟨q1, hq9⟩ := xm_and hq
      clear hq
      have hq := hq9
      clear hq9
      obtain ⟨q2, q3⟩ := xm_and hq
      obtain ⟨k1, k2⟩ := xm_and gk
      obtain ⟨k29, k3⟩ := xm_and k2
      clear k2
      have k2 := k29
      clear k29
      obtain ⟨k39, k4⟩ := xm_and k3
      clear k3
      have k3 := k39
      clear k39
      obtain ⟨k5, k6⟩ := xm_and k4
      have hnp : V.2.2.2.2.2.1 a = b' := xm_dc k3
      have hlen : As.length = V.2.2.2.2.2.1 a := by rw [hnp]; exact p1
      obtain ⟨P0, h1, h2⟩ := g
      refine xs_drop D1 ?_
      exact xc_callS hF hL hG hMW ((xm_or k1).imp xm_dc xm_dc) (xm_dc k2) hlen (xm_dc k5) (xm_dc k6) h1 (Nat.le_of_ble_eq_true q1) (Nat.le_of_ble_eq_true q2) (Nat.le_of_ble_eq_true q3) hd (fun r hr => h2 r hr)
    | d + 3, gk, g =>
      obtain ⟨As, S', p1, p2, g9⟩ := xe_pop g
      clear g
      have g := g9
      clear g9
      replace p2 : As.reverse ++ S' = S := p2
      subst p2
      obtain ⟨hq, g9⟩ := xe_if g
      clear g
      have g := g9
      clear g9
      obtain ⟨q1, hq9⟩ := xm_and hq
      clear hq
      have hq := hq9
      clear hq9
      obtain ⟨q2, q3⟩ := xm_and hq
      obtain ⟨k1, k2⟩ := xm_and gk
      obtain ⟨k29, k3⟩ := xm_and k2
      clear k2
      have k2 := k29
      clear k29
      obtain ⟨k39, k4⟩ := xm_and k3
      clear k3
      have k3 := k39
      clear k39
      obtain ⟨k5, k6⟩ := xm_and k4
      have hnp : V.2.2.2.2.2.1 a = b' := xm_dc k3
      have hlen : As.length = V.2.2.2.2.2.1 a := by rw [hnp]; exact p1
      obtain ⟨P0, h1, h2⟩ := g
      refine xs_drop D1 ?_
      exact xc_callS hF hL hG hMW ((xm_or k1).imp xm_dc xm_dc) (xm_dc k2) hlen (xm_dc k5) (xm_dc k6) h1 (Nat.le_of_ble_eq_true q1) (Nat.le_of_ble_eq_true q2) (Nat.le_of_ble_eq_true q3) hd (fun r hr => h2 r hr)
  | invokespecial ix =>
    have hn : nx = pc + 3 := hn
    subst hn
    match d, hk, h with
    | 0, gk, g =>
      obtain ⟨k, S, rfl, g9⟩ := xe_pR g
      clear g
      have g := g9
      clear g9
      obtain ⟨hq, g9⟩ := xe_if g
      clear g
      have g := g9
      clear g9
      obtain ⟨k1, k2⟩ := xm_and gk
      obtain ⟨k29, k3⟩ := xm_and k2
      clear k2
      have k2 := k29
      clear k29
      exact xs_objInit hx hb hml hown (hmem _ (hOL.1 _ _ (xm_dc k1))) (hmem _ hOL.2.1) (hmem _ hOL.2.2) (Nat.le_of_ble_eq_true hq) (xm_dc k2) (xm_dc k3) hd (xs_drop D1 g)
    | d + 1, gk, g =>
      obtain ⟨As, S', p1, p2, g9⟩ := xe_pop g
      clear g
      have g := g9
      clear g9
      replace p2 : As.reverse ++ S' = S := p2
      subst p2
      obtain ⟨k, S', rfl, g9⟩ := xe_pR g
      clear g
      have g := g9
      clear g9
      obtain ⟨hq, g9⟩ := xe_if g
      clear g
      have g := g9
      clear g9
      obtain ⟨q1, hq9⟩ := xm_and hq
      clear hq
      have hq := hq9
      clear hq9
      obtain ⟨q2, q3⟩ := xm_and hq
      obtain ⟨k1, k2⟩ := xm_and gk
      obtain ⟨k29, k3⟩ := xm_and k2
      clear k2
      have k2 := k29
      clear k29
      obtain ⟨k39, k4⟩ := xm_and k3
      clear k3
      have k3 := k39
      clear k39
      obtain ⟨k5, k6⟩ := xm_and k4
      have hnp : V.2.2.2.2.2.1 a = b' := xm_dc k3
      have hlen : As.length = V.2.2.2.2.2.1 a := by rw [hnp]; exact p1
      obtain ⟨P0, h1, h2⟩ := g
      refine xs_drop D1 ?_
      exact xc_callI hF hL hG hMW ((xm_or k1).imp xm_dc xm_dc) (xm_dc k2) hlen (xm_dc k5) (xm_dc k6) h1 (Nat.le_of_ble_eq_true q1) (Nat.le_of_ble_eq_true q2) (Nat.le_of_ble_eq_true q3) hd (fun r hr => h2 r hr)
  | ireturn =>
    have hn : nx = pc + 1 := hn
    subst hn
    match S, h with
    | [.int x], h =>
      match d, hk, h with
      | 0, hk, h => exact xs_iret hx hb hlk (hrt.trans (xm_dc hk)) h hd
      | d + 1, hk, h => exact xs_zret hx hb hlk (hrt.trans (xm_dc hk)) (by rcases h.1 with rfl | rfl <;> rfl) h.2 hd
    | [], h => exact False.elim h
    | .long _ :: _, h => exact False.elim h
    | .float _ :: _, h => exact False.elim h
    | .double _ :: _, h => exact False.elim h
    | .null :: _, h => exact False.elim h
    | .ref _ :: _, h => exact False.elim h
    | .retAddr _ :: _, h => exact False.elim h
    | .int _ :: _ :: _, h => exact False.elim h
  | lreturn =>
    have hn : nx = pc + 1 := hn
    subst hn
    match S, h with
    | [.long x], h => exact xs_lret hx hb hlk (hrt.trans (xm_dc hk)) h hd
    | [], h => exact False.elim h
    | .int _ :: _, h => exact False.elim h
    | .float _ :: _, h => exact False.elim h
    | .double _ :: _, h => exact False.elim h
    | .null :: _, h => exact False.elim h
    | .ref _ :: _, h => exact False.elim h
    | .retAddr _ :: _, h => exact False.elim h
    | .long _ :: _ :: _, h => exact False.elim h
  | return_ =>
    have hn : nx = pc + 1 := hn
    subst hn
    match S, h with
    | [], h => exact xs_vret hx hb hlk (hrt.trans (xm_dc hk)) h hd
    | _ :: _, h => exact False.elim h
  | _ => exact False.elim h
theorem xm_sound {l : Launch} {b : Nat} {G : xm_G} {D : va_G} {cl : List vw_C} {CF : String} {Ns : List Cond} {Z : xm_Z} {yy : Nat → MethodName} {nm : Nat → String} {V : xm_V} {K : xm_K} {J : xm_J} {tyf : Nat → Nat → FieldType} {lg : List Cond} (hL : xm_LK yy nm V K J cl tyf lg Ns CF) (hG : G.2.2.2 = J.1) (hMW : ∀ o ix a, ((o, ix, a) ∈ K.2.2.1 ∨ (o, ix, a) ∈ K.2.2.2.1) → xm_MW yy nm V cl lg a) (hk4 : ∀ (ci j n : Nat), (J.1 ci)[j]? = some (n + 4) → False) (hV : Z.2.1 = V.2.2.1)
    (hT : ∀ a pc ee, Z.1 a pc = some ee → xm_chk V K J a pc ee = true ∧ pc < 1000000 ∧ xm_MW yy nm V cl lg a) {a : Nat} {av : List Value} {M : xm_M} {P : xm_R → Prop} (h : xm_Ev Z a av M P) : xm_Met l Z yy V lg Ns CF b G D cl a av M P := by
  refine h (xm_Met l Z yy V lg Ns CF b G D cl) ?_
  clear h
  intro mm av M P hW
  have hsome : ∀ (st : xm_S) (X : xm_S → Prop), xm_F (xm_Met l Z yy V lg Ns CF b G D cl) P X (xm_step Z (Z.1 mm) st) → ∃ ee, Z.1 mm st.1 = some ee ∧ xm_F (xm_Met l Z yy V lg Ns CF b G D cl) P X (xm_ins Z ee st.2.1 st.2.2.1 st.2.2.2.1 st.2.2.2.2.1 st.2.2.2.2.2) := by
    intro st X hF
    obtain ⟨pc, L, S, M, bc, bs⟩ := st
    have hF : xm_F (xm_Met l Z yy V lg Ns CF b G D cl) P X (match Z.1 mm pc with
      | none => xm_bad
      | some e => xm_ins Z e L S M bc bs) := hF
    show ∃ ee, Z.1 mm pc = some ee ∧ xm_F (xm_Met l Z yy V lg Ns CF b G D cl) P X (xm_ins Z ee L S M bc bs)
    cases hz : Z.1 mm pc with
    | none => rw [hz] at hF; exact False.elim hF
    | some ee => rw [hz] at hF; exact ⟨ee, rfl, hF⟩
  -- the first pc stands in the table
  have h0 : ∃ ee, Z.1 mm (xm_st Z mm av M).1 = some ee := by
    have := hW (fun st => ∃ ee, Z.1 mm st.1 = some ee) (fun st hF => by
      obtain ⟨ee, h1, -⟩ := hsome st _ hF
      exact ⟨ee, h1⟩)
    exact this
  obtain ⟨ee, he⟩ := h0
  have hMW0 := (hT _ _ _ he).2.2
  have hcat : xm_cat av ≤ V.2.2.1 mm := by
    have h1 := (hT _ _ _ he).2.1
    refine Nat.le_of_ble_eq_true ?_
    cases hq : Nat.ble (xm_cat av) (V.2.2.1 mm) with
    | true => rfl
    | false =>
      have : (xm_st Z mm av M).1 = 1000000 := by
        unfold xm_st
        rw [hV, hq]
        rfl
      rw [this] at h1
      exact absurd h1 (Nat.lt_irrefl _)
  obtain ⟨w1, w2, w3, w4, w5, w6, w7, w8⟩ := hMW0
  refine Met.ofW (cc := V.1 mm) (maxL := V.2.2.1 mm) (ret := V.2.1 mm) w2 rfl ?_
  intro p e s m args below meth c s₁ B hml hv
  obtain ⟨rfl, hB, hK, hN, hbs⟩ := hv
  have hts := atoms_spec (ws := xm_ws yy V lg mm) B.pre
  have hown : s.vm.findClass (yy mm).cls = some m.cls := findClass_of_methodNamed B.named
  have hFr : xm_Fr p s m (av.map (xm_v b)).toArray meth c yy nm V lg Ns CF b G D cl mm := ⟨⟨B.exec, B.bytes, hml, by rw [w1]; exact hown, hts⟩, hK, hN, hbs, B.notSynchronized, B.returns, fun hsk => by
    rw [← (w8 hsk).1]
    exact (name_of_methodNamed B.named B.method).1⟩
  have main := hW (xm_X p l e (xm_rm Z V mm) s m (av.map (xm_v b)).toArray below meth c (MQ below (xm_Qc b G D cl P) (av.map (xm_v b)).toArray s (Z.2.2 mm).1 (Z.2.2 mm).2 (fun q => b ≤ q)) b G D cl (V.2.2.1 mm)) (fun st hF => by
    obtain ⟨⟨ins, nx, tg, D1, D2, ⟨a, b', c', d⟩, kI, kL, sw⟩, h1, h2⟩ := hsome st _ hF
    obtain ⟨pc, L, S, M, bc, bs⟩ := st
    exact xm_close hFr hL hG hMW hk4 (hT _ _ _ h1).1 h2)
  have hpc : (xm_st Z mm av M).1 = 0 := by
    unfold xm_st
    rw [hV, show Nat.ble (xm_cat av) (V.2.2.1 mm) = true from Nat.ble_eq_true_of_le hcat]
    rfl
  rw [lg_entry_eq]
  have := main s.heap [] 0 0 _ hB.1 hB.2 va_S.rf (Nat.zero_add _) (Nat.zero_add _) (by
    show lv_has _ (V.2.2.1 mm) (xm_l b 0 (xm_pad (Z.2.1 mm) (xm_ea av)))
    rw [hV]
    exact xm_enter hcat)
  rw [hpc] at this
  exact this
