/-- what stays known of the tables beside the classes: links between nest mates, arrays of an object's class -/
def xm_isN (w : Cond) : Bool := match w with
  | .fieldLinkNest _ _ _ _ _ _ => true
  | .methodLinkNest _ _ _ _ => true
  | _ => false
def xm_N (Ns : List Cond) (CF : String) (U : State) : Prop := (∀ w ∈ Ns, va_Nw w U) ∧ va_AO CF U
theorem xm_N.warm {Ns : List Cond} {CF : String} (hNs : ∀ w ∈ Ns, xm_isN w = true) {s U : State} (hW : s.WarmedH U.vm) (h : xm_N Ns CF s) : xm_N Ns CF U := by
  refine ⟨fun w hw => ?_, h.2.moved hW.alike⟩
  have h1 := h.1 w hw
  have h2 := hNs w hw
  cases w <;> first | exact va_Nw.warmF hW h1 | exact va_Nw.warmM hW h1 | cases h2
theorem xm_N.same {Ns : List Cond} {CF : String} (hNs : ∀ w ∈ Ns, xm_isN w = true) {s U : State} (hW : s.vm = U.vm) (h : xm_N Ns CF s) : xm_N Ns CF U := by
  refine ⟨fun w hw => ?_, h.2.moved (by rw [hW]; exact Vm.Alike.refl U.vm)⟩
  have h1 := h.1 w hw
  have h2 := hNs w hw
  refine va_Nw.same ?_ hW h1
  cases w <;> first | rfl | cases h2
def xm_B (b : Nat) (G : xm_G) (D : va_G) (cl : List vw_C) (M : xm_M) (t : State) : Prop := va_P D cl (xm_w b G M) t.heap ∧ t.heap.size = b + M.1.length
def xm_Qc (b : Nat) (G : xm_G) (D : va_G) (cl : List vw_C) (P : xm_R → Prop) : Array Value → State → Outcome → State → Prop := fun _ st oc t => (∃ r : xm_R, P r ∧ oc = .returned (r.1.map (xm_v b)) ∧ xm_B b G D cl r.2 t) ∧ va_F (fun q => b ≤ q) st t
def xm_Pc (b : Nat) (G : xm_G) (D : va_G) (cl : List vw_C) (tys : List (ClassId × FieldType)) (Ns : List Cond) (CF : String) (av : List Value) (M : xm_M) : Array Value → State → Prop := va_Pc (av.map (xm_v b)) (fun U => xm_B b G D cl M U ∧ va_K D cl tys U ∧ xm_N Ns CF U ∧ b ≤ U.heap.size)
theorem xm_blind {b : Nat} {G : xm_G} {D : va_G} {cl : List vw_C} {tys : List (ClassId × FieldType)} {Ns : List Cond} {CF : String} (hNs : ∀ w ∈ Ns, xm_isN w = true) {av : List Value} {M : xm_M} : FrameBlind (xm_Pc b G D cl tys Ns CF av M) :=
  fun a U g mk q => ⟨q.1, q.2.1, va_K.moved (u := U) (U := U.calling g mk a) (Vm.Alike.refl U.vm) q.2.2.1, xm_N.same (s := U) (U := U.calling g mk a) hNs rfl q.2.2.2.1, q.2.2.2.2⟩
section XC
variable {p : Program} {l : Launch} {e : Env} {R : Room} {s : State} {m : MethodId} {args : Array Value} {below : List Frame} {meth : Method} {c : Code} {Q : State → Prop}
variable {b : Nat} {G : xm_G} {D : va_G} {cl : List vw_C} {nL : Nat} {cc : ByteArray} {pc : Nat} {L : xm_L} {S : List Value} {M : xm_M} {bc bs : Nat} {tys : List (ClassId × FieldType)} {CF : String} {Ns : List Cond}
theorem xs_newL (hx : p.tables.exec = Jvm.exec) (hb : c.code = cc) (hK : va_K D cl [(G.1, .int), (G.2.1, .long), (G.2.2.1, .object CF)] s) (harr : (Cond.arrayClass .long).before args s = true) {N : Nat} {n : Int32} (hn : ¬ n < 0) (hN : n.toNatClampNeg = N) (hbytes : N * 8 ≤ 536870912) (h1c : 1 ≤ bc) (h1s : N ≤ bs) (hd : decode cc pc = .ok (.newarray .long, 2)) (kk : xm_X p l e R s m args below meth c Q b G D cl nL (pc + 2, L, .ref M.1.length :: S, (M.1 ++ [(1, N)], xm_row M.2.1 M.1.length 0, xm_row M.2.2.1 M.1.length 0, M.2.2.2), bc - 1, bs - N)) : xm_X p l e R s m args below meth c Q b G D cl nL (pc, L, .int n :: S, M, bc, bs) := by
  intro H locs cells slots ls hP hz hS hc hs hl
  have hz : H.size = b + M.1.length := hz
  have hc : cells + bc = R.cells := hc
  have hs : slots + bs = R.slots := hs
  refine va_newaK (cc := cc) hx hb (atype := .long) harr rfl hd rfl hn hN hbytes (by omega) (by omega) rfl fun H1 cA e1 z1 o1 hAr hNm => ?_
  have hcA : cA = G.2.1 := Option.some.inj (hNm.symm.trans (hK.2 1 _ rfl).2)
  subst hcA
  have hP1 : va_P D cl (xm_w b G (M.1 ++ [(1, N)], xm_row M.2.1 M.1.length 0, xm_row M.2.2.1 M.1.length 0, M.2.2.2)) H1 := by
    refine xs_grow hP hz rfl (fun i sh' hi => xm_e_same (xm_row_ne (by omega)) (xm_row_ne (by omega)) rfl) ?_ o1
    show H1[H.size]? = some (vp_cell G.2.1 (N, .inr (.inl (xm_row M.2.2.1 M.1.length 0 M.1.length))))
    rw [e1, xm_row_self]
    rfl
  have := kk H1 locs (cells + 1) (slots + N) ls hP1 (by rw [z1, hz]; simp; omega) ⟨Nat.le_trans hS.1 (by omega), fun x h1 h2 => (o1 x (Nat.lt_of_lt_of_le h1 hS.1)).trans (hS.2.1 x h1 h2), hS.2.2⟩ (by show cells + 1 + (bc - 1) = R.cells; omega) (by show slots + N + (bs - N) = R.slots; omega) hl
  rw [hz]
  exact this
theorem xs_newR (hx : p.tables.exec = Jvm.exec) (hb : c.code = cc) {own : String} {ix : Nat} (hown : s.vm.findClass own = some m.cls) (hclink : (Cond.classLink own ix CF).before args s = true) (hover : va_AO CF s) (hK : va_K D cl [(G.1, .int), (G.2.1, .long), (G.2.2.1, .object CF)] s) {N : Nat} {n : Int32} (hn : ¬ n < 0) (hN : n.toNatClampNeg = N) (hbytes : N * 4 ≤ 536870912) (h1c : 1 ≤ bc) (h1s : N ≤ bs) (hd : decode cc pc = .ok (.anewarray ix, 3)) (kk : xm_X p l e R s m args below meth c Q b G D cl nL (pc + 3, L, .ref M.1.length :: S, (M.1 ++ [(2, N)], M.2.1, M.2.2.1, xm_row M.2.2.2 M.1.length 0), bc - 1, bs - N)) : xm_X p l e R s m args below meth c Q b G D cl nL (pc, L, .int n :: S, M, bc, bs) := by
  intro H locs cells slots ls hP hz hS hc hs hl
  have hz : H.size = b + M.1.length := hz
  have hc : cells + bc = R.cells := hc
  have hs : slots + bs = R.slots := hs
  subst hN
  refine W.anew hx hb hown hclink (va_AO.use hover) rfl hd rfl hn hbytes (by omega) (by omega) fun cA kA comp f1 f2 f3 f4 => ?_
  have hcA : cA = G.2.2.1 := by
    obtain ⟨_, _, _, _, _, g4⟩ := (hK.2 2 _ rfl).2
    exact Option.some.inj (f1.symm.trans g4)
  subst hcA
  generalize hH1 : H.push ({ cls := G.2.2.1, slots := Array.replicate n.toNatClampNeg .null, vm := .none } : Cell) = H1
  have z1 : H1.size = H.size + 1 := by rw [← hH1, Array.size_push]
  have e1 : H1[H.size]? = some (arrV G.2.2.1 n.toNatClampNeg (fun _ => .null)) := by rw [← hH1, Array.getElem?_push_size, ← arrV_new]
  have o1 : ∀ q : Nat, q < H.size → H1[q]? = H[q]? := fun q hq => by rw [← hH1, Array.getElem?_push, if_neg (Nat.ne_of_lt hq)]
  have hP1 : va_P D cl (xm_w b G (M.1 ++ [(2, n.toNatClampNeg)], M.2.1, M.2.2.1, xm_row M.2.2.2 M.1.length 0)) H1 := by
    refine xs_grow hP hz rfl (fun i sh' hi => xm_e_same rfl rfl (xm_row_ne (by omega))) ?_ o1
    show H1[H.size]? = some (vp_cell G.2.2.1 (n.toNatClampNeg, .inr (.inr (.inr (.inr (fun j => xm_q b (xm_row M.2.2.2 M.1.length 0 M.1.length j)))))))
    rw [e1, xm_row_self]
    rfl
  have := kk H1 locs (cells + 1) (slots + n.toNatClampNeg) ls hP1 (by rw [z1, hz]; simp; omega) ⟨Nat.le_trans hS.1 (by omega), fun x h1 h2 => (o1 x (Nat.lt_of_lt_of_le h1 hS.1)).trans (hS.2.1 x h1 h2), hS.2.2⟩ (by show cells + 1 + (bc - 1) = R.cells; omega) (by show slots + n.toNatClampNeg + (bs - n.toNatClampNeg) = R.slots; omega) hl
  rw [hz]
  exact this
def xm_zero (t : Nat) : Value := match t with
  | 1 => .long 0
  | 2 => .null
  | _ => .int 0
theorem xs_newO {c0 : Code} (hx : p.tables.exec = Jvm.exec) (hb : c0.code = cc) {own C : String} {T : u_T} {N ci ix : Nat} {Ts : List Cond} (hts : ∀ w ∈ Ts, w.before args s = true) (hin : ∀ w ∈ u_ws C T N, w ∈ Ts) (ty : Nat → FieldType) (hty : ∀ k, k < N → parseFieldDescriptor (T k).2.2.1 = some (ty k)) (hown : s.vm.findClass own = some m.cls) (hcl : (Cond.classLink own ix C).before args s = true) (hinst : (Cond.instantiable C N).before args s = true) (hini : (Cond.initialized C).before args s = true) (hK : va_K D cl tys s) (hc0 : cl[ci]? = some (C, T, N)) (hkd : ∀ j, j < N → ∃ t, (G.2.2.2 ci)[j]? = some t ∧ defaultValue (ty j) = xm_zero t) (h1c : 1 ≤ bc) (h1s : N ≤ bs) (hd : decode cc pc = .ok (.new ix, 3)) (kk : xm_X p l e R s m args below meth c0 Q b G D cl nL (pc + 3, L, .ref M.1.length :: S, (M.1 ++ [(3, ci)], xm_row M.2.1 M.1.length 0, xm_row M.2.2.1 M.1.length 0, xm_row M.2.2.2 M.1.length 0), bc - 1, bs - N)) : xm_X p l e R s m args below meth c0 Q b G D cl nL (pc, L, S, M, bc, bs) := by
  intro H locs cells slots ls hP hz hS hc hs hl
  have hz : H.size = b + M.1.length := hz
  have hc : cells + bc = R.cells := hc
  have hs : slots + bs = R.slots := hs
  have hKn := hK.1 ci _ hc0
  refine W.newcK hx hb hown hcl hinst hini rfl hd (by omega) (by omega) hKn.2.1 rfl fun H1 kC hkC e1 z1 o1 => ?_
  have hP1 : va_P D cl (xm_w b G (M.1 ++ [(3, ci)], xm_row M.2.1 M.1.length 0, xm_row M.2.2.1 M.1.length 0, xm_row M.2.2.2 M.1.length 0)) H1 := by
    refine xs_grow hP hz rfl (fun i sh' hi => xm_e_same (xm_row_ne (by omega)) (xm_row_ne (by omega)) (xm_row_ne (by omega))) ?_ o1
    refine ⟨_, hc0, (u_born ty hts hin hKn hkC e1 hty).to (fun j hj => ?_)⟩
    obtain ⟨t, h1, h2⟩ := hkd j hj
    rw [h2]
    show xm_zero t = ((G.2.2.2 ci).mapIdx (fun j t => xm_fv b (M.1 ++ [(3, ci)], xm_row M.2.1 M.1.length 0, xm_row M.2.2.1 M.1.length 0, xm_row M.2.2.2 M.1.length 0) M.1.length j t)).getD j .null
    rw [List.getD_eq_getElem?_getD, List.getElem?_mapIdx, h1]
    simp only [Option.map_some, Option.getD_some]
    unfold xm_fv xm_zero
    simp only [xm_row_self]
    rcases t with _ | _ | _ | t <;> rfl
  have := kk H1 locs (cells + 1) (slots + N) ls hP1 (by rw [z1, hz]; simp; omega) ⟨Nat.le_trans hS.1 (by omega), fun x h1 h2 => (o1 x (Nat.lt_of_lt_of_le h1 hS.1)).trans (hS.2.1 x h1 h2), hS.2.2⟩ (by show cells + 1 + (bc - 1) = R.cells; omega) (by show slots + N + (bs - N) = R.slots; omega) hl
  rw [hz]
  exact this
theorem xm_cl {H : Heap} {locs : List Loc} {cells slots mc ms : Nat} {ls : Array Slot} {rest st0 : List Value} {a : Array Value} {P : xm_R → Prop} (hr : va_Run p l e R s m args below meth c H locs cells slots mc ms (F0 m pc ls st0) rest (xm_Qc b G D cl P a) (fun q => b ≤ q)) (hS : va_S (fun q => b ≤ q) s.heap H locs)
    (kk : ∀ (r : xm_R) (H1 : Heap) (locs1 : List Loc), P r → va_P D cl (xm_w b G r.2) H1 → H1.size = b + r.2.1.length → va_S (fun q => b ≤ q) s.heap H1 locs1 → W p l e R s m args below meth c H1 locs1 (cells + mc) (slots + ms) Q (F0 m (pc + 3) ls ((r.1.map (xm_v b)).toList ++ rest))) : W p l e R s m args below meth c H locs cells slots Q (F0 m pc ls st0) := by
  intro T hT X
  obtain ⟨v, st₀, t, T', L, h0, X', hL, e1, e2, ⟨⟨r, hp, hv, hb1, hb2⟩, hz, hk⟩, st⟩ := hr T hT X
  cases hv
  rw [h0] at hz hk
  obtain ⟨t2, a1, b1⟩ := kk r T'.heap (locs ++ L) hp (by rw [e1]; exact hb1) (by rw [e1]; exact hb2)
    ⟨Nat.le_trans hS.1 (by rw [e1]; exact hz), fun q h1 h2 => by rw [e1, hk q (Nat.lt_of_lt_of_le h1 hS.1) h2]; exact hS.2.1 q h1 h2, fun q hq => by
      rcases List.mem_append.mp hq with h | h
      · exact hS.2.2 q h
      · exact hL q h⟩ T' rfl X'
  exact ⟨t2, st t2 a1, b1⟩
theorem xs_callV {own C : String} {Ts : List Cond} {y : MethodName} {bytes : ByteArray} {maxL mc ms n ix  k ci N : Nat} {ret : Option FieldType} {T : u_T} {ws : List Cond} {rm : Room} {As : List Value} {P0 : xm_R → Prop} (S0 : CallFix p m c cc nL s args Ts own) (hNs : ∀ w ∈ Ns, xm_isN w = true) (hN : xm_N Ns CF s) (hK : va_K D cl tys s) (hbs : b ≤ s.heap.size) (hM : Met l y ws rm (xm_Pc b G D cl tys Ns CF (.ref k :: As) M) (xm_Qc b G D cl P0) mc ms (fun q => b ≤ q)) (cw : CallW R s args own C ix y bytes maxL ret ws rm mc ms n) (hc0 : cl[ci]? = some (C, T, N)) (hk : xm_nth M.1 k = some (3, ci)) (hn : As.length = n) (hcat : xm_cat S ≤ 8) (h1c : mc ≤ bc) (h1s : ms ≤ bs) (hd : decode cc pc = .ok (.invokevirtual ix, 3)) (kk : ∀ r, P0 r → xm_X p l e R s m args below meth c Q b G D cl nL (xm_bk (pc + 3) L S (bc - mc) (bs - ms) r)) : xm_X p l e R s m args below meth c Q b G D cl nL (pc, L, As.reverse ++ .ref k :: S, M, bc, bs) := by
  intro H locs cells slots ls hP hz hS hc hs hl
  have hz : H.size = b + M.1.length := hz
  have hc : cells + bc = R.cells := hc
  have hs : slots + bs = R.slots := hs
  have hP : va_P D cl (xm_w b G M) H := hP
  refine xm_cl (rest := S.map (xm_v b)) (va_runV (As := As.map (xm_v b)) (b := b + k) S0 hM cw ⟨xm_blind hNs, va_recv hK hP hc0 (xm_w_at hk), fun U hU hW => ⟨rfl, ⟨by rw [hU]; exact hP, by rw [hU]; exact hz⟩, va_K.moved hW.alike hK, hN.warm hNs hW, by rw [hU]; exact Nat.le_trans hbs hS.1⟩⟩ rfl (by rw [List.length_map]; exact hn) hl.1 (by simp [List.map_reverse, xm_v]) (lv_room (by rw [xm_cat_eq]; exact hcat)) hd ⟨by omega, by omega⟩) hS fun r H1 locs1 hp hP1 hz1 hS1 => ?_
  obtain ⟨ov, M1⟩ := r
  have := kk _ hp
  cases ov with
  | none => exact this H1 locs1 (cells + mc) (slots + ms) ls hP1 hz1 hS1 (by show cells + mc + (bc - mc) = R.cells; omega) (by show slots + ms + (bs - ms) = R.slots; omega) hl
  | some v => exact this H1 locs1 (cells + mc) (slots + ms) ls hP1 hz1 hS1 (by show cells + mc + (bc - mc) = R.cells; omega) (by show slots + ms + (bs - ms) = R.slots; omega) hl
theorem xs_callVN {own C host : String} {Ts : List Cond} {y : MethodName} {bytes : ByteArray} {maxL mc ms n ix  k ci N : Nat} {ret : Option FieldType} {T : u_T} {ws : List Cond} {rm : Room} {As : List Value} {P0 : xm_R → Prop} (S0 : CallFix p m c cc nL s args Ts own) (hNs : ∀ w ∈ Ns, xm_isN w = true) (hN : xm_N Ns CF s) (hK : va_K D cl tys s) (hbs : b ≤ s.heap.size) (hM : Met l y ws rm (xm_Pc b G D cl tys Ns CF (.ref k :: As) M) (xm_Qc b G D cl P0) mc ms (fun q => b ≤ q)) (cw : va_CN R s args own ix y host bytes maxL ret ws rm mc ms n ∧ (Cond.instanceMethod y).before args s = true ∧ (Cond.selects C y y).before args s = true) (hc0 : cl[ci]? = some (C, T, N)) (hk : xm_nth M.1 k = some (3, ci)) (hn : As.length = n) (hcat : xm_cat S ≤ 8) (h1c : mc ≤ bc) (h1s : ms ≤ bs) (hd : decode cc pc = .ok (.invokevirtual ix, 3)) (kk : ∀ r, P0 r → xm_X p l e R s m args below meth c Q b G D cl nL (xm_bk (pc + 3) L S (bc - mc) (bs - ms) r)) : xm_X p l e R s m args below meth c Q b G D cl nL (pc, L, As.reverse ++ .ref k :: S, M, bc, bs) := by
  intro H locs cells slots ls hP hz hS hc hs hl
  have hz : H.size = b + M.1.length := hz
  have hc : cells + bc = R.cells := hc
  have hs : slots + bs = R.slots := hs
  have hP : va_P D cl (xm_w b G M) H := hP
  refine xm_cl (rest := S.map (xm_v b)) (va_runVN (As := As.map (xm_v b)) (b := b + k) S0 hM cw ⟨xm_blind hNs, va_recv hK hP hc0 (xm_w_at hk), fun U hU hW => ⟨rfl, ⟨by rw [hU]; exact hP, by rw [hU]; exact hz⟩, va_K.moved hW.alike hK, hN.warm hNs hW, by rw [hU]; exact Nat.le_trans hbs hS.1⟩⟩ rfl (by rw [List.length_map]; exact hn) hl.1 (by simp [List.map_reverse, xm_v]) (lv_room (by rw [xm_cat_eq]; exact hcat)) hd ⟨by omega, by omega⟩) hS fun r H1 locs1 hp hP1 hz1 hS1 => ?_
  obtain ⟨ov, M1⟩ := r
  have := kk _ hp
  cases ov with
  | none => exact this H1 locs1 (cells + mc) (slots + ms) ls hP1 hz1 hS1 (by show cells + mc + (bc - mc) = R.cells; omega) (by show slots + ms + (bs - ms) = R.slots; omega) hl
  | some v => exact this H1 locs1 (cells + mc) (slots + ms) ls hP1 hz1 hS1 (by show cells + mc + (bc - mc) = R.cells; omega) (by show slots + ms + (bs - ms) = R.slots; omega) hl
theorem xs_callS {own : String} {Ts : List Cond} {y : MethodName} {bytes : ByteArray} {maxL mc ms n ix  : Nat} {ret : Option FieldType} {ws : List Cond} {rm : Room} {As : List Value} {P0 : xm_R → Prop} (S0 : CallFix p m c cc nL s args Ts own) (hNs : ∀ w ∈ Ns, xm_isN w = true) (hN : xm_N Ns CF s) (hK : va_K D cl tys s) (hbs : b ≤ s.heap.size) (hM : Met l y ws rm (xm_Pc b G D cl tys Ns CF (As) M) (xm_Qc b G D cl P0) mc ms (fun q => b ≤ q)) (cw : CallB R s args own ix y bytes maxL ret ws rm mc ms n ∧ (Cond.static y).before args s = true)  (hn : As.length = n) (hcat : xm_cat S ≤ 8) (h1c : mc ≤ bc) (h1s : ms ≤ bs) (hd : decode cc pc = .ok (.invokestatic ix, 3)) (kk : ∀ r, P0 r → xm_X p l e R s m args below meth c Q b G D cl nL (xm_bk (pc + 3) L S (bc - mc) (bs - ms) r)) : xm_X p l e R s m args below meth c Q b G D cl nL (pc, L, As.reverse ++ S, M, bc, bs) := by
  intro H locs cells slots ls hP hz hS hc hs hl
  have hz : H.size = b + M.1.length := hz
  have hc : cells + bc = R.cells := hc
  have hs : slots + bs = R.slots := hs
  have hP : va_P D cl (xm_w b G M) H := hP
  refine xm_cl (rest := S.map (xm_v b)) (va_runS (As := As.map (xm_v b))  S0 hM cw ⟨xm_blind hNs, fun U hU hW => ⟨rfl, ⟨by rw [hU]; exact hP, by rw [hU]; exact hz⟩, va_K.moved hW.alike hK, hN.warm hNs hW, by rw [hU]; exact Nat.le_trans hbs hS.1⟩⟩ rfl (by rw [List.length_map]; exact hn) hl.1 (by simp [List.map_reverse, xm_v]) (lv_room (by rw [xm_cat_eq]; exact hcat)) hd ⟨by omega, by omega⟩) hS fun r H1 locs1 hp hP1 hz1 hS1 => ?_
  obtain ⟨ov, M1⟩ := r
  have := kk _ hp
  cases ov with
  | none => exact this H1 locs1 (cells + mc) (slots + ms) ls hP1 hz1 hS1 (by show cells + mc + (bc - mc) = R.cells; omega) (by show slots + ms + (bs - ms) = R.slots; omega) hl
  | some v => exact this H1 locs1 (cells + mc) (slots + ms) ls hP1 hz1 hS1 (by show cells + mc + (bc - mc) = R.cells; omega) (by show slots + ms + (bs - ms) = R.slots; omega) hl
theorem xs_callSN {own host : String} {Ts : List Cond} {y : MethodName} {bytes : ByteArray} {maxL mc ms n ix  : Nat} {ret : Option FieldType} {ws : List Cond} {rm : Room} {As : List Value} {P0 : xm_R → Prop} (S0 : CallFix p m c cc nL s args Ts own) (hNs : ∀ w ∈ Ns, xm_isN w = true) (hN : xm_N Ns CF s) (hK : va_K D cl tys s) (hbs : b ≤ s.heap.size) (hM : Met l y ws rm (xm_Pc b G D cl tys Ns CF (As) M) (xm_Qc b G D cl P0) mc ms (fun q => b ≤ q)) (cw : va_CN R s args own ix y host bytes maxL ret ws rm mc ms n ∧ (Cond.static y).before args s = true ∧ True)  (hn : As.length = n) (hcat : xm_cat S ≤ 8) (h1c : mc ≤ bc) (h1s : ms ≤ bs) (hd : decode cc pc = .ok (.invokestatic ix, 3)) (kk : ∀ r, P0 r → xm_X p l e R s m args below meth c Q b G D cl nL (xm_bk (pc + 3) L S (bc - mc) (bs - ms) r)) : xm_X p l e R s m args below meth c Q b G D cl nL (pc, L, As.reverse ++ S, M, bc, bs) := by
  intro H locs cells slots ls hP hz hS hc hs hl
  have hz : H.size = b + M.1.length := hz
  have hc : cells + bc = R.cells := hc
  have hs : slots + bs = R.slots := hs
  have hP : va_P D cl (xm_w b G M) H := hP
  refine xm_cl (rest := S.map (xm_v b)) (va_runSN (As := As.map (xm_v b))  S0 hM cw ⟨xm_blind hNs, fun U hU hW => ⟨rfl, ⟨by rw [hU]; exact hP, by rw [hU]; exact hz⟩, va_K.moved hW.alike hK, hN.warm hNs hW, by rw [hU]; exact Nat.le_trans hbs hS.1⟩⟩ rfl (by rw [List.length_map]; exact hn) hl.1 (by simp [List.map_reverse, xm_v]) (lv_room (by rw [xm_cat_eq]; exact hcat)) hd ⟨by omega, by omega⟩) hS fun r H1 locs1 hp hP1 hz1 hS1 => ?_
  obtain ⟨ov, M1⟩ := r
  have := kk _ hp
  cases ov with
  | none => exact this H1 locs1 (cells + mc) (slots + ms) ls hP1 hz1 hS1 (by show cells + mc + (bc - mc) = R.cells; omega) (by show slots + ms + (bs - ms) = R.slots; omega) hl
  | some v => exact this H1 locs1 (cells + mc) (slots + ms) ls hP1 hz1 hS1 (by show cells + mc + (bc - mc) = R.cells; omega) (by show slots + ms + (bs - ms) = R.slots; omega) hl
theorem xs_callI {own : String} {Ts : List Cond} {y : MethodName} {bytes : ByteArray} {maxL mc ms n ix  k : Nat}  {ws : List Cond} {rm : Room} {As : List Value} {P0 : xm_R → Prop} (S0 : CallFix p m c cc nL s args Ts own) (hNs : ∀ w ∈ Ns, xm_isN w = true) (hN : xm_N Ns CF s) (hK : va_K D cl tys s) (hbs : b ≤ s.heap.size) (hM : Met l y ws rm (xm_Pc b G D cl tys Ns CF (.ref k :: As) M) (xm_Qc b G D cl P0) mc ms (fun q => b ≤ q)) (cw : CallB R s args own ix y bytes maxL none ws rm mc ms n ∧ y.name = "<init>" ∧ (Cond.instanceMethod y).before args s = true)  (hn : As.length = n) (hcat : xm_cat S ≤ 8) (h1c : mc ≤ bc) (h1s : ms ≤ bs) (hd : decode cc pc = .ok (.invokespecial ix, 3)) (kk : ∀ r, P0 r → xm_X p l e R s m args below meth c Q b G D cl nL (xm_bk (pc + 3) L S (bc - mc) (bs - ms) r)) : xm_X p l e R s m args below meth c Q b G D cl nL (pc, L, As.reverse ++ .ref k :: S, M, bc, bs) := by
  intro H locs cells slots ls hP hz hS hc hs hl
  have hz : H.size = b + M.1.length := hz
  have hc : cells + bc = R.cells := hc
  have hs : slots + bs = R.slots := hs
  have hP : va_P D cl (xm_w b G M) H := hP
  refine xm_cl (rest := S.map (xm_v b)) (va_runI (As := As.map (xm_v b)) (b := b + k) S0 hM cw ⟨xm_blind hNs, fun U hU hW => ⟨rfl, ⟨by rw [hU]; exact hP, by rw [hU]; exact hz⟩, va_K.moved hW.alike hK, hN.warm hNs hW, by rw [hU]; exact Nat.le_trans hbs hS.1⟩⟩ rfl (by rw [List.length_map]; exact hn) hl.1 (by simp [List.map_reverse, xm_v]) (lv_room (by rw [xm_cat_eq]; exact hcat)) hd ⟨by omega, by omega⟩) hS fun r H1 locs1 hp hP1 hz1 hS1 => ?_
  obtain ⟨ov, M1⟩ := r
  have := kk _ hp
  cases ov with
  | none => exact this H1 locs1 (cells + mc) (slots + ms) ls hP1 hz1 hS1 (by show cells + mc + (bc - mc) = R.cells; omega) (by show slots + ms + (bs - ms) = R.slots; omega) hl
  | some v => exact this H1 locs1 (cells + mc) (slots + ms) ls hP1 hz1 hS1 (by show cells + mc + (bc - mc) = R.cells; omega) (by show slots + ms + (bs - ms) = R.slots; omega) hl
theorem xs_callIN {own host : String} {Ts : List Cond} {y : MethodName} {bytes : ByteArray} {maxL mc ms n ix  k : Nat}  {ws : List Cond} {rm : Room} {As : List Value} {P0 : xm_R → Prop} (S0 : CallFix p m c cc nL s args Ts own) (hNs : ∀ w ∈ Ns, xm_isN w = true) (hN : xm_N Ns CF s) (hK : va_K D cl tys s) (hbs : b ≤ s.heap.size) (hM : Met l y ws rm (xm_Pc b G D cl tys Ns CF (.ref k :: As) M) (xm_Qc b G D cl P0) mc ms (fun q => b ≤ q)) (cw : va_CN R s args own ix y host bytes maxL none ws rm mc ms n ∧ y.name = "<init>" ∧ (Cond.instanceMethod y).before args s = true)  (hn : As.length = n) (hcat : xm_cat S ≤ 8) (h1c : mc ≤ bc) (h1s : ms ≤ bs) (hd : decode cc pc = .ok (.invokespecial ix, 3)) (kk : ∀ r, P0 r → xm_X p l e R s m args below meth c Q b G D cl nL (xm_bk (pc + 3) L S (bc - mc) (bs - ms) r)) : xm_X p l e R s m args below meth c Q b G D cl nL (pc, L, As.reverse ++ .ref k :: S, M, bc, bs) := by
  intro H locs cells slots ls hP hz hS hc hs hl
  have hz : H.size = b + M.1.length := hz
  have hc : cells + bc = R.cells := hc
  have hs : slots + bs = R.slots := hs
  have hP : va_P D cl (xm_w b G M) H := hP
  refine xm_cl (rest := S.map (xm_v b)) (va_runIN (As := As.map (xm_v b)) (b := b + k) S0 hM cw ⟨xm_blind hNs, fun U hU hW => ⟨rfl, ⟨by rw [hU]; exact hP, by rw [hU]; exact hz⟩, va_K.moved hW.alike hK, hN.warm hNs hW, by rw [hU]; exact Nat.le_trans hbs hS.1⟩⟩ rfl (by rw [List.length_map]; exact hn) hl.1 (by simp [List.map_reverse, xm_v]) (lv_room (by rw [xm_cat_eq]; exact hcat)) hd ⟨by omega, by omega⟩) hS fun r H1 locs1 hp hP1 hz1 hS1 => ?_
  obtain ⟨ov, M1⟩ := r
  have := kk _ hp
  cases ov with
  | none => exact this H1 locs1 (cells + mc) (slots + ms) ls hP1 hz1 hS1 (by show cells + mc + (bc - mc) = R.cells; omega) (by show slots + ms + (bs - ms) = R.slots; omega) hl
  | some v => exact this H1 locs1 (cells + mc) (slots + ms) ls hP1 hz1 hS1 (by show cells + mc + (bc - mc) = R.cells; omega) (by show slots + ms + (bs - ms) = R.slots; omega) hl
theorem xs_objInit (hx : p.tables.exec = Jvm.exec) (hb : c.code = cc) {own : String} {ix k : Nat} (hml : c.maxLocals = nL) (hown : s.vm.findClass own = some m.cls) (hlink : (Cond.methodLink own ix Lib.objectInit).before args s = true) (hinst : (Cond.instanceMethod Lib.objectInit).before args s = true) (hcode : (Cond.code Lib.objectInit ⟨#[0xb1]⟩ 1 none).before args s = true) (hcat : xm_cat S ≤ 8) (hf : 1 ≤ R.frames) (hlo : 20 ≤ R.locals) (hd : decode cc pc = .ok (.invokespecial ix, 3)) (kk : xm_X p l e R s m args below meth c Q b G D cl nL (pc + 3, L, S, M, bc, bs)) : xm_X p l e R s m args below meth c Q b G D cl nL (pc, L, .ref k :: S, M, bc, bs) := fun H locs cells slots ls hP hz hS hc hs hl =>
  W.objInit hx hb hown hlink hinst hcode rfl (hl.1.trans hml.symm) rfl hd hf (by
    show 2 * 0 + ((S.map (xm_v b)).map fun v => v.category).sum + 12 ≤ R.locals
    rw [xm_cat_eq]; omega) (kk H locs cells slots ls hP hz hS hc hs hl)
theorem xs_mmax (hx : p.tables.exec = Jvm.exec) (hb : c.code = cc) {own : String} {ix : Nat} {x y : Int32} (hml : c.maxLocals = nL) (hown : s.vm.findClass own = some m.cls) (hlink : (Cond.methodLink own ix Lib.Math.max.name).before args s = true) (hstat : (Cond.static Lib.Math.max.name).before args s = true) (hini : (Cond.initialized "java/lang/Math").before args s = true) (hcode : (Cond.code Lib.Math.max.name Lib.Math.max.code 2 (some .int)).before args s = true) (hcat : xm_cat S ≤ 8) (hf : 1 ≤ R.frames) (hlo : 21 ≤ R.locals) (hd : decode cc pc = .ok (.invokestatic ix, 3)) (kk : xm_X p l e R s m args below meth c Q b G D cl nL (pc + 3, L, .int (if x < y then y else x) :: S, M, bc, bs)) : xm_X p l e R s m args below meth c Q b G D cl nL (pc, L, .int y :: .int x :: S, M, bc, bs) := by
  intro H locs cells slots ls hP hz hS hc hs hl
  have hc' : cells + bc = R.cells := hc
  have hs' : slots + bs = R.slots := hs
  exact va_mmax hx hb (hml.trans hl.1.symm) hown hlink hstat hini hcode hf (by
    show ((S.map (xm_v b)).map fun v => v.category).sum + 13 ≤ R.locals
    rw [xm_cat_eq]; omega) (by omega) (by omega) hd (kk H locs cells slots ls hP hz hS hc hs hl)
theorem xs_iret (hx : p.tables.exec = Jvm.exec) (hb : c.code = cc) {P : xm_R → Prop} {x : Int32} (hlocks : meth.locks = false) (hr : meth.sig.returnType = some .int) (hp : P (some (.int x), M)) (hd : decode cc pc = .ok (.ireturn, 1)) : xm_X p l e R s m args below meth c (MQ below (xm_Qc b G D cl P) args s R.cells R.slots (fun q => b ≤ q)) b G D cl nL (pc, L, [.int x], M, bc, bs) := by
  intro H locs cells slots ls hP hz hS hc hs hl
  have hc : cells + bc = R.cells := hc
  have hs : slots + bs = R.slots := hs
  refine W.widen (k := R.cells) (n := R.slots) (by omega) (by omega) ?_
  exact W.iret hx hb hr (fun t ht hW => ⟨⟨(some (.int x), M), hp, rfl, by rw [ht]; exact hP, by rw [ht]; exact hz⟩, hS.F ht⟩) hS.2.2 hd hlocks
theorem xs_zret (hx : p.tables.exec = Jvm.exec) (hb : c.code = cc) {P : xm_R → Prop} {x : Int32} {ty : FieldType} (hlocks : meth.locks = false) (hr : meth.sig.returnType = some ty) (hn : narrow ty (.int x) = .int x) (hp : P (some (.int x), M)) (hd : decode cc pc = .ok (.ireturn, 1)) : xm_X p l e R s m args below meth c (MQ below (xm_Qc b G D cl P) args s R.cells R.slots (fun q => b ≤ q)) b G D cl nL (pc, L, [.int x], M, bc, bs) := by
  intro H locs cells slots ls hP hz hS hc hs hl
  have hc : cells + bc = R.cells := hc
  have hs : slots + bs = R.slots := hs
  refine W.widen (k := R.cells) (n := R.slots) (by omega) (by omega) ?_
  exact W.zret hx hb hr hn (fun t ht hW => ⟨⟨(some (.int x), M), hp, rfl, by rw [ht]; exact hP, by rw [ht]; exact hz⟩, hS.F ht⟩) hS.2.2 hd hlocks
theorem xs_lret (hx : p.tables.exec = Jvm.exec) (hb : c.code = cc) {P : xm_R → Prop} {x : Int64} (hlocks : meth.locks = false) (hr : meth.sig.returnType = some .long) (hp : P (some (.long x), M)) (hd : decode cc pc = .ok (.lreturn, 1)) : xm_X p l e R s m args below meth c (MQ below (xm_Qc b G D cl P) args s R.cells R.slots (fun q => b ≤ q)) b G D cl nL (pc, L, [.long x], M, bc, bs) := by
  intro H locs cells slots ls hP hz hS hc hs hl
  have hc : cells + bc = R.cells := hc
  have hs : slots + bs = R.slots := hs
  refine W.widen (k := R.cells) (n := R.slots) (by omega) (by omega) ?_
  exact W.lret hx hb hr (fun t ht hW => ⟨⟨(some (.long x), M), hp, rfl, by rw [ht]; exact hP, by rw [ht]; exact hz⟩, hS.F ht⟩) hS.2.2 hd hlocks
theorem xs_vret (hx : p.tables.exec = Jvm.exec) (hb : c.code = cc) {P : xm_R → Prop}  (hlocks : meth.locks = false) (hr : meth.sig.returnType = none) (hp : P (none, M)) (hd : decode cc pc = .ok (.return_, 1)) : xm_X p l e R s m args below meth c (MQ below (xm_Qc b G D cl P) args s R.cells R.slots (fun q => b ≤ q)) b G D cl nL (pc, L, [], M, bc, bs) := by
  intro H locs cells slots ls hP hz hS hc hs hl
  have hc : cells + bc = R.cells := hc
  have hs : slots + bs = R.slots := hs
  refine W.widen (k := R.cells) (n := R.slots) (by omega) (by omega) ?_
  exact W.vret hx hb hr (fun t ht hW => ⟨⟨(none, M), hp, rfl, by rw [ht]; exact hP, by rw [ht]; exact hz⟩, hS.F ht⟩) hS.2.2 hd hlocks
theorem xm_all_or {ih : xm_S → Prop} {d : xm_S} : ∀ {l : List (Prop × xm_S)}, xm_all ih d l → (∃ q, q ∈ l ∧ q.1 ∧ ih q.2) ∨ ((∀ q, q ∈ l → ¬ q.1) ∧ ih d)
  | [], h => Or.inr ⟨fun q hq => by simp at hq, h⟩
  | (cd, st) :: l, h => by
    by_cases hc : cd
    · exact Or.inl ⟨(cd, st), List.mem_cons_self, hc, h.1 hc⟩
    · rcases xm_all_or (h.2 hc) with ⟨q, h1, h2⟩ | ⟨h1, h2⟩
      · exact Or.inl ⟨q, List.mem_cons_of_mem _ h1, h2⟩
      · refine Or.inr ⟨fun q hq => ?_, h2⟩
        rcases List.mem_cons.mp hq with h | h
        · rw [h]; exact hc
        · exact h1 q h
def xm_swk (pc : Nat) (lo hi : Int) (offs : Array Int) (sw : List (Int32 × Nat × List Nat)) : Bool :=
  decide (hi = lo + sw.length - 1) && (List.range sw.length).all fun j => match sw[j]?, offs[j]? with
    | some q, some off => decide (q.1.toInt = lo + j) && decide ((pc : Int) + off = (q.2.1 : Int))
    | _, _ => false
theorem xm_swk_at {pc : Nat} {lo hi : Int} {offs : Array Int} {sw : List (Int32 × Nat × List Nat)} (h : xm_swk pc lo hi offs sw = true) : hi = lo + sw.length - 1 ∧ ∀ (j : Nat) (q : Int32 × Nat × List Nat), sw[j]? = some q → q.1.toInt = lo + j ∧ ∃ off, offs[j]? = some off ∧ (pc : Int) + off = (q.2.1 : Int) := by
  unfold xm_swk at h
  rw [Bool.and_eq_true] at h
  refine ⟨of_decide_eq_true h.1, fun j q hj => ?_⟩
  have hl : j < sw.length := (List.getElem?_eq_some_iff.mp hj).1
  have h2 := List.all_eq_true.mp h.2 j (List.mem_range.mpr hl)
  rw [hj] at h2
  cases ho : offs[j]? with
  | none => rw [ho] at h2; cases h2
  | some off =>
    rw [ho] at h2
    have h3 : (decide (q.1.toInt = lo + j) && decide ((pc : Int) + off = (q.2.1 : Int))) = true := h2
    rw [Bool.and_eq_true] at h3
    exact ⟨of_decide_eq_true h3.1, off, rfl, of_decide_eq_true h3.2⟩
theorem xs_tsw (hx : p.tables.exec = Jvm.exec) (hb : c.code = cc) {x : Int32} {df lo hi : Int} {offs : Array Int} {ln tg : Nat} {D2 : List Nat} {sw : List (Int32 × Nat × List Nat)} (hd : decode cc pc = .ok (.tableswitch df lo hi offs, ln)) (hk : xm_swk pc lo hi offs sw = true) (ht : (pc : Int) + df = (tg : Int)) (k : xm_all (xm_X p l e R s m args below meth c Q b G D cl nL) (tg, xm_drop D2 L, S, M, bc, bs) (sw.map fun q => (x = q.1, (q.2.1, xm_drop q.2.2 L, S, M, bc, bs)))) : xm_X p l e R s m args below meth c Q b G D cl nL (pc, L, .int x :: S, M, bc, bs) := by
  obtain ⟨h1, h2⟩ := xm_swk_at hk
  rcases xm_all_or k with ⟨q, q1, q2, q3⟩ | ⟨q1, q2⟩
  · obtain ⟨w, w1, w2⟩ := List.mem_map.mp q1
    subst w2
    have q2 : x = w.1 := q2
    obtain ⟨j, hj⟩ := List.getElem?_of_mem w1
    obtain ⟨a1, off, a2, a3⟩ := h2 j w hj
    have hl : j < sw.length := (List.getElem?_eq_some_iff.mp hj).1
    have q3 := xs_drop w.2.2 q3
    intro H locs cells slots ls hP hz hS hc hs hl2
    refine lv_tableIn hx hb hd (by rw [q2, a1]; omega) (by rw [q2, a1]; omega) (off := off) ?_ a3 (q3 H locs cells slots ls hP hz hS hc hs hl2)
    rw [q2, a1, show (lo + (j : Int) - lo).toNat = j by omega]
    exact a2
  · have q2 := xs_drop D2 q2
    intro H locs cells slots ls hP hz hS hc hs hl2
    refine lv_tableOut hx hb hd ?_ ht (q2 H locs cells slots ls hP hz hS hc hs hl2)
    refine Classical.byContradiction fun hno => ?_
    have hlo : lo ≤ x.toInt := by omega
    have hhi : x.toInt ≤ hi := by omega
    have hj : (x.toInt - lo).toNat < sw.length := by omega
    have hq : sw[(x.toInt - lo).toNat]? = some sw[(x.toInt - lo).toNat] := List.getElem?_eq_getElem hj
    obtain ⟨a1, -⟩ := h2 _ _ hq
    refine q1 (x = (sw[(x.toInt - lo).toNat]).1, _) (List.mem_map.mpr ⟨_, List.mem_of_getElem? hq, rfl⟩) ?_
    show x = _
    exact Int32.toInt_inj.mp (by rw [a1]; omega)
end XC
