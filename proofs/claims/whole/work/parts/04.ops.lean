/-- the machine at a frame: any heap that holds the memory, any places that hold the locals -/
def xm_X (p : Program) (l : Launch) (e : Env) (R : Room) (s : State) (m : MethodId) (args : Array Value) (below : List Frame) (meth : Method) (c : Code) (Q : State → Prop) (b : Nat) (G : xm_G) (D : va_G) (cl : List vw_C) (nL : Nat) (st : xm_S) : Prop :=
  ∀ (H : Heap) (locs : List Loc) (cells slots : Nat) (ls : Array Slot), va_P D cl (xm_w b G st.2.2.2.1) H → H.size = b + st.2.2.2.1.1.length → va_S (fun q => b ≤ q) s.heap H locs → cells + st.2.2.2.2.1 = R.cells → slots + st.2.2.2.2.2 = R.slots → lv_has ls nL (xm_l b 0 st.2.1) → W p l e R s m args below meth c H locs cells slots Q (F0 m st.1 ls (st.2.2.1.map (xm_v b)))
section XO
variable {p : Program} {l : Launch} {e : Env} {R : Room} {s : State} {m : MethodId} {args : Array Value} {below : List Frame} {meth : Method} {c : Code} {Q : State → Prop}
variable {b : Nat} {G : xm_G} {D : va_G} {cl : List vw_C} {nL : Nat} {cc : ByteArray} {pc : Nat} {L : xm_L} {S : List Value} {M : xm_M} {bc bs : Nat} {tys : List (ClassId × FieldType)} {CF : String}
theorem xs_drop (DD : List Nat) (k : xm_X p l e R s m args below meth c Q b G D cl nL (pc, xm_drop DD L, S, M, bc, bs)) : xm_X p l e R s m args below meth c Q b G D cl nL (pc, L, S, M, bc, bs) :=
  fun H locs cells slots ls hP hz hS hc hs hl => k H locs cells slots ls hP hz hS hc hs (xm_sbN hl fun _ _ h => xm_drop_nth h)
theorem xs_iconst (hx : p.tables.exec = Jvm.exec) (hb : c.code = cc) {n : Int} {v : Int32} (hd : decode cc pc = .ok (.iconst n, 1)) (hv : Int32.ofInt n = v) (k : xm_X p l e R s m args below meth c Q b G D cl nL (pc + 1, L, .int v :: S, M, bc, bs)) : xm_X p l e R s m args below meth c Q b G D cl nL (pc, L, S, M, bc, bs) := fun H locs cells slots ls hP hz hS hc hs hl => lv_iconst hx hb hd hv (k H locs cells slots ls hP hz hS hc hs hl)
theorem xs_bipush (hx : p.tables.exec = Jvm.exec) (hb : c.code = cc) {n : Int} {v : Int32} (hd : decode cc pc = .ok (.bipush n, 2)) (hv : (Int8.ofInt n).toInt32 = v) (k : xm_X p l e R s m args below meth c Q b G D cl nL (pc + 2, L, .int v :: S, M, bc, bs)) : xm_X p l e R s m args below meth c Q b G D cl nL (pc, L, S, M, bc, bs) := fun H locs cells slots ls hP hz hS hc hs hl => lv_bipush hx hb hd hv (k H locs cells slots ls hP hz hS hc hs hl)
theorem xs_sipush (hx : p.tables.exec = Jvm.exec) (hb : c.code = cc) {n : Int} {v : Int32} (hd : decode cc pc = .ok (.sipush n, 3)) (hv : (Int16.ofInt n).toInt32 = v) (k : xm_X p l e R s m args below meth c Q b G D cl nL (pc + 3, L, .int v :: S, M, bc, bs)) : xm_X p l e R s m args below meth c Q b G D cl nL (pc, L, S, M, bc, bs) := fun H locs cells slots ls hP hz hS hc hs hl => lv_sipush hx hb hd hv (k H locs cells slots ls hP hz hS hc hs hl)
theorem xs_lconst (hx : p.tables.exec = Jvm.exec) (hb : c.code = cc) {n : Fin 2} {v : Int64} (hd : decode cc pc = .ok (.lconst n, 1)) (hv : Int64.ofNat (n : Nat) = v) (k : xm_X p l e R s m args below meth c Q b G D cl nL (pc + 1, L, .long v :: S, M, bc, bs)) : xm_X p l e R s m args below meth c Q b G D cl nL (pc, L, S, M, bc, bs) := fun H locs cells slots ls hP hz hS hc hs hl => lv_lconst hx hb hd hv (k H locs cells slots ls hP hz hS hc hs hl)
theorem xs_ldc (hx : p.tables.exec = Jvm.exec) (hb : c.code = cc) {own : String} {ix : Nat} {v : Int32} (hd : decode cc pc = .ok (.ldc ix, 2)) (hown : s.vm.findClass own = some m.cls) (hk : (Jvm.Cond.constant own ix v).before args s = true) (k : xm_X p l e R s m args below meth c Q b G D cl nL (pc + 2, L, .int v :: S, M, bc, bs)) : xm_X p l e R s m args below meth c Q b G D cl nL (pc, L, S, M, bc, bs) := fun H locs cells slots ls hP hz hS hc hs hl => lv_ldc hx hb hown hk hd (k H locs cells slots ls hP hz hS hc hs hl)
theorem xs_ldcw (hx : p.tables.exec = Jvm.exec) (hb : c.code = cc) {own : String} {ix : Nat} {v : Int32} (hd : decode cc pc = .ok (.ldc_w ix, 3)) (hown : s.vm.findClass own = some m.cls) (hk : (Jvm.Cond.constant own ix v).before args s = true) (k : xm_X p l e R s m args below meth c Q b G D cl nL (pc + 3, L, .int v :: S, M, bc, bs)) : xm_X p l e R s m args below meth c Q b G D cl nL (pc, L, S, M, bc, bs) := fun H locs cells slots ls hP hz hS hc hs hl => lv_ldcw hx hb hown hk hd (k H locs cells slots ls hP hz hS hc hs hl)
theorem xs_ldc2 (hx : p.tables.exec = Jvm.exec) (hb : c.code = cc) {own : String} {ix : Nat} {v : Int64} (hd : decode cc pc = .ok (.ldc2_w ix, 3)) (hown : s.vm.findClass own = some m.cls) (hk : (Jvm.Cond.constantLong own ix v).before args s = true) (k : xm_X p l e R s m args below meth c Q b G D cl nL (pc + 3, L, .long v :: S, M, bc, bs)) : xm_X p l e R s m args below meth c Q b G D cl nL (pc, L, S, M, bc, bs) := fun H locs cells slots ls hP hz hS hc hs hl => lv_ldc2 hx hb hown hk hd (k H locs cells slots ls hP hz hS hc hs hl)
theorem xs_iload_n (hx : p.tables.exec = Jvm.exec) (hb : c.code = cc) {i : Fin 4} {a : Nat} {x : Int32} (hd : decode cc pc = .ok (.iload_n i, 1)) (hi : (i : Nat) = a) (hg : xm_nth L a = some (some (.int x))) (k : xm_X p l e R s m args below meth c Q b G D cl nL (pc + 1, L, .int x :: S, M, bc, bs)) : xm_X p l e R s m args below meth c Q b G D cl nL (pc, L, S, M, bc, bs) := fun H locs cells slots ls hP hz hS hc hs hl => lv_iload_n hx hb hd hi (xm_rd hl hg) (k H locs cells slots ls hP hz hS hc hs hl)
theorem xs_iload (hx : p.tables.exec = Jvm.exec) (hb : c.code = cc) {a : Nat} {x : Int32} (hd : decode cc pc = .ok (.iload a, 2)) (hg : xm_nth L a = some (some (.int x))) (k : xm_X p l e R s m args below meth c Q b G D cl nL (pc + 2, L, .int x :: S, M, bc, bs)) : xm_X p l e R s m args below meth c Q b G D cl nL (pc, L, S, M, bc, bs) := fun H locs cells slots ls hP hz hS hc hs hl => lv_iload hx hb hd (xm_rd hl hg) (k H locs cells slots ls hP hz hS hc hs hl)
theorem xs_istore_n (hx : p.tables.exec = Jvm.exec) (hb : c.code = cc) {i : Fin 4} {a : Nat} {x : Int32} (hd : decode cc pc = .ok (.istore_n i, 1)) (hi : (i : Nat) = a) (hn : a < nL) (k : xm_X p l e R s m args below meth c Q b G D cl nL (pc + 1, xm_s1 (.int x) a L, S, M, bc, bs)) : xm_X p l e R s m args below meth c Q b G D cl nL (pc, L, .int x :: S, M, bc, bs) := fun H locs cells slots ls hP hz hS hc hs hl => lv_istore_n hx hb hd hi hl hn rfl (fun ls' hl' => k H locs cells slots ls' hP hz hS hc hs (xm_st1 (v := .int x) hl'))
theorem xs_istore (hx : p.tables.exec = Jvm.exec) (hb : c.code = cc) {a : Nat} {x : Int32} (hd : decode cc pc = .ok (.istore a, 2)) (hn : a < nL) (k : xm_X p l e R s m args below meth c Q b G D cl nL (pc + 2, xm_s1 (.int x) a L, S, M, bc, bs)) : xm_X p l e R s m args below meth c Q b G D cl nL (pc, L, .int x :: S, M, bc, bs) := fun H locs cells slots ls hP hz hS hc hs hl => lv_istore hx hb hd hl hn rfl (fun ls' hl' => k H locs cells slots ls' hP hz hS hc hs (xm_st1 (v := .int x) hl'))
theorem xs_lload_n (hx : p.tables.exec = Jvm.exec) (hb : c.code = cc) {i : Fin 4} {a : Nat} {x : Int64} (hd : decode cc pc = .ok (.lload_n i, 1)) (hi : (i : Nat) = a) (hg : xm_nth L a = some (some (.long x))) (k : xm_X p l e R s m args below meth c Q b G D cl nL (pc + 1, L, .long x :: S, M, bc, bs)) : xm_X p l e R s m args below meth c Q b G D cl nL (pc, L, S, M, bc, bs) := fun H locs cells slots ls hP hz hS hc hs hl => lv_lload_n hx hb hd hi (xm_rd hl hg) (k H locs cells slots ls hP hz hS hc hs hl)
theorem xs_lload (hx : p.tables.exec = Jvm.exec) (hb : c.code = cc) {a : Nat} {x : Int64} (hd : decode cc pc = .ok (.lload a, 2)) (hg : xm_nth L a = some (some (.long x))) (k : xm_X p l e R s m args below meth c Q b G D cl nL (pc + 2, L, .long x :: S, M, bc, bs)) : xm_X p l e R s m args below meth c Q b G D cl nL (pc, L, S, M, bc, bs) := fun H locs cells slots ls hP hz hS hc hs hl => lv_lload hx hb hd (xm_rd hl hg) (k H locs cells slots ls hP hz hS hc hs hl)
theorem xs_lstore_n (hx : p.tables.exec = Jvm.exec) (hb : c.code = cc) {i : Fin 4} {a : Nat} {x : Int64} (hd : decode cc pc = .ok (.lstore_n i, 1)) (hi : (i : Nat) = a) (hn : a + 1 < nL) (k : xm_X p l e R s m args below meth c Q b G D cl nL (pc + 1, xm_s2 (.long x) a L, S, M, bc, bs)) : xm_X p l e R s m args below meth c Q b G D cl nL (pc, L, .long x :: S, M, bc, bs) := fun H locs cells slots ls hP hz hS hc hs hl => lv_lstore_n hx hb hd hi hl hn rfl (fun ls' hl' => k H locs cells slots ls' hP hz hS hc hs (xm_st2 (v := .long x) hl'))
theorem xs_lstore (hx : p.tables.exec = Jvm.exec) (hb : c.code = cc) {a : Nat} {x : Int64} (hd : decode cc pc = .ok (.lstore a, 2)) (hn : a + 1 < nL) (k : xm_X p l e R s m args below meth c Q b G D cl nL (pc + 2, xm_s2 (.long x) a L, S, M, bc, bs)) : xm_X p l e R s m args below meth c Q b G D cl nL (pc, L, .long x :: S, M, bc, bs) := fun H locs cells slots ls hP hz hS hc hs hl => lv_lstore hx hb hd hl hn rfl (fun ls' hl' => k H locs cells slots ls' hP hz hS hc hs (xm_st2 (v := .long x) hl'))
theorem xs_aload_n (hx : p.tables.exec = Jvm.exec) (hb : c.code = cc) {i : Fin 4} {a : Nat} {x : Nat} (hd : decode cc pc = .ok (.aload_n i, 1)) (hi : (i : Nat) = a) (hg : xm_nth L a = some (some (.ref x))) (k : xm_X p l e R s m args below meth c Q b G D cl nL (pc + 1, L, .ref x :: S, M, bc, bs)) : xm_X p l e R s m args below meth c Q b G D cl nL (pc, L, S, M, bc, bs) := fun H locs cells slots ls hP hz hS hc hs hl => lv_aload_n hx hb hd hi (xm_rd hl hg) (k H locs cells slots ls hP hz hS hc hs hl)
theorem xs_aload (hx : p.tables.exec = Jvm.exec) (hb : c.code = cc) {a : Nat} {x : Nat} (hd : decode cc pc = .ok (.aload a, 2)) (hg : xm_nth L a = some (some (.ref x))) (k : xm_X p l e R s m args below meth c Q b G D cl nL (pc + 2, L, .ref x :: S, M, bc, bs)) : xm_X p l e R s m args below meth c Q b G D cl nL (pc, L, S, M, bc, bs) := fun H locs cells slots ls hP hz hS hc hs hl => lv_aload hx hb hd (xm_rd hl hg) (k H locs cells slots ls hP hz hS hc hs hl)
theorem xs_astore_n (hx : p.tables.exec = Jvm.exec) (hb : c.code = cc) {i : Fin 4} {a : Nat} {x : Nat} (hd : decode cc pc = .ok (.astore_n i, 1)) (hi : (i : Nat) = a) (hn : a < nL) (k : xm_X p l e R s m args below meth c Q b G D cl nL (pc + 1, xm_s1 (.ref x) a L, S, M, bc, bs)) : xm_X p l e R s m args below meth c Q b G D cl nL (pc, L, .ref x :: S, M, bc, bs) := fun H locs cells slots ls hP hz hS hc hs hl => lv_astore_n hx hb hd hi hl hn rfl (fun ls' hl' => k H locs cells slots ls' hP hz hS hc hs (xm_st1 (v := .ref x) hl'))
theorem xs_astore (hx : p.tables.exec = Jvm.exec) (hb : c.code = cc) {a : Nat} {x : Nat} (hd : decode cc pc = .ok (.astore a, 2)) (hn : a < nL) (k : xm_X p l e R s m args below meth c Q b G D cl nL (pc + 2, xm_s1 (.ref x) a L, S, M, bc, bs)) : xm_X p l e R s m args below meth c Q b G D cl nL (pc, L, .ref x :: S, M, bc, bs) := fun H locs cells slots ls hP hz hS hc hs hl => lv_astore hx hb hd hl hn rfl (fun ls' hl' => k H locs cells slots ls' hP hz hS hc hs (xm_st1 (v := .ref x) hl'))
theorem xs_iinc (hx : p.tables.exec = Jvm.exec) (hb : c.code = cc) {a : Nat} {n : Int} {x v : Int32} (hd : decode cc pc = .ok (.iinc a n, 3)) (hv : Int32.ofInt n = v) (hg : xm_nth L a = some (some (.int x))) (hn : a < nL) (k : xm_X p l e R s m args below meth c Q b G D cl nL (pc + 3, xm_s1 (.int (x + v)) a L, S, M, bc, bs)) : xm_X p l e R s m args below meth c Q b G D cl nL (pc, L, S, M, bc, bs) := by
  intro H locs cells slots ls hP hz hS hc hs hl
  have hm := xm_mem_l (b := b) (i := 0) hg
  rw [Nat.zero_add] at hm
  obtain ⟨q, hq⟩ := List.getElem?_of_mem hm
  exact lv_iinc hx hb hd hl hq (congrArg (x + ·) hv) hn rfl (fun ls' hl' => k H locs cells slots ls' hP hz hS hc hs (xm_st1 (v := .int (x + v)) hl'))
theorem xs_iadd (hx : p.tables.exec = Jvm.exec) (hb : c.code = cc) {x y : Int32} (hd : decode cc pc = .ok (.iadd, 1))  (k : xm_X p l e R s m args below meth c Q b G D cl nL (pc + 1, L, .int (x + y) :: S, M, bc, bs)) : xm_X p l e R s m args below meth c Q b G D cl nL (pc, L, .int y :: .int x :: S, M, bc, bs) := fun H locs cells slots ls hP hz hS hc hs hl => lv_iadd hx hb hd (k H locs cells slots ls hP hz hS hc hs hl)
theorem xs_isub (hx : p.tables.exec = Jvm.exec) (hb : c.code = cc) {x y : Int32} (hd : decode cc pc = .ok (.isub, 1))  (k : xm_X p l e R s m args below meth c Q b G D cl nL (pc + 1, L, .int (x - y) :: S, M, bc, bs)) : xm_X p l e R s m args below meth c Q b G D cl nL (pc, L, .int y :: .int x :: S, M, bc, bs) := fun H locs cells slots ls hP hz hS hc hs hl => lv_isub hx hb hd (k H locs cells slots ls hP hz hS hc hs hl)
theorem xs_imul (hx : p.tables.exec = Jvm.exec) (hb : c.code = cc) {x y : Int32} (hd : decode cc pc = .ok (.imul, 1))  (k : xm_X p l e R s m args below meth c Q b G D cl nL (pc + 1, L, .int (x * y) :: S, M, bc, bs)) : xm_X p l e R s m args below meth c Q b G D cl nL (pc, L, .int y :: .int x :: S, M, bc, bs) := fun H locs cells slots ls hP hz hS hc hs hl => lv_imul hx hb hd (k H locs cells slots ls hP hz hS hc hs hl)
theorem xs_iand (hx : p.tables.exec = Jvm.exec) (hb : c.code = cc) {x y : Int32} (hd : decode cc pc = .ok (.iand, 1))  (k : xm_X p l e R s m args below meth c Q b G D cl nL (pc + 1, L, .int (x &&& y) :: S, M, bc, bs)) : xm_X p l e R s m args below meth c Q b G D cl nL (pc, L, .int y :: .int x :: S, M, bc, bs) := fun H locs cells slots ls hP hz hS hc hs hl => lv_iand hx hb hd (k H locs cells slots ls hP hz hS hc hs hl)
theorem xs_ior (hx : p.tables.exec = Jvm.exec) (hb : c.code = cc) {x y : Int32} (hd : decode cc pc = .ok (.ior, 1))  (k : xm_X p l e R s m args below meth c Q b G D cl nL (pc + 1, L, .int (x ||| y) :: S, M, bc, bs)) : xm_X p l e R s m args below meth c Q b G D cl nL (pc, L, .int y :: .int x :: S, M, bc, bs) := fun H locs cells slots ls hP hz hS hc hs hl => lv_ior hx hb hd (k H locs cells slots ls hP hz hS hc hs hl)
theorem xs_ixor (hx : p.tables.exec = Jvm.exec) (hb : c.code = cc) {x y : Int32} (hd : decode cc pc = .ok (.ixor, 1))  (k : xm_X p l e R s m args below meth c Q b G D cl nL (pc + 1, L, .int (x ^^^ y) :: S, M, bc, bs)) : xm_X p l e R s m args below meth c Q b G D cl nL (pc, L, .int y :: .int x :: S, M, bc, bs) := fun H locs cells slots ls hP hz hS hc hs hl => lv_ixor hx hb hd (k H locs cells slots ls hP hz hS hc hs hl)
theorem xs_ishl (hx : p.tables.exec = Jvm.exec) (hb : c.code = cc) {x y : Int32} (hd : decode cc pc = .ok (.ishl, 1))  (k : xm_X p l e R s m args below meth c Q b G D cl nL (pc + 1, L, .int (x <<< (y &&& 31)) :: S, M, bc, bs)) : xm_X p l e R s m args below meth c Q b G D cl nL (pc, L, .int y :: .int x :: S, M, bc, bs) := fun H locs cells slots ls hP hz hS hc hs hl => lv_ishl hx hb hd (k H locs cells slots ls hP hz hS hc hs hl)
theorem xs_ishr (hx : p.tables.exec = Jvm.exec) (hb : c.code = cc) {x y : Int32} (hd : decode cc pc = .ok (.ishr, 1))  (k : xm_X p l e R s m args below meth c Q b G D cl nL (pc + 1, L, .int (x >>> (y &&& 31)) :: S, M, bc, bs)) : xm_X p l e R s m args below meth c Q b G D cl nL (pc, L, .int y :: .int x :: S, M, bc, bs) := fun H locs cells slots ls hP hz hS hc hs hl => lv_ishr hx hb hd (k H locs cells slots ls hP hz hS hc hs hl)
theorem xs_iushr (hx : p.tables.exec = Jvm.exec) (hb : c.code = cc) {x y : Int32} (hd : decode cc pc = .ok (.iushr, 1))  (k : xm_X p l e R s m args below meth c Q b G D cl nL (pc + 1, L, .int (x.toUInt32 >>> (y.toUInt32 &&& Int32.toUInt32 31)).toInt32 :: S, M, bc, bs)) : xm_X p l e R s m args below meth c Q b G D cl nL (pc, L, .int y :: .int x :: S, M, bc, bs) := fun H locs cells slots ls hP hz hS hc hs hl => lv_iushr hx hb hd rfl (k H locs cells slots ls hP hz hS hc hs hl)
theorem xs_ladd (hx : p.tables.exec = Jvm.exec) (hb : c.code = cc) {x y : Int64} (hd : decode cc pc = .ok (.ladd, 1))  (k : xm_X p l e R s m args below meth c Q b G D cl nL (pc + 1, L, .long (x + y) :: S, M, bc, bs)) : xm_X p l e R s m args below meth c Q b G D cl nL (pc, L, .long y :: .long x :: S, M, bc, bs) := fun H locs cells slots ls hP hz hS hc hs hl => lv_ladd hx hb hd (k H locs cells slots ls hP hz hS hc hs hl)
theorem xs_lsub (hx : p.tables.exec = Jvm.exec) (hb : c.code = cc) {x y : Int64} (hd : decode cc pc = .ok (.lsub, 1))  (k : xm_X p l e R s m args below meth c Q b G D cl nL (pc + 1, L, .long (x - y) :: S, M, bc, bs)) : xm_X p l e R s m args below meth c Q b G D cl nL (pc, L, .long y :: .long x :: S, M, bc, bs) := fun H locs cells slots ls hP hz hS hc hs hl => lv_lsub hx hb hd (k H locs cells slots ls hP hz hS hc hs hl)
theorem xs_lmul (hx : p.tables.exec = Jvm.exec) (hb : c.code = cc) {x y : Int64} (hd : decode cc pc = .ok (.lmul, 1))  (k : xm_X p l e R s m args below meth c Q b G D cl nL (pc + 1, L, .long (x * y) :: S, M, bc, bs)) : xm_X p l e R s m args below meth c Q b G D cl nL (pc, L, .long y :: .long x :: S, M, bc, bs) := fun H locs cells slots ls hP hz hS hc hs hl => lv_lmul hx hb hd (k H locs cells slots ls hP hz hS hc hs hl)
theorem xs_land (hx : p.tables.exec = Jvm.exec) (hb : c.code = cc) {x y : Int64} (hd : decode cc pc = .ok (.land, 1))  (k : xm_X p l e R s m args below meth c Q b G D cl nL (pc + 1, L, .long (x &&& y) :: S, M, bc, bs)) : xm_X p l e R s m args below meth c Q b G D cl nL (pc, L, .long y :: .long x :: S, M, bc, bs) := fun H locs cells slots ls hP hz hS hc hs hl => lv_land hx hb hd (k H locs cells slots ls hP hz hS hc hs hl)
theorem xs_lor (hx : p.tables.exec = Jvm.exec) (hb : c.code = cc) {x y : Int64} (hd : decode cc pc = .ok (.lor, 1))  (k : xm_X p l e R s m args below meth c Q b G D cl nL (pc + 1, L, .long (x ||| y) :: S, M, bc, bs)) : xm_X p l e R s m args below meth c Q b G D cl nL (pc, L, .long y :: .long x :: S, M, bc, bs) := fun H locs cells slots ls hP hz hS hc hs hl => lv_lor hx hb hd (k H locs cells slots ls hP hz hS hc hs hl)
theorem xs_lxor (hx : p.tables.exec = Jvm.exec) (hb : c.code = cc) {x y : Int64} (hd : decode cc pc = .ok (.lxor, 1))  (k : xm_X p l e R s m args below meth c Q b G D cl nL (pc + 1, L, .long (x ^^^ y) :: S, M, bc, bs)) : xm_X p l e R s m args below meth c Q b G D cl nL (pc, L, .long y :: .long x :: S, M, bc, bs) := fun H locs cells slots ls hP hz hS hc hs hl => lv_lxor hx hb hd (k H locs cells slots ls hP hz hS hc hs hl)
theorem xs_lshl (hx : p.tables.exec = Jvm.exec) (hb : c.code = cc) {x : Int64} {y : Int32} (hd : decode cc pc = .ok (.lshl, 1))  (k : xm_X p l e R s m args below meth c Q b G D cl nL (pc + 1, L, .long (x <<< (y.toInt64 &&& 63)) :: S, M, bc, bs)) : xm_X p l e R s m args below meth c Q b G D cl nL (pc, L, .int y :: .long x :: S, M, bc, bs) := fun H locs cells slots ls hP hz hS hc hs hl => lv_lshl hx hb hd rfl (k H locs cells slots ls hP hz hS hc hs hl)
theorem xs_lshr (hx : p.tables.exec = Jvm.exec) (hb : c.code = cc) {x : Int64} {y : Int32} (hd : decode cc pc = .ok (.lshr, 1))  (k : xm_X p l e R s m args below meth c Q b G D cl nL (pc + 1, L, .long (x >>> (y.toInt64 &&& 63)) :: S, M, bc, bs)) : xm_X p l e R s m args below meth c Q b G D cl nL (pc, L, .int y :: .long x :: S, M, bc, bs) := fun H locs cells slots ls hP hz hS hc hs hl => lv_lshr hx hb hd rfl (k H locs cells slots ls hP hz hS hc hs hl)
theorem xs_lushr (hx : p.tables.exec = Jvm.exec) (hb : c.code = cc) {x : Int64} {y : Int32} (hd : decode cc pc = .ok (.lushr, 1))  (k : xm_X p l e R s m args below meth c Q b G D cl nL (pc + 1, L, .long ((x.toUInt64 >>> (y.toInt64.toUInt64 &&& Int64.toUInt64 63)).toInt64) :: S, M, bc, bs)) : xm_X p l e R s m args below meth c Q b G D cl nL (pc, L, .int y :: .long x :: S, M, bc, bs) := fun H locs cells slots ls hP hz hS hc hs hl => lv_lushr hx hb hd rfl (k H locs cells slots ls hP hz hS hc hs hl)
theorem xs_i2l (hx : p.tables.exec = Jvm.exec) (hb : c.code = cc) {x : Int32} (hd : decode cc pc = .ok (.i2l, 1))  (k : xm_X p l e R s m args below meth c Q b G D cl nL (pc + 1, L, .long x.toInt64 :: S, M, bc, bs)) : xm_X p l e R s m args below meth c Q b G D cl nL (pc, L, .int x :: S, M, bc, bs) := fun H locs cells slots ls hP hz hS hc hs hl => lv_i2l hx hb hd rfl (k H locs cells slots ls hP hz hS hc hs hl)
theorem xs_l2i (hx : p.tables.exec = Jvm.exec) (hb : c.code = cc) {x : Int64} (hd : decode cc pc = .ok (.l2i, 1))  (k : xm_X p l e R s m args below meth c Q b G D cl nL (pc + 1, L, .int x.toInt32 :: S, M, bc, bs)) : xm_X p l e R s m args below meth c Q b G D cl nL (pc, L, .long x :: S, M, bc, bs) := fun H locs cells slots ls hP hz hS hc hs hl => lv_l2i hx hb hd rfl (k H locs cells slots ls hP hz hS hc hs hl)
theorem xs_lcmp (hx : p.tables.exec = Jvm.exec) (hb : c.code = cc) {x y : Int64} (hd : decode cc pc = .ok (.lcmp, 1))  (k : xm_X p l e R s m args below meth c Q b G D cl nL (pc + 1, L, .int (lg_cmp x y) :: S, M, bc, bs)) : xm_X p l e R s m args below meth c Q b G D cl nL (pc, L, .long y :: .long x :: S, M, bc, bs) := fun H locs cells slots ls hP hz hS hc hs hl => W.lcmp hx hb hd (k H locs cells slots ls hP hz hS hc hs hl)
theorem xs_dup (hx : p.tables.exec = Jvm.exec) (hb : c.code = cc) {v : Value} (hd : decode cc pc = .ok (.dup, 1)) (hv : (xm_v b v).category = 1) (k : xm_X p l e R s m args below meth c Q b G D cl nL (pc + 1, L, v :: v :: S, M, bc, bs)) : xm_X p l e R s m args below meth c Q b G D cl nL (pc, L, v :: S, M, bc, bs) := fun H locs cells slots ls hP hz hS hc hs hl => lv_dup hx hb hd hv (k H locs cells slots ls hP hz hS hc hs hl)
theorem xs_dup2 (hx : p.tables.exec = Jvm.exec) (hb : c.code = cc) {v w : Value} (hd : decode cc pc = .ok (.dup2, 1)) (hv : (xm_v b v).category = 1) (hw : (xm_v b w).category = 1) (k : xm_X p l e R s m args below meth c Q b G D cl nL (pc + 1, L, v :: w :: v :: w :: S, M, bc, bs)) : xm_X p l e R s m args below meth c Q b G D cl nL (pc, L, v :: w :: S, M, bc, bs) := fun H locs cells slots ls hP hz hS hc hs hl => lv_dup2_11 hx hb hd hv hw (k H locs cells slots ls hP hz hS hc hs hl)
theorem xs_pop (hx : p.tables.exec = Jvm.exec) (hb : c.code = cc) {v : Value} (hd : decode cc pc = .ok (.pop, 1)) (hv : (xm_v b v).category = 1) (k : xm_X p l e R s m args below meth c Q b G D cl nL (pc + 1, L, S, M, bc, bs)) : xm_X p l e R s m args below meth c Q b G D cl nL (pc, L, v :: S, M, bc, bs) := fun H locs cells slots ls hP hz hS hc hs hl => lv_pop hx hb hd hv (k H locs cells slots ls hP hz hS hc hs hl)
theorem xs_goto (hx : p.tables.exec = Jvm.exec) (hb : c.code = cc) {off : Int} {tg : Nat} (hd : decode cc pc = .ok (.goto off, 3)) (ht : (pc : Int) + off = (tg : Int)) (k : xm_X p l e R s m args below meth c Q b G D cl nL (tg, L, S, M, bc, bs)) : xm_X p l e R s m args below meth c Q b G D cl nL (pc, L, S, M, bc, bs) := fun H locs cells slots ls hP hz hS hc hs hl => lv_goto hx hb hd ht (k H locs cells slots ls hP hz hS hc hs hl)
theorem xs_if_eq (hx : p.tables.exec = Jvm.exec) (hb : c.code = cc) {x : Int32} {off : Int} {tg : Nat} (hd : decode cc pc = .ok (.ifCond .eq off, 3)) (ht : (pc : Int) + off = (tg : Int)) (kt : (x = 0) → xm_X p l e R s m args below meth c Q b G D cl nL (tg, L, S, M, bc, bs)) (kf : (¬ x = 0) → xm_X p l e R s m args below meth c Q b G D cl nL (pc + 3, L, S, M, bc, bs)) : xm_X p l e R s m args below meth c Q b G D cl nL (pc, L, .int x :: S, M, bc, bs) := fun H locs cells slots ls hP hz hS hc hs hl => lv_if_eq hx hb hd ht (fun z => kt z H locs cells slots ls hP hz hS hc hs hl) (fun z => kf z H locs cells slots ls hP hz hS hc hs hl)
theorem xs_if_ne (hx : p.tables.exec = Jvm.exec) (hb : c.code = cc) {x : Int32} {off : Int} {tg : Nat} (hd : decode cc pc = .ok (.ifCond .ne off, 3)) (ht : (pc : Int) + off = (tg : Int)) (kt : (¬ x = 0) → xm_X p l e R s m args below meth c Q b G D cl nL (tg, L, S, M, bc, bs)) (kf : (x = 0) → xm_X p l e R s m args below meth c Q b G D cl nL (pc + 3, L, S, M, bc, bs)) : xm_X p l e R s m args below meth c Q b G D cl nL (pc, L, .int x :: S, M, bc, bs) := fun H locs cells slots ls hP hz hS hc hs hl => lv_if_ne hx hb hd ht (fun z => kt z H locs cells slots ls hP hz hS hc hs hl) (fun z => kf z H locs cells slots ls hP hz hS hc hs hl)
theorem xs_if_lt (hx : p.tables.exec = Jvm.exec) (hb : c.code = cc) {x : Int32} {off : Int} {tg : Nat} (hd : decode cc pc = .ok (.ifCond .lt off, 3)) (ht : (pc : Int) + off = (tg : Int)) (kt : (x < 0) → xm_X p l e R s m args below meth c Q b G D cl nL (tg, L, S, M, bc, bs)) (kf : (¬ x < 0) → xm_X p l e R s m args below meth c Q b G D cl nL (pc + 3, L, S, M, bc, bs)) : xm_X p l e R s m args below meth c Q b G D cl nL (pc, L, .int x :: S, M, bc, bs) := fun H locs cells slots ls hP hz hS hc hs hl => lv_if_lt hx hb hd ht (fun z => kt z H locs cells slots ls hP hz hS hc hs hl) (fun z => kf z H locs cells slots ls hP hz hS hc hs hl)
theorem xs_if_ge (hx : p.tables.exec = Jvm.exec) (hb : c.code = cc) {x : Int32} {off : Int} {tg : Nat} (hd : decode cc pc = .ok (.ifCond .ge off, 3)) (ht : (pc : Int) + off = (tg : Int)) (kt : (0 ≤ x) → xm_X p l e R s m args below meth c Q b G D cl nL (tg, L, S, M, bc, bs)) (kf : (¬ 0 ≤ x) → xm_X p l e R s m args below meth c Q b G D cl nL (pc + 3, L, S, M, bc, bs)) : xm_X p l e R s m args below meth c Q b G D cl nL (pc, L, .int x :: S, M, bc, bs) := fun H locs cells slots ls hP hz hS hc hs hl => lv_if_ge hx hb hd ht (fun z => kt z H locs cells slots ls hP hz hS hc hs hl) (fun z => kf z H locs cells slots ls hP hz hS hc hs hl)
theorem xs_if_gt (hx : p.tables.exec = Jvm.exec) (hb : c.code = cc) {x : Int32} {off : Int} {tg : Nat} (hd : decode cc pc = .ok (.ifCond .gt off, 3)) (ht : (pc : Int) + off = (tg : Int)) (kt : (0 < x) → xm_X p l e R s m args below meth c Q b G D cl nL (tg, L, S, M, bc, bs)) (kf : (¬ 0 < x) → xm_X p l e R s m args below meth c Q b G D cl nL (pc + 3, L, S, M, bc, bs)) : xm_X p l e R s m args below meth c Q b G D cl nL (pc, L, .int x :: S, M, bc, bs) := fun H locs cells slots ls hP hz hS hc hs hl => lv_if_gt hx hb hd ht (fun z => kt z H locs cells slots ls hP hz hS hc hs hl) (fun z => kf z H locs cells slots ls hP hz hS hc hs hl)
theorem xs_if_le (hx : p.tables.exec = Jvm.exec) (hb : c.code = cc) {x : Int32} {off : Int} {tg : Nat} (hd : decode cc pc = .ok (.ifCond .le off, 3)) (ht : (pc : Int) + off = (tg : Int)) (kt : (x ≤ 0) → xm_X p l e R s m args below meth c Q b G D cl nL (tg, L, S, M, bc, bs)) (kf : (¬ x ≤ 0) → xm_X p l e R s m args below meth c Q b G D cl nL (pc + 3, L, S, M, bc, bs)) : xm_X p l e R s m args below meth c Q b G D cl nL (pc, L, .int x :: S, M, bc, bs) := fun H locs cells slots ls hP hz hS hc hs hl => lv_if_le hx hb hd ht (fun z => kt z H locs cells slots ls hP hz hS hc hs hl) (fun z => kf z H locs cells slots ls hP hz hS hc hs hl)
theorem xs_icmp_eq (hx : p.tables.exec = Jvm.exec) (hb : c.code = cc) {x y : Int32} {off : Int} {tg : Nat} (hd : decode cc pc = .ok (.if_icmp .eq off, 3)) (ht : (pc : Int) + off = (tg : Int)) (kt : (x = y) → xm_X p l e R s m args below meth c Q b G D cl nL (tg, L, S, M, bc, bs)) (kf : (¬ x = y) → xm_X p l e R s m args below meth c Q b G D cl nL (pc + 3, L, S, M, bc, bs)) : xm_X p l e R s m args below meth c Q b G D cl nL (pc, L, .int y :: .int x :: S, M, bc, bs) := fun H locs cells slots ls hP hz hS hc hs hl => lv_icmp_eq hx hb hd ht (fun z => kt z H locs cells slots ls hP hz hS hc hs hl) (fun z => kf z H locs cells slots ls hP hz hS hc hs hl)
theorem xs_icmp_ne (hx : p.tables.exec = Jvm.exec) (hb : c.code = cc) {x y : Int32} {off : Int} {tg : Nat} (hd : decode cc pc = .ok (.if_icmp .ne off, 3)) (ht : (pc : Int) + off = (tg : Int)) (kt : (¬ x = y) → xm_X p l e R s m args below meth c Q b G D cl nL (tg, L, S, M, bc, bs)) (kf : (x = y) → xm_X p l e R s m args below meth c Q b G D cl nL (pc + 3, L, S, M, bc, bs)) : xm_X p l e R s m args below meth c Q b G D cl nL (pc, L, .int y :: .int x :: S, M, bc, bs) := fun H locs cells slots ls hP hz hS hc hs hl => lv_icmp_ne hx hb hd ht (fun z => kt z H locs cells slots ls hP hz hS hc hs hl) (fun z => kf z H locs cells slots ls hP hz hS hc hs hl)
theorem xs_icmp_lt (hx : p.tables.exec = Jvm.exec) (hb : c.code = cc) {x y : Int32} {off : Int} {tg : Nat} (hd : decode cc pc = .ok (.if_icmp .lt off, 3)) (ht : (pc : Int) + off = (tg : Int)) (kt : (x < y) → xm_X p l e R s m args below meth c Q b G D cl nL (tg, L, S, M, bc, bs)) (kf : (¬ x < y) → xm_X p l e R s m args below meth c Q b G D cl nL (pc + 3, L, S, M, bc, bs)) : xm_X p l e R s m args below meth c Q b G D cl nL (pc, L, .int y :: .int x :: S, M, bc, bs) := fun H locs cells slots ls hP hz hS hc hs hl => lv_icmp_lt hx hb hd ht (fun z => kt z H locs cells slots ls hP hz hS hc hs hl) (fun z => kf z H locs cells slots ls hP hz hS hc hs hl)
theorem xs_icmp_ge (hx : p.tables.exec = Jvm.exec) (hb : c.code = cc) {x y : Int32} {off : Int} {tg : Nat} (hd : decode cc pc = .ok (.if_icmp .ge off, 3)) (ht : (pc : Int) + off = (tg : Int)) (kt : (y ≤ x) → xm_X p l e R s m args below meth c Q b G D cl nL (tg, L, S, M, bc, bs)) (kf : (¬ y ≤ x) → xm_X p l e R s m args below meth c Q b G D cl nL (pc + 3, L, S, M, bc, bs)) : xm_X p l e R s m args below meth c Q b G D cl nL (pc, L, .int y :: .int x :: S, M, bc, bs) := fun H locs cells slots ls hP hz hS hc hs hl => lv_icmp_ge hx hb hd ht (fun z => kt z H locs cells slots ls hP hz hS hc hs hl) (fun z => kf z H locs cells slots ls hP hz hS hc hs hl)
theorem xs_icmp_gt (hx : p.tables.exec = Jvm.exec) (hb : c.code = cc) {x y : Int32} {off : Int} {tg : Nat} (hd : decode cc pc = .ok (.if_icmp .gt off, 3)) (ht : (pc : Int) + off = (tg : Int)) (kt : (y < x) → xm_X p l e R s m args below meth c Q b G D cl nL (tg, L, S, M, bc, bs)) (kf : (¬ y < x) → xm_X p l e R s m args below meth c Q b G D cl nL (pc + 3, L, S, M, bc, bs)) : xm_X p l e R s m args below meth c Q b G D cl nL (pc, L, .int y :: .int x :: S, M, bc, bs) := fun H locs cells slots ls hP hz hS hc hs hl => lv_icmp_gt hx hb hd ht (fun z => kt z H locs cells slots ls hP hz hS hc hs hl) (fun z => kf z H locs cells slots ls hP hz hS hc hs hl)
theorem xs_icmp_le (hx : p.tables.exec = Jvm.exec) (hb : c.code = cc) {x y : Int32} {off : Int} {tg : Nat} (hd : decode cc pc = .ok (.if_icmp .le off, 3)) (ht : (pc : Int) + off = (tg : Int)) (kt : (x ≤ y) → xm_X p l e R s m args below meth c Q b G D cl nL (tg, L, S, M, bc, bs)) (kf : (¬ x ≤ y) → xm_X p l e R s m args below meth c Q b G D cl nL (pc + 3, L, S, M, bc, bs)) : xm_X p l e R s m args below meth c Q b G D cl nL (pc, L, .int y :: .int x :: S, M, bc, bs) := fun H locs cells slots ls hP hz hS hc hs hl => lv_icmp_le hx hb hd ht (fun z => kt z H locs cells slots ls hP hz hS hc hs hl) (fun z => kf z H locs cells slots ls hP hz hS hc hs hl)
theorem xs_iald (hx : p.tables.exec = Jvm.exec) (hb : c.code = cc) (hK : va_K D cl [(G.1, .int), (G.2.1, .long), (G.2.2.1, .object CF)] s) {k n : Nat} {i : Int32} (hk : xm_nth M.1 k = some (0, n)) (hi : vp_in i n) (hd : decode cc pc = .ok (.iaload, 1)) (kk : xm_X p l e R s m args below meth c Q b G D cl nL (pc + 1, L, .int (M.2.1 k i.toNatClampNeg) :: S, M, bc, bs)) : xm_X p l e R s m args below meth c Q b G D cl nL (pc, L, .int i :: .ref k :: S, M, bc, bs) := fun H locs cells slots ls hP hz hS hc hs hl => va_iald hx hb hK hP k 0 (xm_w_at hk) rfl hi hd (kk H locs cells slots ls hP hz hS hc hs hl)
theorem xs_lald (hx : p.tables.exec = Jvm.exec) (hb : c.code = cc) (hK : va_K D cl [(G.1, .int), (G.2.1, .long), (G.2.2.1, .object CF)] s) {k n : Nat} {i : Int32} (hk : xm_nth M.1 k = some (1, n)) (hi : vp_in i n) (hd : decode cc pc = .ok (.laload, 1)) (kk : xm_X p l e R s m args below meth c Q b G D cl nL (pc + 1, L, .long (M.2.2.1 k i.toNatClampNeg) :: S, M, bc, bs)) : xm_X p l e R s m args below meth c Q b G D cl nL (pc, L, .int i :: .ref k :: S, M, bc, bs) := fun H locs cells slots ls hP hz hS hc hs hl => va_lald hx hb hK hP k 1 (xm_w_at hk) rfl hi hd (kk H locs cells slots ls hP hz hS hc hs hl)
theorem xs_aald (hx : p.tables.exec = Jvm.exec) (hb : c.code = cc) (hK : va_K D cl [(G.1, .int), (G.2.1, .long), (G.2.2.1, .object CF)] s) {k n q : Nat} {i : Int32} (hk : xm_nth M.1 k = some (2, n)) (hi : vp_in i n) (hq : M.2.2.2 k i.toNatClampNeg = q + 1) (hd : decode cc pc = .ok (.aaload, 1)) (kk : xm_X p l e R s m args below meth c Q b G D cl nL (pc + 1, L, .ref q :: S, M, bc, bs)) : xm_X p l e R s m args below meth c Q b G D cl nL (pc, L, .int i :: .ref k :: S, M, bc, bs) := by
  intro H locs cells slots ls hP hz hS hc hs hl
  refine va_aldq hx hb hK hP k 2 (xm_w_at hk) rfl hi hd ?_
  show W p l e R s m args below meth c H locs cells slots Q (F0 m (pc + 1) ls (va_rf (xm_q b (M.2.2.2 k i.toNatClampNeg)) :: S.map (xm_v b)))
  rw [hq]
  exact kk H locs cells slots ls hP hz hS hc hs hl
theorem xs_alen (hx : p.tables.exec = Jvm.exec) (hb : c.code = cc) (hK : va_K D cl [(G.1, .int), (G.2.1, .long), (G.2.2.1, .object CF)] s) {k n : Nat} (hk : xm_nth M.1 k = some (0, n)) (hd : decode cc pc = .ok (.arraylength, 1)) (kk : xm_X p l e R s m args below meth c Q b G D cl nL (pc + 1, L, .int (Int32.ofNat n) :: S, M, bc, bs)) : xm_X p l e R s m args below meth c Q b G D cl nL (pc, L, .ref k :: S, M, bc, bs) := fun H locs cells slots ls hP hz hS hc hs hl => va_alen hx hb hK hP k 0 (xm_w_at hk) (ty := .int) rfl rfl hd (kk H locs cells slots ls hP hz hS hc hs hl)
theorem xs_iast (hx : p.tables.exec = Jvm.exec) (hb : c.code = cc) (hK : va_K D cl [(G.1, .int), (G.2.1, .long), (G.2.2.1, .object CF)] s) {k n : Nat} {i x : Int32} (hk : xm_nth M.1 k = some (0, n)) (hi : vp_in i n) (hd : decode cc pc = .ok (.iastore, 1)) (kk : xm_X p l e R s m args below meth c Q b G D cl nL (pc + 1, L, S, (M.1, xm_up M.2.1 k i.toNatClampNeg x, M.2.2), bc, bs)) : xm_X p l e R s m args below meth c Q b G D cl nL (pc, L, .int x :: .int i :: .ref k :: S, M, bc, bs) := by
  intro H locs cells slots ls hP hz hS hc hs hl
  have ha := xm_w_at (b := b) (G := G) hk
  refine W.iast hx hb (hP k _ ha) ((hK.2 0 _ rfl).1 n (fun j => .int (M.2.1 k j))) (fun q => by cases q) (by show ¬ (i < 0 ∨ (arrV _ _ _).slots.size ≤ _); rw [arrV_size]; exact hi) rfl rfl hd fun H1 e1 z oq => ?_
  have he : va_at D cl (b + k, xm_e b G (M.1, xm_up M.2.1 k i.toNatClampNeg x, M.2.2) k (0, n)) H1 := by
    show H1[b + k]? = some (vp_cell G.1 (n, .inl (xm_up M.2.1 k i.toNatClampNeg x k)))
    refine e1.trans ?_
    show some ((vp_cell G.1 (n, .inl (M.2.1 k))).setSlot i.toNatClampNeg (.int x)) = _
    rw [vp_cell_i, vp_cell_i, arrV_store]
    congr 2
    funext q
    rw [xm_up_self]
    by_cases hq : q = i.toNatClampNeg
    · subst hq
      simp [updV]
    · simp [updV, hq]
  have hP1 := hP.set xm_w_D ha he oq
  rw [xm_w_set (M := M) (M' := (M.1, xm_up M.2.1 k i.toNatClampNeg x, M.2.2)) rfl hk rfl (fun _ _ h => xm_eI h)] at hP1
  exact kk H1 _ cells slots ls hP1 (z.trans hz) (hS.put z oq (Nat.le_add_right b k)) hc hs hl
theorem xs_last (hx : p.tables.exec = Jvm.exec) (hb : c.code = cc) (hK : va_K D cl [(G.1, .int), (G.2.1, .long), (G.2.2.1, .object CF)] s) {k n : Nat} {i : Int32} {x : Int64} (hk : xm_nth M.1 k = some (1, n)) (hi : vp_in i n) (hd : decode cc pc = .ok (.lastore, 1)) (kk : xm_X p l e R s m args below meth c Q b G D cl nL (pc + 1, L, S, (M.1, M.2.1, xm_up M.2.2.1 k i.toNatClampNeg x, M.2.2.2), bc, bs)) : xm_X p l e R s m args below meth c Q b G D cl nL (pc, L, .long x :: .int i :: .ref k :: S, M, bc, bs) := by
  intro H locs cells slots ls hP hz hS hc hs hl
  have ha := xm_w_at (b := b) (G := G) hk
  refine W.last hx hb (hP k _ ha) ((hK.2 1 _ rfl).1 n (fun j => .long (M.2.2.1 k j))) (fun q => by cases q) (by show ¬ (i < 0 ∨ (arrV _ _ _).slots.size ≤ _); rw [arrV_size]; exact hi) rfl rfl hd fun H1 e1 z oq => ?_
  have he : va_at D cl (b + k, xm_e b G (M.1, M.2.1, xm_up M.2.2.1 k i.toNatClampNeg x, M.2.2.2) k (1, n)) H1 := by
    show H1[b + k]? = some (vp_cell G.2.1 (n, .inr (.inl (xm_up M.2.2.1 k i.toNatClampNeg x k))))
    refine e1.trans ?_
    show some ((vp_cell G.2.1 (n, .inr (.inl (M.2.2.1 k)))).setSlot i.toNatClampNeg (.long x)) = _
    rw [vp_cell_l, vp_cell_l, arrV_store]
    congr 2
    funext q
    rw [xm_up_self]
    by_cases hq : q = i.toNatClampNeg
    · subst hq
      simp [updV]
    · simp [updV, hq]
  have hP1 := hP.set xm_w_D ha he oq
  rw [xm_w_set (M := M) (M' := (M.1, M.2.1, xm_up M.2.2.1 k i.toNatClampNeg x, M.2.2.2)) rfl hk rfl (fun _ _ h => xm_eL h)] at hP1
  exact kk H1 _ cells slots ls hP1 (z.trans hz) (hS.put z oq (Nat.le_add_right b k)) hc hs hl
theorem xs_aast (hx : p.tables.exec = Jvm.exec) (hb : c.code = cc) {T : u_T} {N ci : Nat} (hc0 : cl[ci]? = some (CF, T, N)) (hK : va_K D cl [(G.1, .int), (G.2.1, .long), (G.2.2.1, .object CF)] s) {k n v : Nat} {i : Int32} (hk : xm_nth M.1 k = some (2, n)) (hi : vp_in i n) (hv : xm_nth M.1 v = some (3, ci)) (hd : decode cc pc = .ok (.aastore, 1)) (kk : xm_X p l e R s m args below meth c Q b G D cl nL (pc + 1, L, S, (M.1, M.2.1, M.2.2.1, xm_up M.2.2.2 k i.toNatClampNeg (v + 1)), bc, bs)) : xm_X p l e R s m args below meth c Q b G D cl nL (pc, L, .ref v :: .int i :: .ref k :: S, M, bc, bs) := by
  intro H locs cells slots ls hP hz hS hc hs hl
  have ha := xm_w_at (b := b) (G := G) hk
  have hw := xm_w_at (b := b) (G := G) hv
  have hlt : i.toNatClampNeg < n := Nat.not_le.mp fun q => hi (Or.inr q)
  have h0 : ¬ i < 0 := fun q => hi (Or.inl q)
  obtain ⟨r', hr', cellV, g1, g2, g3, -⟩ := hP v _ hw
  have hcls := (hK.1 ci _ hc0).2
  obtain ⟨kA, comp, k1, k2, k3, -⟩ := (hK.2 2 _ rfl).2
  have hcomp : comp = D.1 ci := Option.some.inj (k3.symm.trans hcls.1)
  subst hcomp
  obtain ⟨kC, hkC, -⟩ := hcls.2
  refine W.aast hx hb (hP k _ ha) (fun q h => by cases h) (fun h => by cases h) k1 k2 rfl hkC ⟨h0, by show _ < (arrV _ _ _).slots.size; rw [arrV_size]; exact hlt⟩ g1 (fun q h => by rw [g3] at h; cases h) (by rw [g2]; exact hkC) (by rw [g2]; exact va_assign hcls) rfl rfl hd fun H1 e1 z oq => ?_
  have he : va_at D cl (b + k, xm_e b G (M.1, M.2.1, M.2.2.1, xm_up M.2.2.2 k i.toNatClampNeg (v + 1)) k (2, n)) H1 := by
    show H1[b + k]? = some (vp_cell G.2.2.1 (n, .inr (.inr (.inr (.inr (fun j => xm_q b (xm_up M.2.2.2 k i.toNatClampNeg (v + 1) k j)))))))
    refine e1.trans ?_
    show some ((vp_cell G.2.2.1 (n, .inr (.inr (.inr (.inr (fun j => xm_q b (M.2.2.2 k j))))))).setSlot i.toNatClampNeg (.ref (b + v))) = _
    rw [vp_cell_q, vp_cell_q, arrV_store]
    congr 2
    funext q
    rw [xm_up_self]
    by_cases hq : q = i.toNatClampNeg
    · subst hq
      simp [updV, va_rf, xm_q]
    · simp [updV, hq]
  have hP1 := hP.set xm_w_D ha he oq
  rw [xm_w_set (M := M) (M' := (M.1, M.2.1, M.2.2.1, xm_up M.2.2.2 k i.toNatClampNeg (v + 1))) rfl hk rfl (fun _ _ h => xm_eR h)] at hP1
  exact kk H1 _ cells slots ls hP1 (z.trans hz) (hS.put z oq (Nat.le_add_right b k)) hc hs hl
theorem xs_getf (hx : p.tables.exec = Jvm.exec) (hb : c.code = cc) {own C : String} {T : u_T} {N ci ix j t k : Nat} {Ts : List Cond} {v : Value} (hts : ∀ w ∈ Ts, w.before args s = true) (hin : ∀ w ∈ u_ws C T N, w ∈ Ts) (hown : s.vm.findClass own = some m.cls) (hK : va_K D cl tys s) (hc0 : cl[ci]? = some (C, T, N)) (hj : j < N) (hlink : (Cond.fieldLink own ix (T j).1 (T j).2.1 (T j).2.2.1).before args s = true) (hkd : (G.2.2.2 ci)[j]? = some t) (hk : xm_nth M.1 k = some (3, ci)) (hv : xm_fv b M k j t = xm_v b v) (hd : decode cc pc = .ok (.getfield ix, 3)) (kk : xm_X p l e R s m args below meth c Q b G D cl nL (pc + 3, L, v :: S, M, bc, bs)) : xm_X p l e R s m args below meth c Q b G D cl nL (pc, L, .ref k :: S, M, bc, bs) := fun H locs cells slots ls hP hz hS hc hs hl => va_get hx hb hts hin hown hK hP k (xm_w_at hk) hc0 j hj hlink (fun _ h => h) (v := xm_v b v) (by rw [List.getElem?_mapIdx, hkd]; simp only [Option.map_some, hv]) hd (kk H locs cells slots ls hP hz hS hc hs hl)
theorem xs_getfN (hx : p.tables.exec = Jvm.exec) (hb : c.code = cc) {own C host : String} {T : u_T} {N ci ix j t k : Nat} {Ts : List Cond} {v : Value} (hts : ∀ w ∈ Ts, w.before args s = true) (hin : ∀ w ∈ u_ws C T N, w ∈ Ts) (hown : s.vm.findClass own = some m.cls) (hK : va_K D cl tys s) (hc0 : cl[ci]? = some (C, T, N)) (hj : j < N) (hlink : (Cond.fieldLinkNest own ix (T j).1 (T j).2.1 (T j).2.2.1 host).before args s = true) (hkd : (G.2.2.2 ci)[j]? = some t) (hk : xm_nth M.1 k = some (3, ci)) (hv : xm_fv b M k j t = xm_v b v) (hd : decode cc pc = .ok (.getfield ix, 3)) (kk : xm_X p l e R s m args below meth c Q b G D cl nL (pc + 3, L, v :: S, M, bc, bs)) : xm_X p l e R s m args below meth c Q b G D cl nL (pc, L, .ref k :: S, M, bc, bs) := fun H locs cells slots ls hP hz hS hc hs hl => va_getN hx hb hts hin hown hK hP k (xm_w_at hk) hc0 j hj hlink (fun _ h => h) (v := xm_v b v) (by rw [List.getElem?_mapIdx, hkd]; simp only [Option.map_some, hv]) hd (kk H locs cells slots ls hP hz hS hc hs hl)
theorem xs_putf (hx : p.tables.exec = Jvm.exec) (hb : c.code = cc) {own C : String} {T : u_T} {N ci ix j t k : Nat} {Ts : List Cond} {v : Value} {M' : xm_M} (hts : ∀ w ∈ Ts, w.before args s = true) (hin : ∀ w ∈ u_ws C T N, w ∈ Ts) (ty0 : Nat → FieldType) (hty : ∀ k, k < N → parseFieldDescriptor (T k).2.2.1 = some (ty0 k)) (hnm : ∀ a, a < N → ∀ b, b < N → a ≠ b → (T a).2.1 ≠ (T b).2.1) (hown : s.vm.findClass own = some m.cls) (hK : va_K D cl tys s) (hc0 : cl[ci]? = some (C, T, N)) (hj : j < N) (hlink : (Cond.fieldLink own ix (T j).1 (T j).2.1 (T j).2.2.1).before args s = true) (hfin : (T j).2.2.2 = false) (hn : narrow (ty0 j) (xm_v b v) = xm_v b v) (hfit : fits (ty0 j) (xm_v b v) = true) (hkd : (G.2.2.2 ci)[j]? = some t) (hk : xm_nth M.1 k = some (3, ci)) (h1 : M'.1 = M.1) (hv : xm_fv b M' k j t = xm_v b v) (ho : ∀ i t', i ≠ j → xm_fv b M' k i t' = xm_fv b M k i t') (ho2 : ∀ i sh, i ≠ k → xm_e b G M' i sh = xm_e b G M i sh) (hd : decode cc pc = .ok (.putfield ix, 3)) (kk : xm_X p l e R s m args below meth c Q b G D cl nL (pc + 3, L, S, M', bc, bs)) : xm_X p l e R s m args below meth c Q b G D cl nL (pc, L, v :: .ref k :: S, M, bc, bs) := by
  intro H locs cells slots ls hP hz hS0 hc hs hl
  have ha := xm_w_at (b := b) (G := G) hk
  have hlen : j < ((G.2.2.2 ci).mapIdx (fun j t => xm_fv b M k j t)).length := by
    rw [List.length_mapIdx]
    exact (List.getElem?_eq_some_iff.mp hkd).1
  have hap := va_apart (own := own) hts hin ty0 hty hnm hK hc0
  obtain ⟨r, hr0, cell, q1, q2, q3, q4⟩ := hP k _ ha
  have hr : r = (C, T, N) := Option.some.inj (hr0.symm.trans hc0)
  subst hr
  obtain ⟨hS, hfc, kC, hkC, hkind⟩ := hK.1 ci _ hc0
  obtain ⟨cf, kf, fi, f, hi, hsl⟩ := hS j hj
  have hlay := hts _ (hin _ (u_in_lay hj))
  unfold u_lay at hlay
  rw [if_neg (by rw [hfin]; decide)] at hlay
  have hst := (u_facts hfc hkC (u_lays hts hin hj) hi).1
  have h6 := u_store hfc hkC hkind hlay hi (hty j hj) hn hfit
  refine W.putK hx hb (f := f) ⟨hown, hlink, ⟨_, _, _, hi⟩, hst⟩ (by rw [q2]; exact h6) q1 q3 (by rw [hsl]; exact k2_hasslot (q4 j hj)) rfl rfl hd fun H1 e1 e2 e3 => ?_
  rw [hsl] at e1 ⊢
  have hP1 := hP.set xm_w_D ha (show va_at D cl (b + k, .inr (ci, ((G.2.2.2 ci).mapIdx (fun j t => xm_fv b M k j t)).set j (xm_v b v))) H1 from ⟨_, hc0, t_OB.to (V := updV (vp_V _) j (xm_v b v)) ⟨_, e1, q2, q3, t_set q4 hap hj (xm_v b v)⟩ (fun i _ => vp_updV_set hlen (xm_v b v) i)⟩) e3
  rw [xm_fset hkd hv (fun i t' _ h => ho i t' h)] at hP1
  have hP1 : va_P D cl ((xm_w b G M).set k (b + k, .inr (ci, (G.2.2.2 ci).mapIdx (fun j t => xm_fv b M' k j t)))) H1 := hP1
  rw [xm_w_set (M := M) (M' := M') (e' := .inr (ci, (G.2.2.2 ci).mapIdx (fun j t => xm_fv b M' k j t))) h1 hk rfl ho2] at hP1
  refine kk H1 _ cells slots ls hP1 ?_ (hS0.put e2 e3 (Nat.le_add_right b k)) hc hs hl
  show H1.size = b + M'.1.length
  rw [h1]
  exact e2.trans hz
theorem xs_putfF (hx : p.tables.exec = Jvm.exec) (hb : c.code = cc) {own C : String} {T : u_T} {N ci ix j t k : Nat} {Ts : List Cond} {v : Value} {M' : xm_M} (hts : ∀ w ∈ Ts, w.before args s = true) (hin : ∀ w ∈ u_ws C T N, w ∈ Ts) (ty0 : Nat → FieldType) (hty : ∀ k, k < N → parseFieldDescriptor (T k).2.2.1 = some (ty0 k)) (hnm : ∀ a, a < N → ∀ b, b < N → a ≠ b → (T a).2.1 ≠ (T b).2.1) (hown : s.vm.findClass own = some m.cls) (hK : va_K D cl tys s) (hc0 : cl[ci]? = some (C, T, N)) (hj : j < N) (hlink : (Cond.fieldLink own ix (T j).1 (T j).2.1 (T j).2.2.1).before args s = true) (hfin : (T j).2.2.2 = true) (hin2 : meth.name = "<init>") (hdecl : (T j).1 = own) (hn : narrow (ty0 j) (xm_v b v) = xm_v b v) (hfit : fits (ty0 j) (xm_v b v) = true) (hkd : (G.2.2.2 ci)[j]? = some t) (hk : xm_nth M.1 k = some (3, ci)) (h1 : M'.1 = M.1) (hv : xm_fv b M' k j t = xm_v b v) (ho : ∀ i t', i ≠ j → xm_fv b M' k i t' = xm_fv b M k i t') (ho2 : ∀ i sh, i ≠ k → xm_e b G M' i sh = xm_e b G M i sh) (hd : decode cc pc = .ok (.putfield ix, 3)) (kk : xm_X p l e R s m args below meth c Q b G D cl nL (pc + 3, L, S, M', bc, bs)) : xm_X p l e R s m args below meth c Q b G D cl nL (pc, L, v :: .ref k :: S, M, bc, bs) := by
  intro H locs cells slots ls hP hz hS0 hc hs hl
  have ha := xm_w_at (b := b) (G := G) hk
  have hlen : j < ((G.2.2.2 ci).mapIdx (fun j t => xm_fv b M k j t)).length := by
    rw [List.length_mapIdx]
    exact (List.getElem?_eq_some_iff.mp hkd).1
  have hap := va_apart (own := own) hts hin ty0 hty hnm hK hc0
  obtain ⟨r, hr0, cell, q1, q2, q3, q4⟩ := hP k _ ha
  have hr : r = (C, T, N) := Option.some.inj (hr0.symm.trans hc0)
  subst hr
  obtain ⟨hS, hfc, kC, hkC, hkind⟩ := hK.1 ci _ hc0
  obtain ⟨cf, kf, fi, f, hi, hsl⟩ := hS j hj
  have hlay := hts _ (hin _ (u_in_lay hj))
  unfold u_lay at hlay
  rw [if_pos hfin] at hlay
  have hst := (u_facts hfc hkC (u_lays hts hin hj) hi).1
  have hcf : m.cls = cf := by
    obtain ⟨_, _, c', _, _, _, -, -, hf', -, -, -, hown2, -⟩ := Cond.laysFinal_spec hlay
    have e1 : c' = cf := by have := hi.symm.trans hf'; simp at this; exact this.1.symm
    rw [hdecl] at hown2
    rw [← e1]; exact Option.some.inj (hown.symm.trans hown2)
  have h6 := u_fits hfc hkC hkind (Or.inr hlay) hi (hty j hj) hn hfit
  refine W.putFinK hx hb hown hlink hi hst hcf hin2 (by rw [q2]; exact h6) q1 q3 (by rw [hsl]; exact k2_hasslot (q4 j hj)) rfl rfl hd fun H1 e1 e2 e3 => ?_
  rw [hsl] at e1 ⊢
  have hP1 := hP.set xm_w_D ha (show va_at D cl (b + k, .inr (ci, ((G.2.2.2 ci).mapIdx (fun j t => xm_fv b M k j t)).set j (xm_v b v))) H1 from ⟨_, hc0, t_OB.to (V := updV (vp_V _) j (xm_v b v)) ⟨_, e1, q2, q3, t_set q4 hap hj (xm_v b v)⟩ (fun i _ => vp_updV_set hlen (xm_v b v) i)⟩) e3
  rw [xm_fset hkd hv (fun i t' _ h => ho i t' h)] at hP1
  have hP1 : va_P D cl ((xm_w b G M).set k (b + k, .inr (ci, (G.2.2.2 ci).mapIdx (fun j t => xm_fv b M' k j t)))) H1 := hP1
  rw [xm_w_set (M := M) (M' := M') (e' := .inr (ci, (G.2.2.2 ci).mapIdx (fun j t => xm_fv b M' k j t))) h1 hk rfl ho2] at hP1
  refine kk H1 _ cells slots ls hP1 ?_ (hS0.put e2 e3 (Nat.le_add_right b k)) hc hs hl
  show H1.size = b + M'.1.length
  rw [h1]
  exact e2.trans hz
theorem xs_putfN (hx : p.tables.exec = Jvm.exec) (hb : c.code = cc) {own C host : String} {T : u_T} {N ci ix j t k : Nat} {Ts : List Cond} {v : Value} {M' : xm_M} (hts : ∀ w ∈ Ts, w.before args s = true) (hin : ∀ w ∈ u_ws C T N, w ∈ Ts) (ty0 : Nat → FieldType) (hty : ∀ k, k < N → parseFieldDescriptor (T k).2.2.1 = some (ty0 k)) (hnm : ∀ a, a < N → ∀ b, b < N → a ≠ b → (T a).2.1 ≠ (T b).2.1) (hown : s.vm.findClass own = some m.cls) (hK : va_K D cl tys s) (hc0 : cl[ci]? = some (C, T, N)) (hj : j < N) (hlink : (Cond.fieldLinkNest own ix (T j).1 (T j).2.1 (T j).2.2.1 host).before args s = true) (hfin : (T j).2.2.2 = false) (hn : narrow (ty0 j) (xm_v b v) = xm_v b v) (hfit : fits (ty0 j) (xm_v b v) = true) (hkd : (G.2.2.2 ci)[j]? = some t) (hk : xm_nth M.1 k = some (3, ci)) (h1 : M'.1 = M.1) (hv : xm_fv b M' k j t = xm_v b v) (ho : ∀ i t', i ≠ j → xm_fv b M' k i t' = xm_fv b M k i t') (ho2 : ∀ i sh, i ≠ k → xm_e b G M' i sh = xm_e b G M i sh) (hd : decode cc pc = .ok (.putfield ix, 3)) (kk : xm_X p l e R s m args below meth c Q b G D cl nL (pc + 3, L, S, M', bc, bs)) : xm_X p l e R s m args below meth c Q b G D cl nL (pc, L, v :: .ref k :: S, M, bc, bs) := by
  intro H locs cells slots ls hP hz hS0 hc hs hl
  have ha := xm_w_at (b := b) (G := G) hk
  have hlen : j < ((G.2.2.2 ci).mapIdx (fun j t => xm_fv b M k j t)).length := by
    rw [List.length_mapIdx]
    exact (List.getElem?_eq_some_iff.mp hkd).1
  have hap := va_apart (own := own) hts hin ty0 hty hnm hK hc0
  obtain ⟨r, hr0, cell, q1, q2, q3, q4⟩ := hP k _ ha
  have hr : r = (C, T, N) := Option.some.inj (hr0.symm.trans hc0)
  subst hr
  obtain ⟨hS, hfc, kC, hkC, hkind⟩ := hK.1 ci _ hc0
  obtain ⟨cf, kf, fi, f, hi, hsl⟩ := hS j hj
  have hlay := hts _ (hin _ (u_in_lay hj))
  unfold u_lay at hlay
  rw [if_neg (by rw [hfin]; decide)] at hlay
  have hst := (u_facts hfc hkC (u_lays hts hin hj) hi).1
  have h6 := u_store hfc hkC hkind hlay hi (hty j hj) hn hfit
  refine va_WputK hx hb (f := f) hown hlink hi hst (by rw [q2]; exact h6) q1 q3 (by rw [hsl]; exact k2_hasslot (q4 j hj)) rfl rfl hd fun H1 e1 e2 e3 => ?_
  rw [hsl] at e1 ⊢
  have hP1 := hP.set xm_w_D ha (show va_at D cl (b + k, .inr (ci, ((G.2.2.2 ci).mapIdx (fun j t => xm_fv b M k j t)).set j (xm_v b v))) H1 from ⟨_, hc0, t_OB.to (V := updV (vp_V _) j (xm_v b v)) ⟨_, e1, q2, q3, t_set q4 hap hj (xm_v b v)⟩ (fun i _ => vp_updV_set hlen (xm_v b v) i)⟩) e3
  rw [xm_fset hkd hv (fun i t' _ h => ho i t' h)] at hP1
  have hP1 : va_P D cl ((xm_w b G M).set k (b + k, .inr (ci, (G.2.2.2 ci).mapIdx (fun j t => xm_fv b M' k j t)))) H1 := hP1
  rw [xm_w_set (M := M) (M' := M') (e' := .inr (ci, (G.2.2.2 ci).mapIdx (fun j t => xm_fv b M' k j t))) h1 hk rfl ho2] at hP1
  refine kk H1 _ cells slots ls hP1 ?_ (hS0.put e2 e3 (Nat.le_add_right b k)) hc hs hl
  show H1.size = b + M'.1.length
  rw [h1]
  exact e2.trans hz
theorem xs_grow {H H1 : Heap} {M' : xm_M} {sh : Nat × Nat} (hP : va_P D cl (xm_w b G M) H) (hz : H.size = b + M.1.length) (h1 : M'.1 = M.1 ++ [sh]) (ho : ∀ i sh', i < M.1.length → xm_e b G M' i sh' = xm_e b G M i sh') (hn : va_at D cl (H.size, xm_e b G M' M.1.length sh) H1) (o1 : ∀ q : Nat, q < H.size → H1[q]? = H[q]?) : va_P D cl (xm_w b G M') H1 := by
  intro k q hk
  rw [xm_w_get, h1] at hk
  by_cases hl : k < M.1.length
  · rw [List.getElem?_append_left hl] at hk
    cases hm : M.1[k]? with
    | none => rw [hm] at hk; cases hk
    | some sh' =>
      rw [hm] at hk
      cases hk
      show va_at D cl (b + k, xm_e b G M' k sh') H1
      rw [ho k sh' hl]
      refine (hP k _ (xm_w_at (by rw [xm_nth_eq]; exact hm))).kept (o1 _ ?_)
      show b + k < H.size
      omega
  · rw [List.getElem?_append_right (by omega)] at hk
    have hz1 : k - M.1.length < 1 := by
      cases hm : [sh][k - M.1.length]? with
      | none => rw [hm] at hk; cases hk
      | some z => exact (List.getElem?_eq_some_iff.mp hm).1
    have hk0 : k = M.1.length := by omega
    subst hk0
    rw [Nat.sub_self] at hk
    cases hk
    show va_at D cl (b + M.1.length, xm_e b G M' M.1.length sh) H1
    rw [← hz]
    exact hn
theorem xm_row_ne {α : Type} {f : Nat → Nat → α} {k a : Nat} {v : α} (h : a ≠ k) : xm_row f k v a = f a := by
  funext j
  show (bif Nat.beq a k then v else f a j) = f a j
  rw [xm_bne h]
  rfl
theorem xm_row_self {α : Type} {f : Nat → Nat → α} {k : Nat} {v : α} : xm_row f k v k = fun _ => v := by
  funext j
  show (bif Nat.beq k k then v else f k j) = v
  rw [xm_brf]
  rfl
theorem xm_e_same {M' : xm_M} {i : Nat} {sh : Nat × Nat} (h1 : M'.2.1 i = M.2.1 i) (h2 : M'.2.2.1 i = M.2.2.1 i) (h3 : M'.2.2.2 i = M.2.2.2 i) : xm_e b G M' i sh = xm_e b G M i sh := by
  have e2 : (fun z t => xm_fv b M' i z t) = (fun z t => xm_fv b M i z t) := by
    funext z t
    unfold xm_fv
    rw [h1, h2, h3]
  unfold xm_e
  rw [h1, h2, h3, e2]
theorem xs_newI (hx : p.tables.exec = Jvm.exec) (hb : c.code = cc) (hK : va_K D cl [(G.1, .int), (G.2.1, .long), (G.2.2.1, .object CF)] s) (harr : (Cond.arrayClass .int).before args s = true) {N : Nat} {n : Int32} (hn : ¬ n < 0) (hN : n.toNatClampNeg = N) (hbytes : N * 4 ≤ 536870912) (h1c : 1 ≤ bc) (h1s : N ≤ bs) (hd : decode cc pc = .ok (.newarray .int, 2)) (kk : xm_X p l e R s m args below meth c Q b G D cl nL (pc + 2, L, .ref M.1.length :: S, (M.1 ++ [(0, N)], xm_row M.2.1 M.1.length 0, xm_row M.2.2.1 M.1.length 0, M.2.2.2), bc - 1, bs - N)) : xm_X p l e R s m args below meth c Q b G D cl nL (pc, L, .int n :: S, M, bc, bs) := by
  intro H locs cells slots ls hP hz hS hc hs hl
  have hz : H.size = b + M.1.length := hz
  have hc : cells + bc = R.cells := hc
  have hs : slots + bs = R.slots := hs
  refine va_newaK (cc := cc) hx hb (atype := .int) harr rfl hd rfl hn hN hbytes (by omega) (by omega) rfl fun H1 cA e1 z1 o1 hAr hNm => ?_
  have hcA : cA = G.1 := Option.some.inj (hNm.symm.trans (hK.2 0 _ rfl).2)
  subst hcA
  have hP1 : va_P D cl (xm_w b G (M.1 ++ [(0, N)], xm_row M.2.1 M.1.length 0, xm_row M.2.2.1 M.1.length 0, M.2.2.2)) H1 := by
    refine xs_grow hP hz rfl (fun i sh' hi => xm_e_same (xm_row_ne (by omega)) (xm_row_ne (by omega)) rfl) ?_ o1
    show H1[H.size]? = some (vp_cell G.1 (N, .inl (xm_row M.2.1 M.1.length 0 M.1.length)))
    rw [e1, xm_row_self]
    rfl
  have := kk H1 locs (cells + 1) (slots + N) ls hP1 (by rw [z1, hz]; simp; omega) ⟨Nat.le_trans hS.1 (by omega), fun x h1 h2 => (o1 x (Nat.lt_of_lt_of_le h1 hS.1)).trans (hS.2.1 x h1 h2), hS.2.2⟩ (by show cells + 1 + (bc - 1) = R.cells; omega) (by show slots + N + (bs - N) = R.slots; omega) hl
  rw [hz]
  exact this
end XO
