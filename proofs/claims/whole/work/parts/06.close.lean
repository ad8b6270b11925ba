def xm_len (i : Jvm.ClassFile.Instr) (q : Nat) : Nat := match i with
  | .tableswitch _ _ _ _ => q
  | .bipush _ => 2
  | .ldc _ => 2
  | .iload _ => 2
  | .lload _ => 2
  | .aload _ => 2
  | .istore _ => 2
  | .lstore _ => 2
  | .astore _ => 2
  | .newarray _ => 2
  | .sipush _ => 3
  | .ldc2_w _ => 3
  | .ldc_w _ => 3
  | .iinc _ _ => 3
  | .goto _ => 3
  | .ifCond _ _ => 3
  | .if_icmp _ _ => 3
  | .getfield _ => 3
  | .putfield _ => 3
  | .anewarray _ => 3
  | .new _ => 3
  | .invokevirtual _ => 3
  | .invokestatic _ => 3
  | .invokespecial _ => 3
  | _ => 1
/-- what is fixed of the methods: code, answer, places, room (frames, locals), class, parameters, kind (0 of an object, 1 static, 2 the making) -/
abbrev xm_V : Type := (Nat → ByteArray) × (Nat → Option FieldType) × (Nat → Nat) × (Nat → Nat × Nat) × (Nat → Nat) × (Nat → Nat) × (Nat → Nat)
/-- links: fields, fields of nest mates, methods, methods of nest mates, classes, Object's making, ints, longs, Math.max -/
abbrev xm_K : Type := List (Nat × Nat × Nat × Nat) × List (Nat × Nat × Nat × Nat) × List (Nat × Nat × Nat) × List (Nat × Nat × Nat) × List (Nat × Nat × Nat) × List (Nat × Nat) × List (Nat × Nat × Int32) × List (Nat × Nat × Int64) × List (Nat × Nat)
/-- of the objects' classes: kinds of fields, final fields; the class of the objects in arrays -/
abbrev xm_J : Type := (Nat → List Nat) × (Nat → Nat → Bool) × Nat × (Nat → Nat)
def xm_chk (V : xm_V) (K : xm_K) (J : xm_J) (mm pc : Nat) (e : xm_E) : Bool := match e with
  | (ins, nx, tg, _, _, (a, b, c, d), kI, kL, sw) =>
    decide (decode (V.1 mm) pc = .ok (ins, xm_len ins (nx - pc))) && (decide (nx = pc + xm_len ins (nx - pc)) && match ins with
    | .iconst n => decide (Int32.ofInt n = kI)
    | .bipush n => decide ((Int8.ofInt n).toInt32 = kI)
    | .sipush n => decide ((Int16.ofInt n).toInt32 = kI)
    | .lconst n => decide (Int64.ofNat (n : Nat) = kL)
    | .ldc ix => decide ((V.2.2.2.2.1 mm, ix, kI) ∈ K.2.2.2.2.2.2.1)
    | .ldc_w ix => decide ((V.2.2.2.2.1 mm, ix, kI) ∈ K.2.2.2.2.2.2.1)
    | .ldc2_w ix => decide ((V.2.2.2.2.1 mm, ix, kL) ∈ K.2.2.2.2.2.2.2.1)
    | .iload_n i => decide ((i : Nat) = a)
    | .lload_n i => decide ((i : Nat) = a)
    | .aload_n i => decide ((i : Nat) = a)
    | .iload i => decide (i = a)
    | .lload i => decide (i = a)
    | .aload i => decide (i = a)
    | .istore_n i => decide ((i : Nat) = a) && decide (a < V.2.2.1 mm)
    | .lstore_n i => decide ((i : Nat) = a) && decide (a + 1 < V.2.2.1 mm)
    | .astore_n i => decide ((i : Nat) = a) && decide (a < V.2.2.1 mm)
    | .istore i => decide (i = a) && decide (a < V.2.2.1 mm)
    | .lstore i => decide (i = a) && decide (a + 1 < V.2.2.1 mm)
    | .astore i => decide (i = a) && decide (a < V.2.2.1 mm)
    | .iinc i n => decide (i = a) && (decide (Int32.ofInt n = kI) && decide (a < V.2.2.1 mm))
    | .goto off => decide ((pc : Int) + off = (tg : Int))
    | .ifCond _ off => decide ((pc : Int) + off = (tg : Int))
    | .if_icmp _ off => decide ((pc : Int) + off = (tg : Int))
    | .tableswitch df lo hi offs => xm_swk pc lo hi offs sw && decide ((pc : Int) + df = (tg : Int))
    | .getfield ix => decide ((J.1 a)[b]? = some c) && (decide ((V.2.2.2.2.1 mm, ix, a, b) ∈ K.1) || decide ((V.2.2.2.2.1 mm, ix, a, b) ∈ K.2.1))
    | .putfield ix => decide ((J.1 a)[b]? = some c) && ((decide ((V.2.2.2.2.1 mm, ix, a, b) ∈ K.1) && (!(J.2.1 a b) || (decide (V.2.2.2.2.2.2 mm = 2) && decide (V.2.2.2.2.1 mm = a)))) || (decide ((V.2.2.2.2.1 mm, ix, a, b) ∈ K.2.1) && !(J.2.1 a b)))
    | .aastore => decide (a = J.2.2.1)
    | .newarray t => ((decide (t = .int) && decide (a = 0)) || (decide (t = .long) && decide (a = 1))) && (decide (kI.toNatClampNeg = b) && (decide (¬ kI < 0) && decide (b * 8 ≤ 536870912)))
    | .anewarray ix => decide ((V.2.2.2.2.1 mm, ix, J.2.2.1) ∈ K.2.2.2.2.1) && (decide (kI.toNatClampNeg = b) && (decide (¬ kI < 0) && decide (b * 8 ≤ 536870912)))
    | .new ix => decide ((V.2.2.2.2.1 mm, ix, a) ∈ K.2.2.2.2.1) && decide (J.2.2.2 a = b)
    | .invokevirtual ix => (decide ((V.2.2.2.2.1 mm, ix, a) ∈ K.2.2.1) || decide ((V.2.2.2.2.1 mm, ix, a) ∈ K.2.2.2.1)) && (decide (V.2.2.2.2.2.2 a = 0) && (decide (V.2.2.2.2.2.1 a = b) && (decide (V.2.2.2.2.1 a = c) && (decide ((V.2.2.2.1 a).1 + 1 ≤ (V.2.2.2.1 mm).1) && decide (V.2.2.1 a + 19 + (V.2.2.2.1 a).2 ≤ (V.2.2.2.1 mm).2)))))
    | .invokestatic ix => (match d with
      | 2 => decide ((V.2.2.2.2.1 mm, ix) ∈ K.2.2.2.2.2.2.2.2) && (decide (1 ≤ (V.2.2.2.1 mm).1) && decide (21 ≤ (V.2.2.2.1 mm).2))
      | _ => (decide ((V.2.2.2.2.1 mm, ix, a) ∈ K.2.2.1) || decide ((V.2.2.2.2.1 mm, ix, a) ∈ K.2.2.2.1)) && (decide (V.2.2.2.2.2.2 a = 1) && (decide (V.2.2.2.2.2.1 a = b) && (decide ((V.2.2.2.1 a).1 + 1 ≤ (V.2.2.2.1 mm).1) && decide (V.2.2.1 a + 19 + (V.2.2.2.1 a).2 ≤ (V.2.2.2.1 mm).2)))))
    | .invokespecial ix => match d with
      | 0 => decide ((V.2.2.2.2.1 mm, ix) ∈ K.2.2.2.2.2.1) && (decide (1 ≤ (V.2.2.2.1 mm).1) && decide (20 ≤ (V.2.2.2.1 mm).2))
      | _ => (decide ((V.2.2.2.2.1 mm, ix, a) ∈ K.2.2.1) || decide ((V.2.2.2.2.1 mm, ix, a) ∈ K.2.2.2.1)) && (decide (V.2.2.2.2.2.2 a = 2) && (decide (V.2.2.2.2.2.1 a = b) && (decide ((V.2.2.2.1 a).1 + 1 ≤ (V.2.2.2.1 mm).1) && decide (V.2.2.1 a + 19 + (V.2.2.2.1 a).2 ≤ (V.2.2.2.1 mm).2))))
    | .ireturn => match d with
      | 0 => decide (V.2.1 mm = some .int)
      | _ => decide (V.2.1 mm = some .boolean)
    | .lreturn => decide (V.2.1 mm = some .long)
    | .return_ => decide (V.2.1 mm = none)
    | _ => true)
section XE
variable {ic : xm_C} {P : xm_R → Prop} {X : xm_S → Prop}
theorem xe_pI {S : List Value} {k : Int32 → List Value → xm_O} (h : xm_F ic P X (xm_pI S k)) : ∃ x S', S = .int x :: S' ∧ xm_F ic P X (k x S') := by
  unfold xm_pI at h
  split at h
  · exact ⟨_, _, rfl, h⟩
  · exact False.elim h
theorem xe_pL {S : List Value} {k : Int64 → List Value → xm_O} (h : xm_F ic P X (xm_pL S k)) : ∃ x S', S = .long x :: S' ∧ xm_F ic P X (k x S') := by
  unfold xm_pL at h
  split at h
  · exact ⟨_, _, rfl, h⟩
  · exact False.elim h
theorem xe_pR {S : List Value} {k : Nat → List Value → xm_O} (h : xm_F ic P X (xm_pR S k)) : ∃ x S', S = .ref x :: S' ∧ xm_F ic P X (k x S') := by
  unfold xm_pR at h
  split at h
  · exact ⟨_, _, rfl, h⟩
  · exact False.elim h
theorem xe_gI {L : xm_L} {i : Nat} {k : Int32 → xm_O} (h : xm_F ic P X (xm_gI L i k)) : ∃ x, xm_nth L i = some (some (.int x)) ∧ xm_F ic P X (k x) := by
  unfold xm_gI at h
  split at h
  · rename_i x hx
    exact ⟨_, hx, h⟩
  · exact False.elim h
theorem xe_gL {L : xm_L} {i : Nat} {k : Int64 → xm_O} (h : xm_F ic P X (xm_gL L i k)) : ∃ x, xm_nth L i = some (some (.long x)) ∧ xm_F ic P X (k x) := by
  unfold xm_gL at h
  split at h
  · rename_i x hx
    exact ⟨_, hx, h⟩
  · exact False.elim h
theorem xe_gR {L : xm_L} {i : Nat} {k : Nat → xm_O} (h : xm_F ic P X (xm_gR L i k)) : ∃ x, xm_nth L i = some (some (.ref x)) ∧ xm_F ic P X (k x) := by
  unfold xm_gR at h
  split at h
  · rename_i x hx
    exact ⟨_, hx, h⟩
  · exact False.elim h
theorem xe_sh {M : xm_M} {k kind : Nat} {f : Nat → xm_O} (h : xm_F ic P X (xm_sh M k kind f)) : ∃ n, xm_nth M.1 k = some (kind, n) ∧ xm_F ic P X (f n) := by
  unfold xm_sh at h
  split at h
  · rename_i t n hx
    cases hb : Nat.beq t kind with
    | false => rw [hb] at h; exact False.elim h
    | true =>
      rw [hb] at h
      have e : t = kind := Nat.eq_of_beq_eq_true hb
      exact ⟨n, by rw [hx, e], h⟩
  · exact False.elim h
theorem xe_if {q : Bool} {o : xm_O} (h : xm_F ic P X (xm_if q o)) : q = true ∧ xm_F ic P X o := by
  cases q with
  | false => exact False.elim h
  | true => exact ⟨rfl, h⟩
theorem xe_rv {x : Nat} {k : Nat → xm_O} (h : xm_F ic P X (xm_rv x k)) : ∃ q, x = q + 1 ∧ xm_F ic P X (k q) := by
  cases x with
  | zero => exact False.elim h
  | succ q => exact ⟨q, rfl, h⟩
theorem xe_pop : ∀ {n : Nat} {acc S : List Value} {k : List Value → List Value → xm_O}, xm_F ic P X (xm_pop n acc S k) → ∃ As S', As.length = n + acc.length ∧ As.reverse ++ S' = acc.reverse ++ S ∧ xm_F ic P X (k As S')
  | 0, acc, S, k, h => ⟨acc, S, by omega, rfl, h⟩
  | n + 1, acc, [], k, h => False.elim h
  | n + 1, acc, v :: S, k, h => by
    obtain ⟨As, S', h1, h2, h3⟩ := xe_pop (n := n) (acc := v :: acc) (S := S) (k := k) h
    exact ⟨As, S', by rw [h1]; simp; omega, by rw [h2]; simp, h3⟩
end XE
theorem xm_and {a b : Bool} (h : (a && b) = true) : a = true ∧ b = true := by
  rw [Bool.and_eq_true] at h
  exact h
theorem xm_or {a b : Bool} (h : (a || b) = true) : a = true ∨ b = true := by
  rw [Bool.or_eq_true] at h
  exact h
theorem xm_dc {q : Prop} {i : Decidable q} (h : @decide q i = true) : q := of_decide_eq_true h
/-- the kind of a field and its type -/
def xm_kt (t : Nat) (ty : FieldType) : Prop := match t with
  | 0 => ty = .int
  | 1 => ty = .long
  | 2 => (∃ n, ty = .object n) ∨ ∃ z, ty = .array z
  | _ => ty = .boolean
/-- what the tables' words lg and the nest's words Ns say of the links K -/
def xm_LK (yy : Nat → MethodName) (nm : Nat → String) (V : xm_V) (K : xm_K) (J : xm_J) (cl : List vw_C) (tyf : Nat → Nat → FieldType) (lg Ns : List Cond) (CF : String) : Prop :=
  (∀ w ∈ lg, goodWord w = true) ∧ (∀ w ∈ Ns, xm_isN w = true) ∧ Cond.arrayClass .int ∈ lg ∧ Cond.arrayClass .long ∈ lg ∧
  (∀ ci C T N, cl[ci]? = some (C, T, N) → nm ci = C ∧ (∀ w ∈ u_ws C T N, w ∈ lg) ∧ (∀ k, k < N → parseFieldDescriptor (T k).2.2.1 = some (tyf ci k)) ∧ (∀ a, a < N → ∀ b, b < N → a ≠ b → (T a).2.1 ≠ (T b).2.1) ∧ (∀ j, j < N → ∃ t, (J.1 ci)[j]? = some t ∧ xm_kt t (tyf ci j) ∧ J.2.1 ci j = (T j).2.2.2 ∧ ((T j).2.2.2 = true → (T j).1 = C)) ∧ (J.1 ci).length = N ∧ J.2.2.2 ci = N) ∧
  (∃ T N, cl[J.2.2.1]? = some (CF, T, N)) ∧
  (∀ o ix ci j, (o, ix, ci, j) ∈ K.1 → ∃ C T N, cl[ci]? = some (C, T, N) ∧ Cond.fieldLink (nm o) ix (T j).1 (T j).2.1 (T j).2.2.1 ∈ lg) ∧
  (∀ o ix ci j, (o, ix, ci, j) ∈ K.2.1 → ∃ C T N host, cl[ci]? = some (C, T, N) ∧ Cond.fieldLinkNest (nm o) ix (T j).1 (T j).2.1 (T j).2.2.1 host ∈ Ns) ∧
  (∀ o ix a, (o, ix, a) ∈ K.2.2.1 → Cond.methodLink (nm o) ix (yy a) ∈ lg) ∧
  (∀ o ix a, (o, ix, a) ∈ K.2.2.2.1 → ∃ host, Cond.methodLinkNest (nm o) ix (yy a) host ∈ Ns) ∧
  (∀ o ix ci, (o, ix, ci) ∈ K.2.2.2.2.1 → ∃ C T N, cl[ci]? = some (C, T, N) ∧ Cond.classLink (nm o) ix C ∈ lg ∧ Cond.instantiable C N ∈ lg ∧ Cond.initialized C ∈ lg) ∧
  ((∀ o ix, (o, ix) ∈ K.2.2.2.2.2.1 → Cond.methodLink (nm o) ix Lib.objectInit ∈ lg) ∧ Cond.instanceMethod Lib.objectInit ∈ lg ∧ Cond.code Lib.objectInit ⟨#[0xb1]⟩ 1 none ∈ lg) ∧
  (∀ o ix v, (o, ix, v) ∈ K.2.2.2.2.2.2.1 → Jvm.Cond.constant (nm o) ix v ∈ lg) ∧
  (∀ o ix v, (o, ix, v) ∈ K.2.2.2.2.2.2.2.1 → Jvm.Cond.constantLong (nm o) ix v ∈ lg) ∧
  ((∀ o ix, (o, ix) ∈ K.2.2.2.2.2.2.2.2 → Cond.methodLink (nm o) ix Lib.Math.max.name ∈ lg) ∧ Cond.static Lib.Math.max.name ∈ lg ∧ Cond.initialized "java/lang/Math" ∈ lg ∧ Cond.code Lib.Math.max.name Lib.Math.max.code 2 (some .int) ∈ lg)
/-- a method and its words -/
def xm_MW (yy : Nat → MethodName) (nm : Nat → String) (V : xm_V) (cl : List vw_C) (lg : List Cond) (a : Nat) : Prop :=
  nm (V.2.2.2.2.1 a) = (yy a).cls ∧ plainName (yy a).cls = true ∧ Cond.code (yy a) (V.1 a) (V.2.2.1 a) (V.2.1 a) ∈ lg ∧ Cond.initialized (yy a).cls ∈ lg ∧ ((yy a).cls ≠ "java/lang/invoke/MethodHandle" ∧ (yy a).cls ≠ "java/lang/invoke/VarHandle" ∧ (parseMethodDescriptor (yy a).desc).map (fun d => d.parameters.length) = some (V.2.2.2.2.2.1 a)) ∧
  (V.2.2.2.2.2.2 a = 0 → Cond.instanceMethod (yy a) ∈ lg ∧ Cond.selects (yy a).cls (yy a) (yy a) ∈ lg ∧ ∃ C T N, cl[V.2.2.2.2.1 a]? = some (C, T, N)) ∧ (V.2.2.2.2.2.2 a = 1 → Cond.static (yy a) ∈ lg) ∧ (V.2.2.2.2.2.2 a = 2 → (yy a).name = "<init>" ∧ Cond.instanceMethod (yy a) ∈ lg ∧ V.2.1 a = none)
def xm_ws (yy : Nat → MethodName) (V : xm_V) (lg : List Cond) (a : Nat) : List Cond := Cond.code (yy a) (V.1 a) (V.2.2.1 a) (V.2.1 a) :: lg
def xm_rm (Z : xm_Z) (V : xm_V) (a : Nat) : Room := { frames := (V.2.2.2.1 a).1, cells := (Z.2.2 a).1, slots := (Z.2.2 a).2, locals := (V.2.2.2.1 a).2 }
abbrev xm_tys (G : xm_G) (CF : String) : List (ClassId × FieldType) := [(G.1, .int), (G.2.1, .long), (G.2.2.1, .object CF)]
/-- the contract that the machine keeps -/
def xm_Met (l : Launch) (Z : xm_Z) (yy : Nat → MethodName) (V : xm_V) (lg Ns : List Cond) (CF : String) (b : Nat) (G : xm_G) (D : va_G) (cl : List vw_C) (a : Nat) (av : List Value) (M : xm_M) (P : xm_R → Prop) : Prop :=
  Met l (yy a) (xm_ws yy V lg a) (xm_rm Z V a) (xm_Pc b G D cl (xm_tys G CF) Ns CF av M) (xm_Qc b G D cl P) (Z.2.2 a).1 (Z.2.2 a).2 (fun q => b ≤ q)
theorem xm_good {yy : Nat → MethodName} {V : xm_V} {lg : List Cond} (hg : ∀ w ∈ lg, goodWord w = true) {mm a : Nat} (hc : Cond.code (yy a) (V.1 a) (V.2.2.1 a) (V.2.1 a) ∈ lg) : GoodIn (xm_ws yy V lg mm) (xm_ws yy V lg a) := by
  intro w hw
  have hl : w ∈ lg := by
    rcases List.mem_cons.mp hw with h | h
    · rw [h]; exact hc
    · exact h
  exact ⟨List.mem_cons_of_mem _ hl, good_of_word (hg w hl)⟩
