/-- bytes, the least first -/
def val : List Nat → Nat
  | [] => 0
  | b :: t => b + 256 * val t
theorem land_split {b c m d : Nat} (hb : b < 256) (hc : c < 256) : (b + 256 * m) &&& (c + 256 * d) = (b &&& c) + 256 * (m &&& d) := by
  apply Nat.eq_of_testBit_eq
  intro i
  have hbc : b &&& c < 2 ^ 8 := Nat.and_lt_two_pow _ hc
  rw [show b + 256 * m = 2 ^ 8 * m + b by omega, show c + 256 * d = 2 ^ 8 * d + c by omega, show (b &&& c) + 256 * (m &&& d) = 2 ^ 8 * (m &&& d) + (b &&& c) by omega, Nat.testBit_and, Nat.testBit_two_pow_mul_add _ hb, Nat.testBit_two_pow_mul_add _ hc, Nat.testBit_two_pow_mul_add _ hbc]
  split <;> rw [Nat.testBit_and]
def lo (l : List Nat) : Prop := ∀ b, b ∈ l → b < 256
theorem lo.tl {b : Nat} {t : List Nat} (h : lo (b :: t)) : lo t := fun x hx => h x (List.mem_cons_of_mem _ hx)
theorem lo.hd {b : Nat} {t : List Nat} (h : lo (b :: t)) : b < 256 := h b (List.mem_cons_self ..)
theorem q55 : ∀ b, b < 256 → ∀ x, x < 2 → (b / 2 + 128 * x) &&& 85 = b / 2 &&& 85 := by decide +kernel
theorem q33 : ∀ b, b < 256 → ∀ x, x < 4 → (b / 4 + 64 * x) &&& 51 = b / 4 &&& 51 := by decide +kernel
theorem q0f : ∀ b, b < 256 → b &&& 15 = b % 16 := by decide +kernel
theorem val55 : ∀ l, lo l → (val l / 2) &&& val (l.map fun _ => 85) = val (l.map fun b => b / 2 &&& 85)
  | [], _ => rfl
  | b :: t, h => by
    have ih := val55 t h.tl
    have hb := h.hd
    show ((b + 256 * val t) / 2) &&& (85 + 256 * val (t.map fun _ => 85)) = (b / 2 &&& 85) + 256 * val (t.map fun b => b / 2 &&& 85)
    rw [show (b + 256 * val t) / 2 = (b / 2 + 128 * (val t % 2)) + 256 * (val t / 2) by omega, land_split (by omega) (by decide), q55 b hb _ (Nat.mod_lt _ (by decide)), ih]
theorem val33 : ∀ l, lo l → val l &&& val (l.map fun _ => 51) = val (l.map fun b => b &&& 51)
  | [], _ => rfl
  | b :: t, h => by
    have ih := val33 t h.tl
    have hb := h.hd
    show (b + 256 * val t) &&& (51 + 256 * val (t.map fun _ => 51)) = (b &&& 51) + 256 * val (t.map fun b => b &&& 51)
    rw [land_split hb (by decide), ih]
theorem val33' : ∀ l, lo l → (val l / 4) &&& val (l.map fun _ => 51) = val (l.map fun b => b / 4 &&& 51)
  | [], _ => rfl
  | b :: t, h => by
    have ih := val33' t h.tl
    have hb := h.hd
    show ((b + 256 * val t) / 4) &&& (51 + 256 * val (t.map fun _ => 51)) = (b / 4 &&& 51) + 256 * val (t.map fun b => b / 4 &&& 51)
    rw [show (b + 256 * val t) / 4 = (b / 4 + 64 * (val t % 4)) + 256 * (val t / 4) by omega, land_split (by omega) (by decide), q33 b hb _ (Nat.mod_lt _ (by decide)), ih]
theorem val_sub {f : Nat → Nat} (hf : ∀ b, f b ≤ b) : ∀ l, val l - val (l.map f) = val (l.map fun b => b - f b) ∧ val (l.map f) ≤ val l
  | [] => ⟨rfl, Nat.le_refl 0⟩
  | b :: t => by
    obtain ⟨h1, h2⟩ := val_sub hf t
    have := hf b
    constructor
    · show (b + 256 * val t) - (f b + 256 * val (t.map f)) = (b - f b) + 256 * val (t.map fun b => b - f b)
      omega
    · show f b + 256 * val (t.map f) ≤ b + 256 * val t
      omega
theorem val_add {f g : Nat → Nat} : ∀ l : List Nat, val (l.map f) + val (l.map g) = val (l.map fun b => f b + g b)
  | [] => rfl
  | b :: t => by
    have h := val_add (f := f) (g := g) t
    show (f b + 256 * val (t.map f)) + (g b + 256 * val (t.map g)) = (f b + g b) + 256 * val (t.map fun b => f b + g b)
    omega
theorem val0f : ∀ l, (∀ b, b ∈ l → b % 16 ≤ 4 ∧ b / 16 ≤ 4) → (val l + val l / 16) &&& val (l.map fun _ => 15) = val (l.map fun b => b % 16 + b / 16) ∧ val l % 16 ≤ 4
  | [], _ => ⟨rfl, by decide⟩
  | b :: t, h => by
    obtain ⟨h1, h2⟩ := val0f t (fun x hx => h x (List.mem_cons_of_mem _ hx))
    have hb := h b (List.mem_cons_self ..)
    constructor
    · show ((b + 256 * val t) + (b + 256 * val t) / 16) &&& (15 + 256 * val (t.map fun _ => 15)) = (b % 16 + b / 16) + 256 * val (t.map fun b => b % 16 + b / 16)
      rw [show (b + 256 * val t) + (b + 256 * val t) / 16 = (b + b / 16 + 16 * (val t % 16)) + 256 * (val t + val t / 16) by omega, land_split (by omega) (by decide), h1, q0f _ (by omega)]
      omega
    · show (b + 256 * val t) % 16 ≤ 4
      omega
/-- how many of the k lowest bits -/
def pop : Nat → Nat → Nat
  | 0, _ => 0
  | k + 1, n => n % 2 + pop k (n / 2)
theorem pop8 (k b m : Nat) (hb : b < 256) : pop (k + 8) (b + 256 * m) = pop 8 b + pop k m := by
  show (b + 256 * m) % 2 + ((b + 256 * m) / 2 % 2 + ((b + 256 * m) / 2 / 2 % 2 + ((b + 256 * m) / 2 / 2 / 2 % 2 + ((b + 256 * m) / 2 / 2 / 2 / 2 % 2 + ((b + 256 * m) / 2 / 2 / 2 / 2 / 2 % 2 + ((b + 256 * m) / 2 / 2 / 2 / 2 / 2 / 2 % 2 + ((b + 256 * m) / 2 / 2 / 2 / 2 / 2 / 2 / 2 % 2 + pop k ((b + 256 * m) / 2 / 2 / 2 / 2 / 2 / 2 / 2 / 2)))))))) = (b % 2 + (b / 2 % 2 + (b / 2 / 2 % 2 + (b / 2 / 2 / 2 % 2 + (b / 2 / 2 / 2 / 2 % 2 + (b / 2 / 2 / 2 / 2 / 2 % 2 + (b / 2 / 2 / 2 / 2 / 2 / 2 % 2 + (b / 2 / 2 / 2 / 2 / 2 / 2 / 2 % 2 + 0)))))))) + pop k m
  rw [show (b + 256 * m) / 2 / 2 / 2 / 2 / 2 / 2 / 2 / 2 = m by omega]
  omega
def bA (b : Nat) : Nat := b - (b / 2 &&& 85)
def bB (b : Nat) : Nat := (bA b &&& 51) + (bA b / 4 &&& 51)
theorem bB_ok : ∀ b, b < 256 → bA b < 256 ∧ bB b % 16 ≤ 4 ∧ bB b / 16 ≤ 4 ∧ bB b % 16 + bB b / 16 = pop 8 b ∧ pop 8 b ≤ 8 := by decide +kernel
theorem half_le (b : Nat) : b / 2 &&& 85 ≤ b := Nat.le_trans Nat.and_le_left (Nat.div_le_self b 2)
theorem pop_sum {x0 x1 x2 x3 x4 x5 x6 x7 : Nat} (h0 : x0 < 256) (h1 : x1 < 256) (h2 : x2 < 256) (h3 : x3 < 256) (h4 : x4 < 256) (h5 : x5 < 256) (h6 : x6 < 256) (h7 : x7 < 256) : pop 64 (val [x0, x1, x2, x3, x4, x5, x6, x7]) = pop 8 x0 + (pop 8 x1 + (pop 8 x2 + (pop 8 x3 + (pop 8 x4 + (pop 8 x5 + (pop 8 x6 + (pop 8 x7 + 0))))))) := by
  show pop (56 + 8) (x0 + 256 * (x1 + 256 * (x2 + 256 * (x3 + 256 * (x4 + 256 * (x5 + 256 * (x6 + 256 * (x7 + 256 * 0)))))))) = _
  rw [pop8 56 _ _ h0, pop8 48 _ _ h1, pop8 40 _ _ h2, pop8 32 _ _ h3, pop8 24 _ _ h4, pop8 16 _ _ h5, pop8 8 _ _ h6, pop8 0 _ _ h7]
  rfl
theorem d8 {c v : Nat} (h : c < 256) : (c + 256 * v) / 256 = v := by omega
theorem d16 {x v : Nat} (h : x < 65536) : (x + 65536 * v) / 65536 = v := by omega
theorem d32 {x v : Nat} (h : x < 4294967296) : (x + 4294967296 * v) / 4294967296 = v := by omega
theorem m128 {s k : Nat} (h : s < 128) : (s + 256 * k) % 128 = s := by omega
theorem s16 {c0 c1 v2 c2 v3 : Nat} : (c0 + 256 * (c1 + 256 * v2)) + (c1 + 256 * (c2 + 256 * v3)) = (c0 + c1 + 256 * (c1 + c2)) + 65536 * (v2 + v3) := by omega
theorem s32 {c0 c1 c2 c3 v4 : Nat} : c0 + 256 * (c1 + 256 * (c2 + 256 * (c3 + 256 * v4))) = (c0 + 256 * c1 + 65536 * c2 + 16777216 * c3) + 4294967296 * v4 := by omega
theorem s4 {a b c d x y z w : Nat} : (a + 4294967296 * x) + (b + 4294967296 * y) + ((c + 4294967296 * z) + (d + 4294967296 * w)) = (a + b + (c + d)) + 4294967296 * (x + y + (z + w)) := by omega
theorem l32 {c0 c1 c2 c3 : Nat} (h0 : c0 ≤ 8) (h1 : c1 ≤ 8) (h2 : c2 ≤ 8) (h3 : c3 ≤ 8) : c0 + 256 * c1 + 65536 * c2 + 16777216 * c3 < 1073741824 := by omega
theorem s8 {c0 c1 c2 c3 c4 c5 c6 c7 v1 v2 v3 v4 v5 v6 v7 v8 : Nat} : (c0 + 256 * v1) + (c1 + 256 * v2) + ((c2 + 256 * v3) + (c3 + 256 * v4)) + ((c4 + 256 * v5) + (c5 + 256 * v6) + ((c6 + 256 * v7) + (c7 + 256 * v8))) = (c0 + (c1 + (c2 + (c3 + (c4 + (c5 + (c6 + (c7 + 0)))))))) + 256 * (v1 + v2 + v3 + v4 + v5 + v6 + v7 + v8) := by omega
theorem lv {c v K : Nat} (h : c ≤ 8) (hv : v < K) : c + 256 * v < 256 * K := by omega
/-- the sum of eight small bytes -/
theorem sum8 {c0 c1 c2 c3 c4 c5 c6 c7 : Nat} (h0 : c0 ≤ 8) (h1 : c1 ≤ 8) (h2 : c2 ≤ 8) (h3 : c3 ≤ 8) (h4 : c4 ≤ 8) (h5 : c5 ≤ 8) (h6 : c6 ≤ 8) (h7 : c7 ≤ 8) : ∃ c d e f : Nat, val [c0, c1, c2, c3, c4, c5, c6, c7] = c ∧ c + c / 256 = d ∧ d + d / 65536 = e ∧ e + e / 4294967296 = f ∧ c < 2 ^ 60 ∧ d < 2 ^ 61 ∧ e < 2 ^ 62 ∧ f < 2 ^ 63 ∧ f % 128 = c0 + (c1 + (c2 + (c3 + (c4 + (c5 + (c6 + (c7 + 0))))))) := by
  obtain ⟨v7, e7⟩ : ∃ v, v = c7 + 256 * 0 := ⟨_, rfl⟩
  obtain ⟨v6, e6⟩ : ∃ v, v = c6 + 256 * v7 := ⟨_, rfl⟩
  obtain ⟨v5, e5⟩ : ∃ v, v = c5 + 256 * v6 := ⟨_, rfl⟩
  obtain ⟨v4, e4⟩ : ∃ v, v = c4 + 256 * v5 := ⟨_, rfl⟩
  obtain ⟨v3, e3⟩ : ∃ v, v = c3 + 256 * v4 := ⟨_, rfl⟩
  obtain ⟨v2, e2⟩ : ∃ v, v = c2 + 256 * v3 := ⟨_, rfl⟩
  obtain ⟨v1, e1⟩ : ∃ v, v = c1 + 256 * v2 := ⟨_, rfl⟩
  have ev : val [c0, c1, c2, c3, c4, c5, c6, c7] = c0 + 256 * v1 := by rw [e1, e2, e3, e4, e5, e6, e7]; rfl
  have b7 : v7 < 16 := by rw [e7]; clear e1 e2 e3 e4 e5 e6 e7 ev; omega
  have b6 : v6 < 256 * 16 := e6 ▸ lv h6 b7
  have b5 : v5 < 256 * (256 * 16) := e5 ▸ lv h5 b6
  have b4 : v4 < 256 * (256 * (256 * 16)) := e4 ▸ lv h4 b5
  have b3 : v3 < 256 * (256 * (256 * (256 * 16))) := e3 ▸ lv h3 b4
  have b2 : v2 < 256 * (256 * (256 * (256 * (256 * 16)))) := e2 ▸ lv h2 b3
  have b1 : v1 < 256 * (256 * (256 * (256 * (256 * (256 * 16))))) := e1 ▸ lv h1 b2
  have b0 : c0 + 256 * v1 < 256 * (256 * (256 * (256 * (256 * (256 * (256 * 16)))))) := lv h0 b1
  have q1 : (c0 + 256 * v1) / 256 = v1 := d8 (by clear e1 e2 e3 e4 e5 e6 e7 ev b1 b2 b3 b4 b5 b6 b7 b0; omega)
  have q2 : (c0 + 256 * v1 + v1) / 65536 = v2 + v3 := by
    rw [e1, show c1 + 256 * v2 = c1 + 256 * (c2 + 256 * v3) by rw [e2]]
    rw [show c0 + 256 * (c1 + 256 * (c2 + 256 * v3)) + (c1 + 256 * (c2 + 256 * v3)) = c0 + 256 * (c1 + 256 * v2) + (c1 + 256 * (c2 + 256 * v3)) by rw [e2], s16]
    refine d16 ?_
    clear e1 e2 e3 e4 e5 e6 e7 ev b1 b2 b3 b4 b5 b6 b7 b0 q1
    omega
  have x0 : c0 + 256 * v1 = (c0 + 256 * c1 + 65536 * c2 + 16777216 * c3) + 4294967296 * v4 := by rw [e1, e2, e3]; exact s32
  have x1 : v1 = (c1 + 256 * c2 + 65536 * c3 + 16777216 * c4) + 4294967296 * v5 := by rw [e1, e2, e3, e4]; exact s32
  have x2 : v2 = (c2 + 256 * c3 + 65536 * c4 + 16777216 * c5) + 4294967296 * v6 := by rw [e2, e3, e4, e5]; exact s32
  have x3 : v3 = (c3 + 256 * c4 + 65536 * c5 + 16777216 * c6) + 4294967296 * v7 := by rw [e3, e4, e5, e6]; exact s32
  have q3 : (c0 + 256 * v1 + v1 + (v2 + v3)) / 4294967296 = v4 + v5 + (v6 + v7) := by
    rw [x0]
    have y := l32 h0 h1 h2 h3
    have y1 := l32 h1 h2 h3 h4
    have y2 := l32 h2 h3 h4 h5
    have y3 := l32 h3 h4 h5 h6
    rw [x1, x2, x3, s4]
    refine d32 ?_
    clear e1 e2 e3 e4 e5 e6 e7 ev b1 b2 b3 b4 b5 b6 b7 b0 q1 q2 x0 x1 x2 x3
    generalize c0 + 256 * c1 + 65536 * c2 + 16777216 * c3 = z0, c1 + 256 * c2 + 65536 * c3 + 16777216 * c4 = z1, c2 + 256 * c3 + 65536 * c4 + 16777216 * c5 = z2, c3 + 256 * c4 + 65536 * c5 + 16777216 * c6 = z3 at *
    omega
  refine ⟨c0 + 256 * v1, c0 + 256 * v1 + v1, c0 + 256 * v1 + v1 + (v2 + v3), c0 + 256 * v1 + v1 + (v2 + v3) + (v4 + v5 + (v6 + v7)), ev, by rw [q1], by rw [q2], by rw [q3], ?_, ?_, ?_, ?_, ?_⟩
  · clear e1 e2 e3 e4 e5 e6 e7 ev q1 q2 q3 x0 x1 x2 x3; omega
  · clear e1 e2 e3 e4 e5 e6 e7 ev q1 q2 q3 x0 x1 x2 x3; omega
  · clear e1 e2 e3 e4 e5 e6 e7 ev q1 q2 q3 x0 x1 x2 x3; omega
  · clear e1 e2 e3 e4 e5 e6 e7 ev q1 q2 q3 x0 x1 x2 x3; omega
  · have L : c0 + 256 * v1 + v1 + (v2 + v3) + (v4 + v5 + (v6 + v7)) = (c0 + 256 * v1) + (c1 + 256 * v2) + ((c2 + 256 * v3) + (c3 + 256 * v4)) + ((c4 + 256 * v5) + (c5 + 256 * v6) + ((c6 + 256 * v7) + (c7 + 256 * 0))) := by rw [← e7, ← e6, ← e5, ← e4, ← e3, ← e2, ← e1]
    rw [L, s8]
    refine m128 ?_
    clear e1 e2 e3 e4 e5 e6 e7 ev b1 b2 b3 b4 b5 b6 b7 b0 q1 q2 q3 x0 x1 x2 x3 L
    omega
theorem dig {n : Nat} (K : Nat) (h : n < 256 * K) : ∃ x m, x < 256 ∧ m < K ∧ n = x + 256 * m := ⟨n % 256, n / 256, by omega, by omega, by omega⟩
theorem digs {n : Nat} (h : n < 2 ^ 64) : ∃ x0 x1 x2 x3 x4 x5 x6 x7 : Nat, x0 < 256 ∧ x1 < 256 ∧ x2 < 256 ∧ x3 < 256 ∧ x4 < 256 ∧ x5 < 256 ∧ x6 < 256 ∧ x7 < 256 ∧ n = val [x0, x1, x2, x3, x4, x5, x6, x7] := by
  obtain ⟨x0, n1, h0, k1, e0⟩ := dig (2 ^ 56) h
  obtain ⟨x1, n2, h1, k2, e1⟩ := dig (2 ^ 48) k1
  obtain ⟨x2, n3, h2, k3, e2⟩ := dig (2 ^ 40) k2
  obtain ⟨x3, n4, h3, k4, e3⟩ := dig (2 ^ 32) k3
  obtain ⟨x4, n5, h4, k5, e4⟩ := dig (2 ^ 24) k4
  obtain ⟨x5, n6, h5, k6, e5⟩ := dig (2 ^ 16) k5
  obtain ⟨x6, n7, h6, k7, e6⟩ := dig (2 ^ 8) k6
  refine ⟨x0, x1, x2, x3, x4, x5, x6, n7, h0, h1, h2, h3, h4, h5, h6, k7, ?_⟩
  rw [e0, e1, e2, e3, e4, e5, e6]
  rfl
/-- the whole count, over numbers -/
theorem swar {n : Nat} (h : n < 2 ^ 64) : ∃ a b c d e f : Nat, (n / 2 &&& 6148914691236517205) ≤ n ∧ n - (n / 2 &&& 6148914691236517205) = a ∧ a < 2 ^ 64 ∧ (a &&& 3689348814741910323) + (a / 4 &&& 3689348814741910323) = b ∧ b < 2 ^ 63 ∧ (b + b / 16) &&& 1085102592571150095 = c ∧ c + c / 256 = d ∧ d + d / 65536 = e ∧ e + e / 4294967296 = f ∧ c < 2 ^ 60 ∧ d < 2 ^ 61 ∧ e < 2 ^ 62 ∧ f < 2 ^ 63 ∧ f % 128 = pop 64 n := by
  obtain ⟨x0, x1, x2, x3, x4, x5, x6, x7, h0, h1, h2, h3, h4, h5, h6, h7, e0⟩ := digs h
  have hl : lo [x0, x1, x2, x3, x4, x5, x6, x7] := fun b hb => by
    simp only [List.mem_cons, List.not_mem_nil, or_false] at hb
    omega
  have hlA : lo ([x0, x1, x2, x3, x4, x5, x6, x7].map bA) := fun b hb => by
    obtain ⟨b', q1, q2⟩ := List.mem_map.mp hb
    rw [← q2]
    exact (bB_ok b' (hl b' q1)).1
  have m5 : ∀ y0 y1 y2 y3 y4 y5 y6 y7 : Nat, val ([y0, y1, y2, y3, y4, y5, y6, y7].map fun _ => 85) = 6148914691236517205 := fun _ _ _ _ _ _ _ _ => by
    show 85 + 256 * (85 + 256 * (85 + 256 * (85 + 256 * (85 + 256 * (85 + 256 * (85 + 256 * (85 + 256 * 0))))))) = 6148914691236517205
    decide
  have m3 : ∀ y0 y1 y2 y3 y4 y5 y6 y7 : Nat, val ([y0, y1, y2, y3, y4, y5, y6, y7].map fun _ => 51) = 3689348814741910323 := fun _ _ _ _ _ _ _ _ => by
    show 51 + 256 * (51 + 256 * (51 + 256 * (51 + 256 * (51 + 256 * (51 + 256 * (51 + 256 * (51 + 256 * 0))))))) = 3689348814741910323
    decide
  have mf : ∀ y0 y1 y2 y3 y4 y5 y6 y7 : Nat, val ([y0, y1, y2, y3, y4, y5, y6, y7].map fun _ => 15) = 1085102592571150095 := fun _ _ _ _ _ _ _ _ => by
    show 15 + 256 * (15 + 256 * (15 + 256 * (15 + 256 * (15 + 256 * (15 + 256 * (15 + 256 * (15 + 256 * 0))))))) = 1085102592571150095
    decide
  have A1 := val55 _ hl
  rw [m5] at A1
  obtain ⟨A2, A3⟩ := val_sub (f := fun b => b / 2 &&& 85) half_le [x0, x1, x2, x3, x4, x5, x6, x7]
  rw [← A1] at A2 A3
  have B1 : val ([x0, x1, x2, x3, x4, x5, x6, x7].map bA) &&& val ([bA x0, bA x1, bA x2, bA x3, bA x4, bA x5, bA x6, bA x7].map fun _ => 51) = _ := val33 _ hlA
  have B2 : (val ([x0, x1, x2, x3, x4, x5, x6, x7].map bA) / 4) &&& val ([bA x0, bA x1, bA x2, bA x3, bA x4, bA x5, bA x6, bA x7].map fun _ => 51) = _ := val33' _ hlA
  rw [m3] at B1 B2
  have B3 := val_add (f := fun b => b &&& 51) (g := fun b => b / 4 &&& 51) ([x0, x1, x2, x3, x4, x5, x6, x7].map bA)
  rw [← B1, ← B2] at B3
  obtain ⟨C1, -⟩ := val0f ([x0, x1, x2, x3, x4, x5, x6, x7].map bB) (fun b hb => by
    obtain ⟨b', q1, q2⟩ := List.mem_map.mp hb
    rw [← q2]
    exact ⟨(bB_ok b' (hl b' q1)).2.1, (bB_ok b' (hl b' q1)).2.2.1⟩)
  have C1 : (val ([x0, x1, x2, x3, x4, x5, x6, x7].map bB) + val ([x0, x1, x2, x3, x4, x5, x6, x7].map bB) / 16) &&& val ([bB x0, bB x1, bB x2, bB x3, bB x4, bB x5, bB x6, bB x7].map fun _ => 15) = _ := C1
  rw [mf] at C1
  have p := fun x (hx : x < 256) => (bB_ok x hx).2.2.2
  obtain ⟨c, d, e, f, s1, s2, s3, s4, s5, s6, s7, s8, s9⟩ := sum8 (p x0 h0).2 (p x1 h1).2 (p x2 h2).2 (p x3 h3).2 (p x4 h4).2 (p x5 h5).2 (p x6 h6).2 (p x7 h7).2
  rw [← pop_sum h0 h1 h2 h3 h4 h5 h6 h7] at s9
  have eC : val (([x0, x1, x2, x3, x4, x5, x6, x7].map bB).map fun b => b % 16 + b / 16) = c := by
    rw [← s1, ← (p x0 h0).1, ← (p x1 h1).1, ← (p x2 h2).1, ← (p x3 h3).1, ← (p x4 h4).1, ← (p x5 h5).1, ← (p x6 h6).1, ← (p x7 h7).1]
    rfl
  rw [eC] at C1
  subst e0
  have bnd : ∀ x, x < 256 → bB x < 128 := fun x hx => by
    have := (bB_ok x hx).2
    omega
  refine ⟨val ([x0, x1, x2, x3, x4, x5, x6, x7].map bA), val ([x0, x1, x2, x3, x4, x5, x6, x7].map bB), c, d, e, f, A3, A2, ?_, B3.trans ?_, ?_, C1, s2, s3, s4, s5, s6, s7, s8, s9⟩
  · have : val ([x0, x1, x2, x3, x4, x5, x6, x7].map bA) ≤ val [x0, x1, x2, x3, x4, x5, x6, x7] := by
      have : val ([x0, x1, x2, x3, x4, x5, x6, x7].map bA) = val [x0, x1, x2, x3, x4, x5, x6, x7] - _ := A2.symm
      omega
    omega
  · rfl
  · show bB x0 + 256 * (bB x1 + 256 * (bB x2 + 256 * (bB x3 + 256 * (bB x4 + 256 * (bB x5 + 256 * (bB x6 + 256 * (bB x7 + 256 * 0))))))) < 2 ^ 63
    have := bnd x0 h0
    have := bnd x1 h1
    have := bnd x2 h2
    have := bnd x3 h3
    have := bnd x4 h4
    have := bnd x5 h5
    have := bnd x6 h6
    have := bnd x7 h7
    clear A1 A2 A3 B1 B2 B3 C1 s1 s2 s3 s4 s5 s6 s7 s8 s9 eC m5 m3 mf h
    omega
