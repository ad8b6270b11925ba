/-- all but j -/
def offJ (j : Nat) : Int32 := ((1 : Int32) <<< (nI j &&& (31 : Int32))) ^^^ (-1 : Int32)
theorem hasI_off {j b : Nat} (hj : j < 5) (hb : b < 32) : hasI (offJ j) b = !decide (b = j) := by
  unfold offJ
  rw [hasI_not hb, hasI_one hj]
theorem sIn_off {nx : Nat → Int32} {j : Nat} (hj : j < 5) {s t : Int32} (h0 : ∀ b, b < 32 → hasI (nx j) b = true → b = j ∨ hasI t b = true) (h : s &&& offJ j = t) : ∀ n, n ≤ 5 → sIn nx s n &&& offJ j = sIn (fun i => nx i &&& offJ j) t n ∧ ∀ b, hasI t b = true → hasI (sIn (fun i => nx i &&& offJ j) t n) b = true
  | 0, _ => ⟨h, fun _ q => q⟩
  | n + 1, hn => by
    obtain ⟨h1, h2⟩ := sIn_off hj h0 h n (by omega)
    unfold sIn
    have e : ∀ b, b < 32 → hasI (sIn (fun i => nx i &&& offJ j) t n) b = (hasI (sIn nx s n) b && !decide (b = j)) := fun b hb => by rw [← h1, hasI_and, hasI_off hj hb]
    generalize sIn nx s n = p at *
    generalize sIn (fun i => nx i &&& offJ j) t n = q at *
    by_cases en : n = j
    · subst en
      have q0 : hasI q n = false := by rw [e n (by omega), decide_eq_true rfl]; cases hasI p n <;> rfl
      rw [q0]
      refine ⟨?_, h2⟩
      show _ = q
      cases hp : hasI p n with
      | false => exact h1
      | true =>
        show (p ||| nx n) &&& offJ n = q
        refine hasI_ext fun b hb => ?_
        rw [hasI_and, hasI_or, hasI_off hj hb]
        have eb := e b hb
        by_cases hbn : b = n
        · subst hbn
          rw [q0, decide_eq_true rfl]
          cases hasI p b <;> cases hasI (nx b) b <;> rfl
        · rw [decide_eq_false hbn] at eb ⊢
          cases hx : hasI (nx n) b with
          | false => rw [eb]; cases hasI p b <;> rfl
          | true =>
            rcases h0 b hb hx with z | z
            · exact absurd z hbn
            · rw [h2 b z]; cases hasI p b <;> rfl
    · have eq : hasI q n = hasI p n := by rw [e n (by omega), decide_eq_false en]; cases hasI p n <;> rfl
      rw [eq]
      cases hp : hasI p n with
      | false => exact ⟨h1, h2⟩
      | true =>
        refine ⟨?_, fun b hb => ?_⟩
        · show (p ||| nx n) &&& offJ j = q ||| (nx n &&& offJ j)
          rw [← h1]
          refine hasI_ext fun b hb => ?_
          rw [hasI_and, hasI_or, hasI_or, hasI_and, hasI_and]
          cases hasI p b <;> cases hasI (nx n) b <;> cases hasI (offJ j) b <;> rfl
        · show hasI (q ||| (nx n &&& offJ j)) b = true
          rw [hasI_or, h2 b hb]
          rfl
theorem sOut_off {nx : Nat → Int32} {j : Nat} (hj : j < 5) {s : Int32} (h0 : ∀ b, b < 32 → hasI (nx j) b = true → b = j ∨ hasI s b = true) (h : s &&& offJ j = s) : ∀ r, sOut nx s r &&& offJ j = sOut (fun i => nx i &&& offJ j) s r ∧ ∀ b, hasI s b = true → hasI (sOut (fun i => nx i &&& offJ j) s r) b = true
  | 0 => ⟨h, fun _ q => q⟩
  | r + 1 => by
    obtain ⟨h1, h2⟩ := sOut_off hj h0 h r
    unfold sOut
    obtain ⟨h3, h4⟩ := sIn_off hj (nx := nx) (s := sOut nx s r) (t := sOut (fun i => nx i &&& offJ j) s r) (fun b hb q => (h0 b hb q).imp id (h2 b)) h1 5 (Nat.le_refl 5)
    exact ⟨h3, fun b q => h4 b (h2 b q)⟩
theorem c165 {MI : Nat → Nat → Int32} {ML : Nat → Nat → Int64} {Q : Nat → Nat} {k c j : Nat} {N J : Nat → Nat} (hV : VM k c MI ML N J) (hs : ∀ i, i < c → ∀ b, hasB (ML 65 i) b = true → b < k) (hj : j < 5) {s : Int32} (h1 : ∀ b, hasI s b = true ↔ NJ c N J (ML 64) j b) {nx : Nat → Int32} (h2 : ∀ i, i < 5 → ∀ b, hasI (nx i) b = true ↔ NJ c N J (ML 65) i b) : xm_Ev xz 165 [.ref 45, .int (nI j)] (xM MI ML Q) (fun z => z = (some (.int (sOut (fun i => nx i &&& offJ j) s 5)), xM MI ML Q)) := by
  have hb64 : ∀ i, i < c → ∀ b, hasB (ML 64 i) b = true → b < k := fun i hi => (hV.2.2.2.2 i hi).2.2.2.2
  have inn : ∀ r, xq165 (fun z => z = (some (.int (sOut (fun i => nx i &&& offJ j) s 5)), xM MI ML Q)) (9, [some (.ref 45), some (.int (nI j)), some (.int (sOut (fun i => nx i &&& offJ j) s (r + 1))), some (.int (nI (r + 1))), none], [], xM MI ML Q, 0, 0) → ∀ (d i : Nat), i + d = 5 → xq165 (fun z => z = (some (.int (sOut (fun i => nx i &&& offJ j) s 5)), xM MI ML Q)) (17, [some (.ref 45), some (.int (nI j)), some (.int (sIn (fun i => nx i &&& offJ j) (sOut (fun i => nx i &&& offJ j) s r) i)), some (.int (nI r)), some (.int (nI i))], [], xM MI ML Q, 0, 0) := by
    intro r next d
    induction d with
    | zero =>
      intro i hi
      have : i = 5 := by omega
      subst this
      refine xb165_17 ⟨fun _ => ?_, fun hl => absurd (by decide) hl⟩
      rw [nI_1]
      exact next
    | succ d ih =>
      intro i hi
      have h3 := ih (i + 1) (by omega)
      unfold sIn at h3
      refine xb165_17 ⟨fun hl => absurd hl (nI_ge (a := i) (b := 5) (by omega) (by decide)), fun _ => ⟨fun h => ⟨_, c166 (V := ML 65) (o := 1) (j := i) hV (fun h => absurd h (by decide)) (fun _ _ _ => rfl) hs (by omega), ?_⟩, fun h => ?_⟩⟩
      · rw [bitI (by omega)] at h
        rw [h] at h3
        rintro _ ⟨v, rfl, hv⟩
        have : v = nx i := hasI_ext fun b _ => bool_iff ((hv b).trans (h2 i (by omega) b).symm)
        subst this
        refine xb165_41 ?_
        rw [nI_1]
        exact h3
      · rw [bitI (by omega)] at h
        rw [ts_nt h] at h3
        rw [nI_1]
        exact h3
  have out : ∀ (d r : Nat), r + d = 5 → xq165 (fun z => z = (some (.int (sOut (fun i => nx i &&& offJ j) s 5)), xM MI ML Q)) (9, [some (.ref 45), some (.int (nI j)), some (.int (sOut (fun i => nx i &&& offJ j) s r)), some (.int (nI r)), none], [], xM MI ML Q, 0, 0) := by
    intro d
    induction d with
    | zero =>
      intro r hr
      have : r = 5 := by omega
      subst this
      exact xb165_9 ⟨fun _ => rfl, fun hl => absurd (by decide) hl⟩
    | succ d ih =>
      intro r hr
      exact xb165_9 ⟨fun hl => absurd hl (nI_ge (a := r) (b := 5) (by omega) (by decide)), fun _ => inn r (ih (r + 1) (by omega)) 5 0 rfl⟩
  refine xm_in (xb165_0 ⟨_, c166 (V := ML 64) (o := 0) (j := j) hV (fun _ _ _ => rfl) (fun h => absurd rfl h) hb64 hj, ?_⟩)
  rintro _ ⟨v, rfl, hv⟩
  have : v = s := hasI_ext fun b _ => bool_iff ((hv b).trans (h1 b).symm)
  subst this
  exact xb165_6 (out 5 0 rfl)
/-- the scanner's jars, settled -/
def SJ (c : Nat) (DI : Nat → Nat → Int32) (DL : Nat → Nat → Int64) : Prop := JM c (vN DI) (vJ DI) (DL 64) (DL 65) DI DL
theorem IC.sh {k c : Nat} {MI : Nat → Nat → Int32} {ML : Nat → Nat → Int64} {Q : Nat → Nat} (h : IC k c MI ML Q) : ∀ i, i < c → ∀ b, hasB (ML 65 i) b = true → hasB (ML 64 i) b = true ∧ b < k := fun i hi b q => by
  obtain ⟨-, -, -, -, -, -, -, -, -, u, s⟩ := h.2.2.2.2 i hi
  exact ⟨s b q, u b (s b q)⟩
section OPS8
variable {R : (Nat → Nat → Int32) → (Nat → Nat → Int64) → (Nat → Nat) → Prop}
theorem op14 (hR : ∀ DI DL Q, R DI DL Q → ∃ k c, IB k DI ∧ IC k c DI DL Q ∧ SJ c DI DL) (x y : Int32) : xOpI (xInv R) 100 164 [.int x, .int y] := by
  intro MI ML Q hI
  obtain ⟨k, c, hB0, hC0, hJ0⟩ := hR _ _ _ hI.2
  have hB : IB k MI := hB0
  have hC := hC0.get
  have hV := IC.vm hB hC
  have hJ : JM c (vN MI) (vJ MI) (ML 64) (ML 65) MI ML := hJ0
  have hb64 : ∀ i, i < c → ∀ b, hasB (ML 64 i) b = true → b < k := fun i hi => (hV.2.2.2.2 i hi).2.2.2.2
  have hb65 : ∀ i, i < c → ∀ b, hasB (ML 65 i) b = true → b < k := fun i hi b q => (hC.sh i hi b q).2
  have key : ∃ v : Int32, xm_Ev xz 100 [.ref 0, .int x, .int y] (xM MI ML Q) (fun r => r = (some (.int v), xM MI ML Q)) ∧ xm_Ev xz 164 [.ref 45, .int x, .int y] (xM MI ML Q) (fun r => r = (some (.int v), xM MI ML Q)) := by
    by_cases hn : ¬ x < 0 ∧ x < 5
    · obtain ⟨j, hj, rfl⟩ := nI_in2 (k := 5) (by decide) hn
      obtain ⟨-, -, j3, j4⟩ := hJ j hj
      have v1 : vp_in (nI j) 5 := vp_in_nI hj (by decide)
      have m14 := c14 (MI := MI) (ML := ML) (Q := Q) (nI j)
      have m117 := c117 (MI := MI) (ML := ML) (Q := Q) (nI j)
      rw [decide_eq_true hn] at m14 m117
      by_cases y0 : y = 0
      · subst y0
        refine ⟨MI 43 j, xm_in (xb100_0 ⟨_, m14, ?_⟩), xm_in (xb164_0 ⟨_, m117, ?_⟩)⟩
        · rintro _ rfl
          refine xb100_4 ⟨fun h => absurd h (by decide), fun _ => ⟨fun _ => ⟨v1, ?_⟩, fun h => absurd rfl h⟩⟩
          rw [nI_clamp (by omega)]
        · rintro _ rfl
          refine xb164_4 ⟨fun h => absurd h (by decide), fun _ => ⟨fun h => absurd h (by decide), fun _ => ⟨fun _ => ⟨fun h => absurd h (by decide), fun _ => ⟨fun h => absurd h (by decide), fun _ => ⟨_, c166 (V := ML 64) (o := 0) (j := j) hV (fun _ _ _ => rfl) (fun h => absurd rfl h) hb64 hj, ?_⟩⟩⟩, fun h => absurd (by decide) h⟩⟩⟩
          rintro _ ⟨v, rfl, hv⟩
          have : v = MI 43 j := hasI_ext fun b _ => bool_iff ((hv b).trans (j3 b).symm)
          subst this
          exact xb164_46 rfl
      · by_cases y1 : y = 1
        · subst y1
          refine ⟨MI 44 j, xm_in (xb100_0 ⟨_, m14, ?_⟩), xm_in (xb164_0 ⟨_, m117, ?_⟩)⟩
          · rintro _ rfl
            refine xb100_4 ⟨fun h => absurd h (by decide), fun _ => ⟨fun h => absurd h y0, fun _ => ⟨fun _ => ⟨v1, ?_⟩, fun h => absurd rfl h⟩⟩⟩
            rw [nI_clamp (by omega)]
          · rintro _ rfl
            refine xb164_4 ⟨fun h => absurd h (by decide), fun _ => ⟨fun h => absurd h (by decide), fun _ => ⟨fun _ => ⟨fun h => absurd h (by decide), fun _ => ⟨fun _ => ⟨_, c166 (V := ML 65) (o := 1) (j := j) hV (fun h => absurd h (by decide)) (fun _ _ _ => rfl) hb65 hj, ?_⟩, fun h => absurd rfl h⟩⟩, fun h => absurd (by decide) h⟩⟩⟩
            rintro _ ⟨v, rfl, hv⟩
            have : v = MI 44 j := hasI_ext fun b _ => bool_iff ((hv b).trans (j4 b).symm)
            subst this
            exact xb164_46 rfl
        · by_cases y2 : y = 2
          · subst y2
            refine ⟨sOut (MI 44) (MI 43 j) 5 &&& offJ j, xm_in (xb100_0 ⟨_, m14, ?_⟩), xm_in (xb164_0 ⟨_, m117, ?_⟩)⟩
            · rintro _ rfl
              refine xb100_4 ⟨fun h => absurd h (by decide), fun _ => ⟨fun h => absurd h y0, fun _ => ⟨fun h => absurd h y1, fun _ => ⟨fun _ => ?_, fun h => absurd rfl h⟩⟩⟩⟩
              refine ⟨fun r => r = (some (.int (sOut (MI 44) (MI 43 j) 5 &&& offJ j)), xM MI ML Q), xm_in (xb101_0 ⟨v1, ?_⟩), ?_⟩
              · rw [nI_clamp (by omega)]
                refine ⟨_, c102o _, ?_⟩
                rintro _ rfl
                exact xb101_13 rfl
              · rintro _ rfl
                exact xb100_64 rfl
            · rintro _ rfl
              refine xb164_4 ⟨fun h => absurd h (by decide), fun _ => ⟨fun h => absurd h (by decide), fun _ => ⟨fun _ => ⟨fun _ => ⟨_, c165 hV hb65 hj j3 (nx := MI 44) (fun i hi => (hJ i hi).2.2.2), ?_⟩, fun h => absurd rfl h⟩, fun h => absurd (by decide) h⟩⟩⟩
              rintro _ rfl
              have e := (sOut_off (nx := MI 44) hj (s := MI 43 j) (fun b _ q => Or.inr ((j3 b).mpr ?_)) ?_ 5).1
              · rw [← e]
                exact xb164_28 (xb164_46 rfl)
              · obtain ⟨q1, f, f1, f2, n, p, q3, q4⟩ := (j4 b).mp q
                exact ⟨q1, f, f1, f2, n, p, (hC.sh f f1 n q3).1, q4⟩
              · refine hasI_ext fun b hb => ?_
                rw [hasI_and, hasI_off hj hb]
                by_cases e : b = j
                · have : hasI (MI 43 j) b = false := ts_nt fun q => ((j3 b).mp q).1 e
                  rw [this]; rfl
                · rw [decide_eq_false e]
                  cases hasI (MI 43 j) b <;> rfl
          · refine ⟨0, xm_in (xb100_0 ⟨_, m14, ?_⟩), xm_in (xb164_0 ⟨_, m117, ?_⟩)⟩
            · rintro _ rfl
              exact xb100_4 ⟨fun h => absurd h (by decide), fun _ => ⟨fun h => absurd h y0, fun _ => ⟨fun h => absurd h y1, fun _ => ⟨fun h => absurd h y2, fun _ => rfl⟩⟩⟩⟩
            · rintro _ rfl
              refine xb164_4 ⟨fun h => absurd h (by decide), fun _ => ⟨fun _ => rfl, fun h => ⟨fun h2 => ?_, fun _ => rfl⟩⟩⟩
              obtain ⟨q, q1, rfl⟩ := nI_of2 (n := 2) rfl h h2
              exfalso
              rcases q with _ | _ | _ | q
              · exact y0 rfl
              · exact y1 rfl
              · exact y2 rfl
              · omega
    · refine ⟨0, xm_in (xb100_0 ⟨_, c14 x, ?_⟩), xm_in (xb164_0 ⟨_, c117 x, ?_⟩)⟩
      · rintro _ rfl
        rw [decide_eq_false hn]
        exact xb100_4 ⟨fun _ => rfl, fun h => absurd rfl h⟩
      · rintro _ rfl
        rw [decide_eq_false hn]
        exact xb164_4 ⟨fun _ => rfl, fun h => absurd rfl h⟩
  obtain ⟨v, g1, g2⟩ := key
  refine g1.imp ?_
  rintro _ rfl
  refine ⟨v, MI, ML, Q, rfl, g2.imp ?_⟩
  rintro _ rfl
  exact ⟨MI, ML, Q, rfl, hI⟩
end OPS8
