/-! THE DEPTH'S NUMBERS: what the tables say of parts -/
theorem nb_t {x y : Nat} (h : x = y) : Nat.beq x y = true := by rw [Nat.beq_eq]; exact h
theorem nb_f {x y : Nat} (h : x ≠ y) : Nat.beq x y = false := by
  cases c : Nat.beq x y with
  | false => rfl
  | true => exact absurd (Nat.eq_of_beq_eq_true c) h
theorem mnN_le {x y z : Nat} (h1 : z ≤ x) (h2 : z ≤ y) : z ≤ mnN x y := by
  unfold mnN
  cases Nat.ble x y
  · exact h2
  · exact h1
def clsN (E v : Nat → Bool) (op lf rt : Nat → Nat) (r : Nat) : Nat := if t2R E v op lf rt r = true then (if op r = 9 then 2 else 1) else 0
def domP (R : Nat → Nat → Nat → Nat) (m k l s l1 s1 : Nat) : Prop := l ≤ R m k 0 ∧ l + s ≤ R m k 1 ∧ l1 ≤ R m k 2 ∧ l1 + s1 ≤ R m k 3 ∧ l1 ≤ l ∧ s1 ≤ s
theorem domB_P {R : Nat → Nat → Nat → Nat} {m k l0 n0 w0 l s l1 s1 : Nat} (h : domB R m k l0 n0 w0 = true) (h1 : l ≤ l0) (h2 : l + s ≤ n0) (h3 : l1 + s1 ≤ w0) (h4 : l1 ≤ l) (h5 : s1 ≤ s) : domP R m k l s l1 s1 := by
  simp only [domB, Bool.and_eq_true, Nat.ble_eq] at h
  unfold domP
  omega
/-- an antecedent's numbers -/
def qA (A : Nat → Nat → Nat → Nat → Nat → Nat) (R : Nat → Nat → Nat → Nat) (nr : Nat → Nat) (N : Nat) (E v : Nat → Bool) (op lf rt : Nat → Nat) (lv i r : Nat) : Prop := ∀ m e, e < nr m → i + 1 + m ≤ N → ∀ l s l1 s1, domP R m e l s l1 s1 →
  i2R E v op lf rt r l s l1 s1 ≤ A m e lv i (4 * clsN E v op lf rt r) ∧ i2R E v op lf rt r l s l1 s1 + G2R E v op lf rt r ≤ A m e lv i (4 * clsN E v op lf rt r + 1) ∧ n2R E v op lf rt r l s l1 s1 ≤ A m e lv i (4 * clsN E v op lf rt r + 2) ∧ i2R E v op lf rt r l s l1 s1 + s + G2R E v op lf rt r ≤ A m e lv i (4 * clsN E v op lf rt r + 3) ∧ i1R op lf rt r l1 s1 ≤ A m e lv i 12 ∧ o1R op lf rt r l1 s1 ≤ A m e lv i 13
/-- a claim's numbers -/
def qC (C : Nat → Nat → Nat → Nat) (G : Nat → Nat) (E v : Nat → Bool) (op lf rt : Nat → Nat) (lv i r : Nat) : Prop := S2R E v op lf rt r ≤ C lv i (2 * clsN E v op lf rt r) ∧ G2R E v op lf rt r ≤ C lv i (2 * clsN E v op lf rt r + 1) ∧ n1R op lf rt r ≤ C lv i 0 ∧ g1R op lf rt r ≤ C lv i 1 ∧ (t2R E v op lf rt r = true → S2R E v op lf rt r + G2R E v op lf rt r ≤ G i)
/-- a claim as a rest -/
def qR (R : Nat → Nat → Nat → Nat) (nc : Nat → Nat) (E v : Nat → Bool) (op lf rt : Nat → Nat) (i r : Nat) : Prop := ∃ k, k < nc i ∧ domP R i k (L2R E v op lf rt r) (S2R E v op lf rt r - L2R E v op lf rt r) (l1R op lf rt r) (s1R op lf rt r)
def qT (A : Nat → Nat → Nat → Nat → Nat → Nat) (R C : Nat → Nat → Nat → Nat) (nr nc G : Nat → Nat) (N : Nat) (E v : Nat → Bool) (op lf rt : Nat → Nat) (lv i r : Nat) : Prop := qA A R nr N E v op lf rt lv i r ∧ qC C G E v op lf rt lv i r ∧ qR R nc E v op lf rt i r ∧ (i = 1 → op r < 6) ∧ (i = 2 → op r = 9 ∧ op (lf r) < 4 ∧ rt r = 1)
def tabOK (A : Nat → Nat → Nat → Nat → Nat → Nat) (R C : Nat → Nat → Nat → Nat) (nr nc G : Nat → Nat) (W N : Nat) (pa pl : Bool) : Prop := (∀ m e, e < nr m → m + 2 ≤ N → restB A R C nr W pa pl m e (N - 1 - m) = true) ∧ (∀ a b, 1 ≤ a → 1 ≤ b → a + 1 + b ≤ N → clmB A R C nc G a b = true) ∧ (∀ n, 1 ≤ n → n ≤ N → oneB A R C nc G W N n = true) ∧ (∀ n, n ≤ N → nc n ≤ nr n) ∧ 1 ≤ nc 1 ∧ 1 ≤ nr 0 ∧ 3 ≤ N
def kOK (pa pl : Bool) (E v : Nat → Bool) : Prop := (∀ i, i < 4 → E i = true → v i = true) ∧ (pa = false → ∀ i j, i < 4 → j < 4 → E i = true → E j = true → i = j) ∧ (pl = false → ∀ i j, i < 4 → j < 4 → v i = false → v j = false → i = j)
section RESTB
variable {A : Nat → Nat → Nat → Nat → Nat → Nat} {R C : Nat → Nat → Nat → Nat} {nr nc G : Nat → Nat} {W N : Nat} {pa pl : Bool}
theorem restB_out {m e L : Nat} (h : restB A R C nr W pa pl m e L = true) :
    (R m e 2 ≤ A m e 0 1 0 ∧ R m e 2 ≤ A m e 0 1 1 ∧ R m e 1 ≤ A m e 0 1 2 ∧ R m e 1 ≤ A m e 0 1 3 ∧ R m e 0 ≤ A m e 0 1 4 ∧ R m e 0 ≤ A m e 0 1 5 ∧ R m e 1 ≤ A m e 0 1 6 ∧ R m e 1 ≤ A m e 0 1 7 ∧ R m e 2 ≤ A m e 0 1 12 ∧ R m e 3 ≤ A m e 0 1 13) ∧
    (∀ i lv f, i < L → lv < 3 → f < 14 → A m e lv (i + 1) f ≤ A m e (lv + 1) (i + 1) f) ∧
    (∀ i f, i < L - W - 2 → f < 14 → A m e 3 (i + 3) f ≤ A m e 0 (i + 3 + W) f) ∧
    (∀ a, a < L - 1 → if1B R (fun f => A m e 0 (a + 2) f) m e = true ∧ ∀ x, x < 3 → skp (a + 1) x = false → ifB R (fun f => A m e 0 (a + 2) f) m e x 0 (C 0 (a + 1) 0) (C 0 (a + 1) (2 * x)) 0 0 0 (R m e 1) = true) ∧
    (∀ a b, a < L - 2 → b < L - 2 - a → pairB A R C nr pa pl m e (a + 1) (b + 1) = true) := by
  simp only [restB, Bool.and_eq_true, allB_iff, Nat.ble_eq] at h
  obtain ⟨h1, h2, h3, h4, h5⟩ := h
  refine ⟨h1, fun i lv f hi hl hf => h2 i hi lv hl f hf, fun i f hi hf => h3 i hi f hf, fun a ha => ⟨(h4 a ha).1, fun x hx hs => ?_⟩, fun a b ha hb => h5 a ha b hb⟩
  have := (h4 a ha).2 x hx
  rw [hs] at this
  exact this
theorem pairB_out {m e a b : Nat} (h : pairB A R C nr pa pl m e a b = true) :
    or1B A m e a b = true ∧ if1B R (fun f => A m e 3 (a + 1 + b) f) m e = true ∧ an1B A R nr m e a b (A m e 0 b 13) = true ∧ ∀ x y, x < 3 → y < 3 → skp a x = false → skp b y = false → orB A R pa pl m e a b x y = true ∧ ifB R (fun f => A m e 3 (a + 1 + b) f) m e x y (C 2 a 0) (C 2 a (2 * x)) (C 3 b 1) (C 3 b (2 * y + 1)) (A m e 3 b (4 * y + 1)) (A m e 3 b (4 * y + 3)) = true ∧ ((pl = false ∧ a = 2 ∧ b = 2 ∧ x = 2 ∧ y = 2) ∨ (anB A R C nr m e a b x y (A m e 0 b 13) (A m e 0 b 13) (A m e 0 b 13) = true ∧ (y = 2 → anB A R C nr m e a b x y (R m e 1) (A m e 0 b 10) (mnN (A m e 0 b 13) (R m e 1)) = true) ∧ (y ≠ 2 → anB A R C nr m e a b x y (A m e 0 b (4 * y + 2)) (A m e 0 b (4 * y + 2)) (mnN (A m e 0 b 13) (A m e 0 b (4 * y + 2))) = true))) := by
  simp only [pairB, Bool.and_eq_true, allB_iff] at h
  obtain ⟨h1, h2, h3, h4⟩ := h
  refine ⟨h1, h2, h3, fun x y hx hy sx sy => ?_⟩
  have := h4 x hx
  rw [sx, Bool.false_or, allB_iff] at this
  have := this y hy
  rw [sy, Bool.false_or, Bool.and_eq_true, Bool.and_eq_true, Bool.or_eq_true] at this
  obtain ⟨t1, t2, t3⟩ := this
  refine ⟨t1, t2, t3.imp (fun h => ?_) (fun h => ?_)⟩
  · simp only [Bool.and_eq_true, Bool.not_eq_true', Nat.beq_eq] at h
    exact ⟨h.1, h.2.1.1, h.2.1.2, h.2.2.1, h.2.2.2⟩
  · rw [Bool.and_eq_true] at h
    refine ⟨h.1, fun e => ?_, fun e => ?_⟩
    · have := h.2; rw [nb_t e] at this; exact this
    · have := h.2; rw [nb_f e] at this; exact this
theorem if_dead {Z : Nat → Nat} {m e x y n1 sx g1 gy y1 y3 : Nat} (h : ifB R Z m e x y n1 sx g1 gy y1 y3 = true) (hx : x ≠ 0) (hy : y = 0) : R m e 2 ≤ Z 0 ∧ R m e 2 + (n1 + g1) ≤ Z 1 ∧ R m e 1 ≤ Z 2 ∧ R m e 1 + (n1 + g1) ≤ Z 3 := by
  unfold ifB at h
  rw [nb_f hx, nb_t hy] at h
  replace h : (Nat.ble (R m e 2) (Z 0) && (Nat.ble (R m e 2 + (n1 + g1)) (Z 1) && (Nat.ble (R m e 1) (Z 2) && Nat.ble (R m e 1 + (n1 + g1)) (Z 3)))) = true := h
  simp only [Bool.and_eq_true, Nat.ble_eq] at h
  exact h
theorem if_live {Z : Nat → Nat} {m e x y n1 sx g1 gy y1 y3 : Nat} (h : ifB R Z m e x y n1 sx g1 gy y1 y3 = true) (hxy : x = 0 ∨ y ≠ 0) : 1 + R m e 0 ≤ Z 8 ∧ 1 + sx + y1 ≤ Z 8 ∧ 1 + R m e 0 + (sx + gy) ≤ Z 9 ∧ 1 + sx + y1 + (sx + gy) ≤ Z 9 ∧ 1 + R m e 1 ≤ Z 10 ∧ 1 + sx + y3 ≤ Z 10 ∧ 1 + R m e 1 + (sx + gy) ≤ Z 11 ∧ 1 + sx + y3 + (sx + gy) ≤ Z 11 := by
  unfold ifB at h
  have eb : (!Nat.beq x 0 && Nat.beq y 0) = false := by
    rcases hxy with h | h
    · rw [nb_t h]; rfl
    · rw [nb_f h, Bool.and_false]
  rw [eb] at h
  replace h : (Nat.ble (1 + R m e 0) (Z 8) && (Nat.ble (1 + sx + y1) (Z 8) && (Nat.ble (1 + R m e 0 + (sx + gy)) (Z 9) && (Nat.ble (1 + sx + y1 + (sx + gy)) (Z 9) && (Nat.ble (1 + R m e 1) (Z 10) && (Nat.ble (1 + sx + y3) (Z 10) && (Nat.ble (1 + R m e 1 + (sx + gy)) (Z 11) && Nat.ble (1 + sx + y3 + (sx + gy)) (Z 11)))))))) = true := h
  simp only [Bool.and_eq_true, Nat.ble_eq] at h
  exact h
end RESTB
section CLS
variable {P : Nat} {op lf rt : Nat → Nat} {E v : Nat → Bool} {r : Nat}
theorem cls_0 (h : t2R E v op lf rt r = false) : clsN E v op lf rt r = 0 := by
  unfold clsN
  rw [h]
  rfl
theorem cls_1 (h : t2R E v op lf rt r = true) (h9 : op r ≠ 9) : clsN E v op lf rt r = 1 := by
  unfold clsN
  rw [if_pos h, if_neg h9]
theorem cls_2 (h : t2R E v op lf rt r = true) (h9 : op r = 9) : clsN E v op lf rt r = 2 := by
  unfold clsN
  rw [if_pos h, if_pos h9]
theorem cls_t (h : t2R E v op lf rt r = true) : clsN E v op lf rt r ≠ 0 := by
  by_cases h9 : op r = 9
  · rw [cls_2 h h9]; decide
  · rw [cls_1 h h9]; decide
theorem cls_lt : clsN E v op lf rt r < 3 := by
  unfold clsN
  split
  · split <;> decide
  · decide
theorem cls_f0 (h : clsN E v op lf rt r = 0) : t2R E v op lf rt r = false := by
  apply Classical.byContradiction
  intro c
  exact cls_t (by revert c; cases t2R E v op lf rt r <;> simp) h
/-- no atom is an IF; no literal is none -/
theorem skp_f {i : Nat} (h1 : i = 1 → op r < 6) (h2 : i = 2 → op r = 9 ∧ op (lf r) < 4 ∧ rt r = 1) : skp i (clsN E v op lf rt r) = false := by
  unfold skp
  by_cases e1 : i = 1
  · have h9 : op r ≠ 9 := by have := h1 e1; omega
    have : clsN E v op lf rt r ≠ 2 := by
      cases c : t2R E v op lf rt r
      · rw [cls_0 c]; decide
      · rw [cls_1 c h9]; decide
    rw [nb_f this, nb_f (show i ≠ 2 by omega), Bool.and_false]
    rfl
  · rw [nb_f e1]
    by_cases e2 : i = 2
    · have h9 := (h2 e2).1
      have : clsN E v op lf rt r ≠ 1 := by
        cases c : t2R E v op lf rt r
        · rw [cls_0 c]; decide
        · rw [cls_2 c h9]; decide
      rw [nb_f this, Bool.and_false]
      rfl
    · rw [nb_f e2]
      rfl
end CLS
