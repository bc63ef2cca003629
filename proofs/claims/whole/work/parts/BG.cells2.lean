/-! THE REFERENCE'S PARTS: values; the words of a part -/
def qvT {α : Type} (lv : Nat → α) (bn : Nat → α → α → α) (op lf rt : Nat → Nat) (d0 : α) : Nat → Nat → α
  | 0 => fun _ => d0
  | i + 1 => fun j => if j = i then (if op i < 6 then lv (op i) else bn (op i) (qvT lv bn op lf rt d0 i (lf i)) (qvT lv bn op lf rt d0 i (rt i))) else qvT lv bn op lf rt d0 i j
def qv {α : Type} (lv : Nat → α) (bn : Nat → α → α → α) (op lf rt : Nat → Nat) (d0 : α) (i : Nat) : α := qvT lv bn op lf rt d0 (i + 1) i
/-- the parts of the reference -/
def RPo (P : Nat) (op lf rt : Nat → Nat) : Prop := (∀ k, k < P → (k < 2 ∧ op k = 4 + k ∧ lf k = 0 ∧ rt k = 0) ∨ (2 ≤ k ∧ op k < 4 ∧ lf k = 0 ∧ rt k = 0) ∨ (2 ≤ k ∧ 7 ≤ op k ∧ op k < 10 ∧ 2 ≤ lf k ∧ lf k < k ∧ 1 ≤ rt k ∧ rt k < k ∧ lf k ≠ rt k ∧ (rt k = 1 → op k = 9))) ∧ ∀ p q, p < P → q < P → op p = op q → lf p = lf q → rt p = rt q → p = q
section QV
variable {α : Type} {lv : Nat → α} {bn : Nat → α → α → α} {op lf rt : Nat → Nat} {d0 : α}
theorem qvT_lt : ∀ (i j : Nat), j < i → qvT lv bn op lf rt d0 i j = qv lv bn op lf rt d0 j
  | 0, j, h => absurd h (Nat.not_lt_zero _)
  | i + 1, j, h => by
    by_cases e : j = i
    · subst e; rfl
    · show (if j = i then _ else qvT lv bn op lf rt d0 i j) = _
      rw [if_neg e]
      exact qvT_lt i j (by omega)
theorem qv_eq (i : Nat) : qv lv bn op lf rt d0 i = if op i < 6 then lv (op i) else bn (op i) (qvT lv bn op lf rt d0 i (lf i)) (qvT lv bn op lf rt d0 i (rt i)) := if_pos rfl
theorem qv_lf {i : Nat} (h : op i < 6) : qv lv bn op lf rt d0 i = lv (op i) := by rw [qv_eq, if_pos h]
theorem qv_op {i : Nat} (h : 6 ≤ op i) (hl : lf i < i) (hr : rt i < i) : qv lv bn op lf rt d0 i = bn (op i) (qv lv bn op lf rt d0 (lf i)) (qv lv bn op lf rt d0 (rt i)) := by rw [qv_eq, if_neg (by omega), qvT_lt i _ hl, qvT_lt i _ hr]
theorem RPo.two {P : Nat} (h : RPo P op lf rt) {k : Nat} (hk : k < P) (h6 : 6 ≤ op k) : 2 ≤ k ∧ 7 ≤ op k ∧ op k < 10 ∧ 2 ≤ lf k ∧ lf k < k ∧ 1 ≤ rt k ∧ rt k < k ∧ lf k ≠ rt k ∧ (rt k = 1 → op k = 9) := by
  rcases h.1 k hk with h1 | h1 | h1
  · omega
  · omega
  · exact h1
theorem qv_rel {β : Type} {lv' : Nat → β} {bn' : Nat → β → β → β} {d1 : β} (R : α → β → Prop) (hl : ∀ k, k < 6 → R (lv k) (lv' k)) (hb : ∀ k x y x' y', 7 ≤ k → k < 10 → R x x' → R y y' → R (bn k x y) (bn' k x' y')) {P : Nat} (ho : RPo P op lf rt) : ∀ p, p < P → R (qv lv bn op lf rt d0 p) (qv lv' bn' op lf rt d1 p) := by
  intro p
  induction p using Nat.strongRecOn with
  | _ p ih =>
    intro hp
    by_cases h6 : op p < 6
    · rw [qv_lf h6, qv_lf h6]; exact hl _ h6
    · obtain ⟨o1, o2, o3, o4, o5, o6, o7, o8, o9⟩ := ho.two hp (by omega)
      rw [qv_op (by omega) o5 o7, qv_op (by omega) o5 o7]
      exact hb _ _ _ _ _ o2 o3 (ih _ o5 (by omega)) (ih _ o7 (by omega))
/-- tables that agree give the same values -/
theorem qv_ext {P : Nat} {op1 lf1 rt1 : Nat → Nat} (ho : RPo P op lf rt) (e : ∀ k, k < P → op1 k = op k ∧ lf1 k = lf k ∧ rt1 k = rt k) : ∀ p, p < P → qv lv bn op1 lf1 rt1 d0 p = qv lv bn op lf rt d0 p := by
  intro p
  induction p using Nat.strongRecOn with
  | _ p ih =>
    intro hp
    obtain ⟨e1, e2, e3⟩ := e p hp
    by_cases h6 : op p < 6
    · rw [qv_lf h6, qv_lf (by omega), e1]
    · obtain ⟨o1, o2, o3, o4, o5, o6, o7, o8, o9⟩ := ho.two hp (by omega)
      rw [qv_op (by omega) o5 o7, qv_op (by omega) (by omega) (by omega), e1, e2, e3, ih _ o5 (by omega), ih _ o7 (by omega)]
end QV
/-- a model's stages -/
def vl (k m s : Nat) : Nat := (knB k m s 0).toNat + 2 * (knB k m s 1).toNat + 4 * (knB k m s 2).toNat + 8 * (knB k m s 3).toNat
theorem b4_bit : ∀ x y z w : Bool, x.toNat + 2 * y.toNat + 4 * z.toNat + 8 * w.toNat < 16 ∧ (x.toNat + 2 * y.toNat + 4 * z.toNat + 8 * w.toNat).testBit 0 = x ∧ (x.toNat + 2 * y.toNat + 4 * z.toNat + 8 * w.toNat).testBit 1 = y ∧ (x.toNat + 2 * y.toNat + 4 * z.toNat + 8 * w.toNat).testBit 2 = z ∧ (x.toNat + 2 * y.toNat + 4 * z.toNat + 8 * w.toNat).testBit 3 = w := by decide
theorem vl_bit (k m s : Nat) {i : Nat} (hi : i < 4) : (vl k m s).testBit i = knB k m s i := by
  have h := b4_bit (knB k m s 0) (knB k m s 1) (knB k m s 2) (knB k m s 3)
  rcases k4 hi with rfl | rfl | rfl | rfl
  · exact h.2.1
  · exact h.2.2.1
  · exact h.2.2.2.1
  · exact h.2.2.2.2
theorem vl_lt (k m s : Nat) : vl k m s < 16 := (b4_bit _ _ _ _).1
def kC (k : Nat) : Bool := decide (k = 2)
def s1 (k : Nat) : Nat := if k = 0 then 0 else 1
def s2 (k : Nat) : Nat := if k = 0 then 0 else if k = 1 then 1 else 2
def cmp (s : Nat) (x : Bool × Bool × Bool) : Bool := if s = 0 then x.1 else if s = 1 then x.2.1 else x.2.2
def tQ (op lf rt : Nat → Nat) (k m : Nat) : Nat → Bool × Bool × Bool := qv (b3Lf (vl k m 0) (vl k m (s1 k)) (vl k m (s2 k))) (b3Bn (kC k)) op lf rt (false, false, false)
def cellOk (R : Nat → Int32) (d k s w : Nat) (val : Nat → Bool × Bool × Bool) : Prop := ∃ X, X < 2 ^ 32 ∧ R (91 * d + (kB k + kW k * s + w)) = nI X ∧ ∀ j, j < 32 → 32 * w + j < kM k → X.testBit j = cmp s (val (32 * w + j))
theorem tQ_rel {P : Nat} {op lf rt : Nat → Nat} (ho : RPo P op lf rt) {c : Bool} {R : Bool × Bool × Bool → Bool × Bool × Bool → Prop} (h : b3K c c R) {u v w : Nat} (hl : ∀ k, k < 6 → R (b3Lf u v w k) (b3Lf u v w k)) : ∀ p, p < P → R (qv (b3Lf u v w) (b3Bn c) op lf rt (false, false, false) p) (qv (b3Lf u v w) (b3Bn c) op lf rt (false, false, false) p) :=
  qv_rel R hl (fun k x y x' y' h7 h10 hx hy => by
    unfold b3Bn
    by_cases e7 : k = 7
    · rw [if_pos e7, if_pos e7]; exact (h.2 _ _ _ _ hx hy).1
    · rw [if_neg e7, if_neg e7]
      by_cases e8 : k = 8
      · rw [if_pos e8, if_pos e8]; exact (h.2 _ _ _ _ hx hy).2.1
      · rw [if_neg e8, if_neg e8]; exact (h.2 _ _ _ _ hx hy).2.2) ho
theorem tQ_01 {P : Nat} {op lf rt : Nat → Nat} (ho : RPo P op lf rt) (k m : Nat) {p : Nat} (hp : p < P) : (k = 0 → (tQ op lf rt k m p).2.1 = (tQ op lf rt k m p).1 ∧ (tQ op lf rt k m p).2.2 = (tQ op lf rt k m p).1) ∧ (k = 1 → (tQ op lf rt k m p).2.2 = (tQ op lf rt k m p).2.1) := by
  refine ⟨fun e => ?_, fun e => ?_⟩
  · subst e
    exact tQ_rel ho (k3E (kC 0) (kC 0)) (u := vl 0 m 0) (v := vl 0 m 0) (w := vl 0 m 0) (fun k _ => b3Lf_e _ k) p hp
  · subst e
    exact (tQ_rel ho (k3D (kC 1) (kC 1)) (u := vl 1 m 0) (v := vl 1 m 1) (w := vl 1 m 1) (fun k _ => ⟨rfl, (b3Lf_e1 _ _ _ k).2.2.trans (b3Lf_e1 _ _ _ k).2.1.symm⟩) p hp).2
/-- what an 'if' is at a stage, out of what it is at later ones -/
theorem if_cmp {k s : Nat} (hk : k < 4) (hs : s < kS k) {x y : Bool × Bool × Bool} (h0 : k = 0 → (x.2.1 = x.1 ∧ x.2.2 = x.1) ∧ y.2.1 = y.1 ∧ y.2.2 = y.1) (h1 : k = 1 → x.2.2 = x.2.1 ∧ y.2.2 = y.2.1) : cmp s (b3If (kC k) x y) = if k = 3 ∧ s = 0 then ((!cmp 0 x || cmp 0 y) && (cmp 1 (b3If (kC k) x y) && cmp 2 (b3If (kC k) x y))) else if k < 3 ∧ s < k then ((!cmp s x || cmp s y) && cmp (s + 1) (b3If (kC k) x y)) else (!cmp s x || cmp s y) := by
  obtain ⟨xa, xb, xc⟩ := x
  obtain ⟨ya, yb, yc⟩ := y
  rcases k4 hk with rfl | rfl | rfl | rfl
  · obtain ⟨⟨e1, e2⟩, e3, e4⟩ := h0 rfl
    simp only at e1 e2 e3 e4
    have : s = 0 := by rw [show kS 0 = 1 from rfl] at hs; omega
    subst this e1 e2 e3 e4
    revert xc yc; decide
  · obtain ⟨e1, e2⟩ := h1 rfl
    simp only at e1 e2
    subst e1 e2
    obtain rfl | rfl : s = 0 ∨ s = 1 := by rw [show kS 1 = 2 from rfl] at hs; omega
    · revert xa xc ya yc; decide
    · revert xa xc ya yc; decide
  · obtain rfl | rfl | rfl : s = 0 ∨ s = 1 ∨ s = 2 := by rw [show kS 2 = 3 from rfl] at hs; omega
    all_goals (revert xa xb xc ya yb yc; decide)
  · obtain rfl | rfl | rfl : s = 0 ∨ s = 1 ∨ s = 2 := by rw [show kS 3 = 3 from rfl] at hs; omega
    all_goals (revert xa xb xc ya yb yc; decide)
