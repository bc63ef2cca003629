/-! THE REFERENCE: a claim's part has the claim's value in every good algebra -/
def GA {α : Type} (lv : Nat → α) (un : α → α) (bn : Nat → α → α → α) (gd : α → Prop) : Prop := (∀ k, k < 6 → gd (lv k)) ∧ (∀ k x y, 7 ≤ k → k < 10 → gd x → gd y → gd (bn k x y)) ∧ (∀ x, gd x → un x = bn 9 x (lv 5)) ∧ (∀ x, gd x → bn 7 (lv 4) x = x ∧ bn 7 x x = x ∧ bn 7 x (lv 4) = x ∧ bn 7 (lv 5) x = lv 5 ∧ bn 7 x (lv 5) = lv 5) ∧ (∀ x, gd x → bn 8 (lv 5) x = x ∧ bn 8 x x = x ∧ bn 8 x (lv 5) = x ∧ bn 8 (lv 4) x = lv 4 ∧ bn 8 x (lv 4) = lv 4) ∧ ∀ x, gd x → bn 9 (lv 4) x = x ∧ bn 9 (lv 5) x = lv 4 ∧ bn 9 x (lv 4) = lv 4 ∧ bn 9 x x = lv 4
def mkR (b : Nat) (ia fi : Nat → Nat → Int32) (fl : Nat → Nat → Int64) (qa : Nat → Nat → Option Nat) (f : mmF) (P : Nat) (op lf rt : Nat → Nat) (k x y : Nat) (o : Option (Int32 × mmF)) : Prop := ∃ (ia1 fi1 : Nat → Nat → Int32) (P1 : Nat) (op1 lf1 rt1 : Nat → Nat) (r : Nat), o = some (nI r, wr (SK b) ia1 fi1 fl qa f) ∧ RP b ia1 fi1 P1 op1 lf1 rt1 ∧ REx P op lf rt P1 op1 lf1 rt1 ∧ P1 ≤ P + 1 ∧ r < P1 ∧ pE b ia fi ia1 fi1 ∧ ∀ (α : Type) (lv : Nat → α) (un : α → α) (bn : Nat → α → α → α) (gd : α → Prop) (d0 : α), GA lv un bn gd → qv lv bn op1 lf1 rt1 d0 r = bn k (qv lv bn op lf rt d0 x) (qv lv bn op lf rt d0 y)
section PARTOF
variable {b : Nat} {ia fi : Nat → Nat → Int32} {fl : Nat → Nat → Int64} {qa : Nat → Nat → Option Nat} {f : mmF} {op lf rt : Nat → Nat} {P : Nat}
theorem GA.good {α : Type} {lv : Nat → α} {un : α → α} {bn : Nat → α → α → α} {gd : α → Prop} {d0 : α} (h : GA lv un bn gd) (ho : RPo P op lf rt) : ∀ p, p < P → gd (qv lv bn op lf rt d0 p) := by
  intro p
  induction p using Nat.strongRecOn with
  | _ p ih =>
    intro hp
    by_cases h6 : op p < 6
    · rw [qv_lf h6]; exact h.1 _ h6
    · obtain ⟨o1, o2, o3, o4, o5, o6, o7, o8, o9⟩ := ho.two hp (by omega)
      rw [qv_op (by omega) o5 o7]
      exact h.2.1 _ _ _ o2 o3 (ih _ o5 (by omega)) (ih _ o7 (by omega))
theorem qv_0 {α : Type} {lv : Nat → α} {bn : Nat → α → α → α} {d0 : α} (ho : RPo P op lf rt) (h : 0 < P) : qv lv bn op lf rt d0 0 = lv 4 := by
  have e : op 0 = 4 := by rcases ho.1 0 h with h1 | h1 | h1 <;> omega
  rw [qv_lf (by omega), e]
theorem qv_1 {α : Type} {lv : Nat → α} {bn : Nat → α → α → α} {d0 : α} (ho : RPo P op lf rt) (h : 1 < P) : qv lv bn op lf rt d0 1 = lv 5 := by
  have e : op 1 = 5 := by rcases ho.1 1 h with h1 | h1 | h1 <;> omega
  rw [qv_lf (by omega), e]
theorem mkR.old {k x y r : Nat} (h : RP b ia fi P op lf rt) (hr : r < P) (hv : ∀ (α : Type) (lv : Nat → α) (un : α → α) (bn : Nat → α → α → α) (gd : α → Prop) (d0 : α), GA lv un bn gd → qv lv bn op lf rt d0 r = bn k (qv lv bn op lf rt d0 x) (qv lv bn op lf rt d0 y)) : mkR b ia fi fl qa f P op lf rt k x y (some (nI r, wr (SK b) ia fi fl qa f)) := ⟨ia, fi, P, op, lf, rt, r, rfl, h, REx.rf, Nat.le_succ _, hr, pE.rf, hv⟩
theorem mkR.new {k x y : Nat} (h : RP b ia fi P op lf rt) (hP : P < 1000) (hx : x < P) (hy : y < P) (hn : pOk P k x y) (h7 : 7 ≤ k) : mkR b ia fi fl qa f P op lf rt k x y ((f_X10_part (b + 83) (nI k) (nI x) (nI y) (wr (SK b) ia fi fl qa f)).bind fun q => some (q.1, q.2)) := by
  obtain ⟨ia1, fi1, P1, op1, lf1, rt1, r, a1, a2, a3, a4, ⟨a5, a6, a7, a8⟩, a9, a10⟩ := part_t (fl := fl) (qa := qa) (f := f) h hn hP
  refine ⟨ia1, fi1, P1, op1, lf1, rt1, r, by rw [a1]; rfl, a2, a3, a4, a5, a9, fun α lv un bn gd d0 hg => ?_⟩
  obtain ⟨o1, o2, o3, o4, o5, o6, o7, o8, o9⟩ := a2.2.2.1.two a5 (by omega)
  rw [qv_op (by omega) o5 o7, a6, a7, a8, qv_ext h.2.2.1 a3.2 x hx, qv_ext h.2.2.1 a3.2 y hy]
theorem both_t {x y : Nat} (h : RP b ia fi P op lf rt) (h2 : 2 ≤ P) (hP : P < 1000) (hx : x < P) (hy : y < P) : mkR b ia fi fl qa f P op lf rt 7 x y (f_X10_both (b + 83) (nI x) (nI y) (wr (SK b) ia fi fl qa f)) := by
  have ho := h.2.2.1
  have q : ∀ u v : Nat, u < 1000 → v < 1000 → (nI u = nI v) = (u = v) := fun u v hu hv => propext (nI_eq (by omega) (by omega))
  unfold f_X10_both
  simp only [show (0 : Int32) = nI 0 from rfl, show (1 : Int32) = nI 1 from rfl, q x 0 (by omega) (by omega), q x y (by omega) (by omega), q y 0 (by omega) (by omega), q x 1 (by omega) (by omega), q y 1 (by omega) (by omega)]
  by_cases c1 : x = 0
  · rw [if_pos c1]
    exact mkR.old h hy fun α lv un bn gd d0 hg => by rw [c1, qv_0 ho (by omega), (hg.2.2.2.1 _ (hg.good ho y hy)).1]
  rw [if_neg c1]
  by_cases c2 : x = y
  · rw [if_pos c2]
    exact mkR.old h hy fun α lv un bn gd d0 hg => by rw [c2, (hg.2.2.2.1 _ (hg.good ho y hy)).2.1]
  rw [if_neg c2]
  by_cases c3 : y = 0
  · rw [if_pos c3]
    exact mkR.old h hx fun α lv un bn gd d0 hg => by rw [c3, qv_0 ho (by omega), (hg.2.2.2.1 _ (hg.good ho x hx)).2.2.1]
  rw [if_neg c3]
  by_cases c4 : x = 1
  · rw [if_pos c4]
    exact mkR.old h (by omega) fun α lv un bn gd d0 hg => by rw [c4, qv_1 ho (by omega), (hg.2.2.2.1 _ (hg.good ho y hy)).2.2.2.1]
  rw [if_neg c4]
  by_cases c5 : y = 1
  · rw [if_pos c5]
    exact mkR.old h (by omega) fun α lv un bn gd d0 hg => by rw [c5, qv_1 ho (by omega), (hg.2.2.2.1 _ (hg.good ho x hx)).2.2.2.2]
  rw [if_neg c5]
  simp only [ck_83, Option.bind_some]
  exact mkR.new h hP hx hy (Or.inr (Or.inr ⟨h2, by omega, by omega, by omega, hx, by omega, hy, c2, fun e => absurd e c5⟩)) (by omega)
theorem either_t {x y : Nat} (h : RP b ia fi P op lf rt) (h2 : 2 ≤ P) (hP : P < 1000) (hx : x < P) (hy : y < P) : mkR b ia fi fl qa f P op lf rt 8 x y (f_X10_either (b + 83) (nI x) (nI y) (wr (SK b) ia fi fl qa f)) := by
  have ho := h.2.2.1
  have q : ∀ u v : Nat, u < 1000 → v < 1000 → (nI u = nI v) = (u = v) := fun u v hu hv => propext (nI_eq (by omega) (by omega))
  unfold f_X10_either
  simp only [show (0 : Int32) = nI 0 from rfl, show (1 : Int32) = nI 1 from rfl, q x 0 (by omega) (by omega), q x y (by omega) (by omega), q y 0 (by omega) (by omega), q x 1 (by omega) (by omega), q y 1 (by omega) (by omega)]
  by_cases c1 : x = 1
  · rw [if_pos c1]
    exact mkR.old h hy fun α lv un bn gd d0 hg => by rw [c1, qv_1 ho (by omega), (hg.2.2.2.2.1 _ (hg.good ho y hy)).1]
  rw [if_neg c1]
  by_cases c2 : x = y
  · rw [if_pos c2]
    exact mkR.old h hy fun α lv un bn gd d0 hg => by rw [c2, (hg.2.2.2.2.1 _ (hg.good ho y hy)).2.1]
  rw [if_neg c2]
  by_cases c3 : y = 1
  · rw [if_pos c3]
    exact mkR.old h hx fun α lv un bn gd d0 hg => by rw [c3, qv_1 ho (by omega), (hg.2.2.2.2.1 _ (hg.good ho x hx)).2.2.1]
  rw [if_neg c3]
  by_cases c4 : x = 0
  · rw [if_pos c4]
    exact mkR.old h (by omega) fun α lv un bn gd d0 hg => by rw [c4, qv_0 ho (by omega), (hg.2.2.2.2.1 _ (hg.good ho y hy)).2.2.2.1]
  rw [if_neg c4]
  by_cases c5 : y = 0
  · rw [if_pos c5]
    exact mkR.old h (by omega) fun α lv un bn gd d0 hg => by rw [c5, qv_0 ho (by omega), (hg.2.2.2.2.1 _ (hg.good ho x hx)).2.2.2.2]
  rw [if_neg c5]
  simp only [ck_83, Option.bind_some]
  exact mkR.new h hP hx hy (Or.inr (Or.inr ⟨h2, by omega, by omega, by omega, hx, by omega, hy, c2, fun e => absurd e c3⟩)) (by omega)
theorem implies_t {x y : Nat} (h : RP b ia fi P op lf rt) (h2 : 2 ≤ P) (hP : P < 1000) (hx : x < P) (hy : y < P) : mkR b ia fi fl qa f P op lf rt 9 x y (f_X10_implies (b + 83) (nI x) (nI y) (wr (SK b) ia fi fl qa f)) := by
  have ho := h.2.2.1
  have q : ∀ u v : Nat, u < 1000 → v < 1000 → (nI u = nI v) = (u = v) := fun u v hu hv => propext (nI_eq (by omega) (by omega))
  unfold f_X10_implies
  simp only [show (0 : Int32) = nI 0 from rfl, show (1 : Int32) = nI 1 from rfl, q x 0 (by omega) (by omega), q x y (by omega) (by omega), q y 0 (by omega) (by omega), q x 1 (by omega) (by omega), q y 1 (by omega) (by omega)]
  by_cases c1 : x = 0
  · rw [if_pos c1]
    exact mkR.old h hy fun α lv un bn gd d0 hg => by rw [c1, qv_0 ho (by omega), (hg.2.2.2.2.2 _ (hg.good ho y hy)).1]
  rw [if_neg c1]
  by_cases c4 : x = 1
  · rw [if_pos c4]
    exact mkR.old h (by omega) fun α lv un bn gd d0 hg => by rw [c4, qv_0 ho (by omega), qv_1 ho (by omega), (hg.2.2.2.2.2 _ (hg.good ho y hy)).2.1]
  rw [if_neg c4]
  by_cases c3 : y = 0
  · rw [if_pos c3]
    exact mkR.old h (by omega) fun α lv un bn gd d0 hg => by rw [c3, qv_0 ho (by omega), (hg.2.2.2.2.2 _ (hg.good ho x hx)).2.2.1]
  rw [if_neg c3]
  by_cases c2 : x = y
  · rw [if_pos c2]
    exact mkR.old h (by omega) fun α lv un bn gd d0 hg => by rw [c2, qv_0 ho (by omega), (hg.2.2.2.2.2 _ (hg.good ho y hy)).2.2.2]
  rw [if_neg c2]
  simp only [ck_83, Option.bind_some]
  exact mkR.new h hP hx hy (Or.inr (Or.inr ⟨h2, by omega, by omega, by omega, hx, by omega, hy, c2, fun e => rfl⟩)) (by omega)
end PARTOF
