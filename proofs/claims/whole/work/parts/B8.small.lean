/-! SMALL MODELS: values at three stages -/
def b3Lf (u v w : Nat) (k : Nat) : Bool × Bool × Bool := if k < 4 then (u.testBit k, v.testBit k, w.testBit k) else if k = 4 then (true, true, true) else (false, false, false)
def b3If (c : Bool) (x y : Bool × Bool × Bool) : Bool × Bool × Bool := ((!x.1 || y.1) && ((!x.2.1 || y.2.1) && (!c || (!x.2.2 || y.2.2))) && (!x.2.2 || y.2.2), (!x.2.1 || y.2.1) && (!c || (!x.2.2 || y.2.2)), !x.2.2 || y.2.2)
def b3Un (c : Bool) (x : Bool × Bool × Bool) : Bool × Bool × Bool := b3If c x (false, false, false)
def b3Bn (c : Bool) (k : Nat) (x y : Bool × Bool × Bool) : Bool × Bool × Bool := if k = 7 then (x.1 && y.1, x.2.1 && y.2.1, x.2.2 && y.2.2) else if k = 8 then (x.1 || y.1, x.2.1 || y.2.1, x.2.2 || y.2.2) else b3If c x y
def tP (c : Bool) (u v w : Nat) (kd lf rt : Nat → Nat) : Nat → Bool × Bool × Bool := pv (b3Lf u v w) (b3Un c) (b3Bn c) kd lf rt (false, false, false)
def tN (c : Bool) (u v w : Nat) (g : Nat → Nat) : Nat → Bool × Bool × Bool := nv (b3Lf u v w) (b3Un c) (b3Bn c) g (false, false, false)
/-- two algebras that go together -/
theorem pv_rel {α β : Type} (R : α → β → Prop) {lv : Nat → α} {un : α → α} {bn : Nat → α → α → α} {d0 : α} {lv' : Nat → β} {un' : β → β} {bn' : Nat → β → β → β} {d1 : β} {S : Nat} {kd lf rt : Nat → Nat} (hl : ∀ k, k < 6 → R (lv k) (lv' k)) (hu : ∀ x y, R x y → R (un x) (un' y)) (hb : ∀ k x y x' y', 7 ≤ k → k < 10 → R x x' → R y y' → R (bn k x y) (bn' k x' y')) (ho : PTo S kd lf rt) : ∀ p, p < S → R (pv lv un bn kd lf rt d0 p) (pv lv' un' bn' kd lf rt d1 p) := by
  intro p
  induction p using Nat.strongRecOn with
  | _ p ih =>
    intro hp
    by_cases h6 : p < 6
    · rw [pv_lf h6, pv_lf h6]; exact hl p h6
    · obtain ⟨o1, o2, o3, o4, o5⟩ := ho.2.2.2.1 p (by omega) hp
      by_cases h7 : kd p = 6
      · rw [pv_un (by omega) h7 o3, pv_un (by omega) h7 o3]; exact hu _ _ (ih _ o3 (by omega))
      · rw [pv_bn (by omega) h7 o3 o4, pv_bn (by omega) h7 o3 o4]
        exact hb _ _ _ _ _ (by omega) o2 (ih _ o3 (by omega)) (ih _ o4 (by omega))
theorem nv_rel {α β : Type} (R : α → β → Prop) {lv : Nat → α} {un : α → α} {bn : Nat → α → α → α} {d0 : α} {lv' : Nat → β} {un' : β → β} {bn' : Nat → β → β → β} {d1 : β} {g : Nat → Nat} {k : Nat} (hl : ∀ j, j < k → g j < 6 → R (lv (g j)) (lv' (g j))) (hu : ∀ x y, R x y → R (un x) (un' y)) (hb : ∀ k x y x' y', 7 ≤ k → k < 10 → R x x' → R y y' → R (bn k x y) (bn' k x' y')) (ho : okp g k) : ∀ i, i < k → R (nv lv un bn g d0 i) (nv lv' un' bn' g d1 i) := by
  intro i
  induction i using Nat.strongRecOn with
  | _ i ih =>
    intro hi
    by_cases h6 : g i < 6
    · rw [nv_lf h6, nv_lf h6]; exact hl i hi h6
    · have hr := rc_lt ho hi (by omega)
      by_cases h7 : g i = 6
      · rw [nv_un h7 hr, nv_un h7 hr]; exact hu _ _ (ih _ hr (by omega))
      · have hl := lc_lt ho hi (by omega)
        rw [nv_bn (by omega) hl hr, nv_bn (by omega) hl hr]
        exact hb _ _ _ _ _ (by omega) (ho i hi).1 (ih _ hl (by omega)) (ih _ hr (by omega))
theorem b3Lf_e1 (u v w k : Nat) : (b3Lf u v w k).1 = (b3Lf u u u k).1 ∧ (b3Lf u v w k).2.1 = (b3Lf v v v k).1 ∧ (b3Lf u v w k).2.2 = (b3Lf w w w k).1 := by
  unfold b3Lf
  by_cases h : k < 4
  · exact ⟨by simp only [if_pos h], by simp only [if_pos h], by simp only [if_pos h]⟩
  · by_cases h4 : k = 4
    · exact ⟨by simp only [if_neg h, if_pos h4], by simp only [if_neg h, if_pos h4], by simp only [if_neg h, if_pos h4]⟩
    · exact ⟨by simp only [if_neg h, if_neg h4], by simp only [if_neg h, if_neg h4], by simp only [if_neg h, if_neg h4]⟩
theorem b3Lf_e (u k : Nat) : (b3Lf u u u k).2.1 = (b3Lf u u u k).1 ∧ (b3Lf u u u k).2.2 = (b3Lf u u u k).1 := ⟨(b3Lf_e1 u u u k).2.1, (b3Lf_e1 u u u k).2.2⟩
/-- a relation that all three signs keep -/
def b3K (c d : Bool) (R : Bool × Bool × Bool → Bool × Bool × Bool → Prop) : Prop := R (false, false, false) (false, false, false) ∧ ∀ x y x' y', R x x' → R y y' → R (x.1 && y.1, x.2.1 && y.2.1, x.2.2 && y.2.2) (x'.1 && y'.1, x'.2.1 && y'.2.1, x'.2.2 && y'.2.2) ∧ R (x.1 || y.1, x.2.1 || y.2.1, x.2.2 || y.2.2) (x'.1 || y'.1, x'.2.1 || y'.2.1, x'.2.2 || y'.2.2) ∧ R (b3If c x y) (b3If d x' y')
theorem tP_rel {c d : Bool} {R : Bool × Bool × Bool → Bool × Bool × Bool → Prop} (h : b3K c d R) {u v w u' v' w' : Nat} (hl : ∀ k, k < 6 → R (b3Lf u v w k) (b3Lf u' v' w' k)) {S : Nat} {kd lf rt : Nat → Nat} (ho : PTo S kd lf rt) : ∀ p, p < S → R (tP c u v w kd lf rt p) (tP d u' v' w' kd lf rt p) :=
  pv_rel R hl (fun x y hx => (h.2 _ _ _ _ hx h.1).2.2) (fun k x y x' y' h7 h10 hx hy => by
    unfold b3Bn
    by_cases e7 : k = 7
    · rw [if_pos e7, if_pos e7]; exact (h.2 _ _ _ _ hx hy).1
    · rw [if_neg e7, if_neg e7]
      by_cases e8 : k = 8
      · rw [if_pos e8, if_pos e8]; exact (h.2 _ _ _ _ hx hy).2.1
      · rw [if_neg e8, if_neg e8]; exact (h.2 _ _ _ _ hx hy).2.2) ho
theorem tN_rel {c d : Bool} {R : Bool × Bool × Bool → Bool × Bool × Bool → Prop} (h : b3K c d R) {u v w u' v' w' : Nat} {g : Nat → Nat} {k : Nat} (hl : ∀ j, j < k → g j < 6 → R (b3Lf u v w (g j)) (b3Lf u' v' w' (g j))) (ho : okp g k) : ∀ i, i < k → R (tN c u v w g i) (tN d u' v' w' g i) :=
  nv_rel R hl (fun x y hx => (h.2 _ _ _ _ hx h.1).2.2) (fun k x y x' y' h7 h10 hx hy => by
    unfold b3Bn
    by_cases e7 : k = 7
    · rw [if_pos e7, if_pos e7]; exact (h.2 _ _ _ _ hx hy).1
    · rw [if_neg e7, if_neg e7]
      by_cases e8 : k = 8
      · rw [if_pos e8, if_pos e8]; exact (h.2 _ _ _ _ hx hy).2.1
      · rw [if_neg e8, if_neg e8]; exact (h.2 _ _ _ _ hx hy).2.2) ho
/-- all three alike -/
def r3E (x _y : Bool × Bool × Bool) : Prop := x.2.1 = x.1 ∧ x.2.2 = x.1
/-- the second stage is a lone one of the other; the third is -/
def r3S (x y : Bool × Bool × Bool) : Prop := x.2.1 = y.1 ∧ y.2.1 = y.1 ∧ y.2.2 = y.1
def r3T (x y : Bool × Bool × Bool) : Prop := x.2.2 = y.1 ∧ y.2.1 = y.1 ∧ y.2.2 = y.1
/-- the second stage of a chain is the first one of a shorter one -/
def r3C (x y : Bool × Bool × Bool) : Prop := x.2.1 = y.1 ∧ x.2.2 = y.2.1 ∧ y.2.2 = y.2.1
/-- a fork, turned round -/
def r3W (x y : Bool × Bool × Bool) : Prop := x.1 = y.1 ∧ x.2.1 = y.2.2 ∧ x.2.2 = y.2.1
/-- the same, and both later stages alike -/
def r3D (x y : Bool × Bool × Bool) : Prop := x = y ∧ x.2.2 = x.2.1
/-- what holds first holds later -/
def r3P (x _y : Bool × Bool × Bool) : Prop := (x.1 = true → x.2.1 = true) ∧ (x.1 = true → x.2.2 = true)
/-- a chain whose first two stages are one -/
def r3A (x y : Bool × Bool × Bool) : Prop := x.1 = y.1 ∧ x.2.1 = y.1 ∧ x.2.2 = y.2.1 ∧ y.2.2 = y.2.1
theorem k3E (c d : Bool) : b3K c d r3E := by unfold b3K r3E b3If; refine ⟨by simp, ?_⟩; rintro ⟨a, b, e⟩ ⟨a1, b1, e1⟩ - - ⟨h1, h2⟩ ⟨h3, h4⟩; simp only at h1 h2 h3 h4; subst h1 h2 h3 h4; revert e e1 c; decide
theorem k3S (d : Bool) : b3K false d r3S := by unfold b3K r3S b3If; refine ⟨by simp, ?_⟩; rintro ⟨a, b, e⟩ ⟨a1, b1, e1⟩ ⟨x1, x2, x3⟩ ⟨y1, y2, y3⟩ ⟨h1, h2, h3⟩ ⟨h4, h5, h6⟩; simp only at h1 h2 h3 h4 h5 h6; subst h1 h2 h3 h4 h5 h6; revert a e x3 a1 e1 y3 d; decide
theorem k3T (c d : Bool) : b3K c d r3T := by unfold b3K r3T b3If; refine ⟨by simp, ?_⟩; rintro ⟨a, b, e⟩ ⟨a1, b1, e1⟩ ⟨x1, x2, x3⟩ ⟨y1, y2, y3⟩ ⟨h1, h2, h3⟩ ⟨h4, h5, h6⟩; simp only at h1 h2 h3 h4 h5 h6; subst h1 h2 h3 h4 h5 h6; revert a b x3 a1 b1 y3 c d; decide
theorem k3C (d : Bool) : b3K true d r3C := by unfold b3K r3C b3If; refine ⟨by simp, ?_⟩; rintro ⟨a, b, e⟩ ⟨a1, b1, e1⟩ ⟨x1, x2, x3⟩ ⟨y1, y2, y3⟩ ⟨h1, h2, h3⟩ ⟨h4, h5, h6⟩; simp only at h1 h2 h3 h4 h5 h6; subst h1 h2 h3 h4 h5 h6; revert a b x3 a1 b1 y3 d; decide
theorem k3W : b3K false false r3W := by unfold b3K r3W b3If; refine ⟨by simp, ?_⟩; rintro ⟨a, b, e⟩ ⟨a1, b1, e1⟩ ⟨x1, x2, x3⟩ ⟨y1, y2, y3⟩ ⟨h1, h2, h3⟩ ⟨h4, h5, h6⟩; simp only at h1 h2 h3 h4 h5 h6; subst h1 h2 h3 h4 h5 h6; revert a b e a1 b1 e1; decide
theorem k3D (c d : Bool) : b3K c d r3D := by unfold b3K r3D b3If; refine ⟨by simp, ?_⟩; rintro ⟨a, b, e⟩ ⟨a1, b1, e1⟩ - - ⟨rfl, h2⟩ ⟨rfl, h4⟩; simp only at h2 h4; subst h2 h4; revert a e a1 e1 c d; decide
theorem k3P (c d : Bool) : b3K c d r3P := by unfold b3K r3P b3If; refine ⟨by simp, ?_⟩; rintro ⟨a, b, e⟩ ⟨a1, b1, e1⟩ - - ⟨h1, h2⟩ ⟨h3, h4⟩; simp only at h1 h2 h3 h4; revert a b e a1 b1 e1 c; decide
theorem k3A (d : Bool) : b3K true d r3A := by unfold b3K r3A b3If; refine ⟨by simp, ?_⟩; rintro ⟨a, b, e⟩ ⟨a1, b1, e1⟩ ⟨x1, x2, x3⟩ ⟨y1, y2, y3⟩ ⟨h1, h2, h3, h4⟩ ⟨h5, h6, h7, h8⟩; simp only at h1 h2 h3 h4 h5 h6 h7 h8; subst h1 h2 h3 h4 h5 h6 h7 h8; revert b x3 b1 y3 d; decide
