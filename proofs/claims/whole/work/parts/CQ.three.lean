/-! THREE STAGES AS A MODEL: what a word's bit means -/
def r3K (c : Bool) (i j : Fin 3) : Prop := i.val = j.val ∨ i.val = 0 ∨ (c = true ∧ i.val = 1 ∧ j.val = 2)
def v3K (u v w : Nat) (k : Nat) (i : Fin 3) : Prop := cmp i.val (b3Lf u v w k) = true
def n3K (c : Bool) (u v w : Nat) : Prop := ∀ k, k < 4 → (u.testBit k = true → v.testBit k = true ∧ w.testBit k = true) ∧ (c = true → v.testBit k = true → w.testBit k = true)
theorem f3 (i : Fin 3) : i = 0 ∨ i = 1 ∨ i = 2 := by
  obtain ⟨i, hi⟩ := i
  obtain rfl | rfl | rfl : i = 0 ∨ i = 1 ∨ i = 2 := by omega
  · exact Or.inl rfl
  · exact Or.inr (Or.inl rfl)
  · exact Or.inr (Or.inr rfl)
theorem all3 {Q : Fin 3 → Prop} : (∀ i, Q i) ↔ Q 0 ∧ Q 1 ∧ Q 2 := ⟨fun h => ⟨h 0, h 1, h 2⟩, fun h i => by
  rcases f3 i with rfl | rfl | rfl
  · exact h.1
  · exact h.2.1
  · exact h.2.2⟩
theorem km3 {c : Bool} {u v w : Nat} (h : n3K c u v w) : isKM (r3K c) (v3K u v w) := by
  refine ⟨fun i => Or.inl rfl, fun i j k h1 h2 => ?_, fun k i j hR hv => ?_⟩
  · unfold r3K at h1 h2 ⊢
    rcases h1 with h1 | h1 | h1
    · rw [h1]; exact h2
    · exact Or.inr (Or.inl h1)
    · rcases h2 with h2 | h2 | h2
      · exact Or.inr (Or.inr ⟨h1.1, h1.2.1, h2.symm.trans h1.2.2⟩)
      · exact absurd (h1.2.2.symm.trans h2) (by decide)
      · exact absurd (h1.2.2.symm.trans h2.2.1) (by decide)
  · unfold v3K b3Lf at hv ⊢
    by_cases hk : k < 4
    · obtain ⟨h1, h2⟩ := h k hk
      rw [if_pos hk] at hv ⊢
      rcases hR with e | e | ⟨e1, e2, e3⟩
      · rw [← e]; exact hv
      · rw [e] at hv
        have hu : u.testBit k = true := hv
        obtain ⟨g1, g2⟩ := h1 hu
        rcases f3 j with rfl | rfl | rfl
        · exact hu
        · exact g1
        · exact g2
      · rw [e2] at hv
        rw [e3]
        exact h2 e1 hv
    · rw [if_neg hk] at hv ⊢
      by_cases hk4 : k = 4
      · rw [if_pos hk4]
        rcases f3 j with rfl | rfl | rfl <;> rfl
      · rw [if_neg hk4] at hv
        rcases f3 i with rfl | rfl | rfl <;> cases hv
def e3K (x : Fin 3 → Prop) (y : Bool × Bool × Bool) : Prop := (x 0 ↔ y.1 = true) ∧ (x 1 ↔ y.2.1 = true) ∧ (x 2 ↔ y.2.2 = true)
theorem r3_0 (c : Bool) (j : Fin 3) : r3K c 0 j ↔ True := ⟨fun _ => trivial, fun _ => Or.inr (Or.inl rfl)⟩
theorem r3_1 (c : Bool) : (r3K c 1 0 ↔ False) ∧ (r3K c 1 1 ↔ True) ∧ (r3K c 1 2 ↔ c = true) ∧ (r3K c 2 0 ↔ False) ∧ (r3K c 2 1 ↔ False) ∧ (r3K c 2 2 ↔ True) := by
  cases c <;> simp [r3K]
theorem e3_if {c : Bool} {x x' : Fin 3 → Prop} {y y' : Bool × Bool × Bool} (h : e3K x y) (h' : e3K x' y') : e3K (kBn (r3K c) 9 x x') (b3If c y y') := by
  obtain ⟨a1, a2, a3⟩ := h
  obtain ⟨b1, b2, b3⟩ := h'
  obtain ⟨q1, q2, q3, q4, q5, q6⟩ := r3_1 c
  have k9 : ∀ i, kBn (r3K c) 9 x x' i = ∀ j, r3K c i j → x j → x' j := fun _ => rfl
  obtain ⟨y0, y1, y2⟩ := y
  obtain ⟨z0, z1, z2⟩ := y'
  unfold e3K b3If
  simp only [k9, all3, r3_0, q1, q2, q3, q4, q5, q6, a1, a2, a3, b1, b2, b3]
  cases c <;> cases y0 <;> cases y1 <;> cases y2 <;> cases z0 <;> cases z1 <;> cases z2 <;> simp
theorem kT_3 {P : Nat} {op lf rt : Nat → Nat} (ho : RPo P op lf rt) (c : Bool) (u v w : Nat) : ∀ p, p < P → e3K (kT (r3K c) (v3K u v w) op lf rt p) (qv (b3Lf u v w) (b3Bn c) op lf rt (false, false, false) p) := by
  have ht := ho.to
  intro p
  induction p using Nat.strongRecOn with
  | _ p ih =>
    intro hp
    rcases ho.1 p hp with h | h | h
    · have h6 : op p < 6 := by omega
      have hq : qv (b3Lf u v w) (b3Bn c) op lf rt (false, false, false) p = b3Lf u v w (op p) := by rw [qv_eq, if_pos h6]
      rw [hq]
      have hx : ∀ i, kT (r3K c) (v3K u v w) op lf rt p i ↔ op p = 4 := fun i => by rw [kT_lf h6, if_neg (by omega)]
      unfold e3K b3Lf
      rw [hx, hx, hx, if_neg (by omega)]
      by_cases e : op p = 4
      · rw [if_pos e]; exact ⟨⟨fun _ => rfl, fun _ => e⟩, ⟨fun _ => rfl, fun _ => e⟩, ⟨fun _ => rfl, fun _ => e⟩⟩
      · rw [if_neg e]; exact ⟨⟨fun h => absurd h e, fun h => nomatch h⟩, ⟨fun h => absurd h e, fun h => nomatch h⟩, ⟨fun h => absurd h e, fun h => nomatch h⟩⟩
    · have h6 : op p < 6 := by omega
      have hq : qv (b3Lf u v w) (b3Bn c) op lf rt (false, false, false) p = b3Lf u v w (op p) := by rw [qv_eq, if_pos h6]
      rw [hq]
      have hx : ∀ i, kT (r3K c) (v3K u v w) op lf rt p i ↔ v3K u v w (op p) i := fun i => by rw [kT_lf h6, if_pos (by omega)]
      unfold e3K
      rw [hx, hx, hx]
      exact ⟨Iff.rfl, Iff.rfl, Iff.rfl⟩
    · have hl := ih (lf p) (by omega) (by omega)
      have hr := ih (rt p) (by omega) (by omega)
      have hq : qv (b3Lf u v w) (b3Bn c) op lf rt (false, false, false) p = b3Bn c (op p) (qv (b3Lf u v w) (b3Bn c) op lf rt (false, false, false) (lf p)) (qv (b3Lf u v w) (b3Bn c) op lf rt (false, false, false) (rt p)) := qv_op (by omega) (by omega) (by omega)
      rw [hq]
      have hx : kT (r3K c) (v3K u v w) op lf rt p = kBn (r3K c) (op p) (kT (r3K c) (v3K u v w) op lf rt (lf p)) (kT (r3K c) (v3K u v w) op lf rt (rt p)) := funext fun i => propext (kT_op ht hp (by omega) i)
      rw [hx]
      generalize kT (r3K c) (v3K u v w) op lf rt (lf p) = x at hl
      generalize kT (r3K c) (v3K u v w) op lf rt (rt p) = x' at hr
      generalize qv (b3Lf u v w) (b3Bn c) op lf rt (false, false, false) (lf p) = y at hl
      generalize qv (b3Lf u v w) (b3Bn c) op lf rt (false, false, false) (rt p) = y' at hr
      obtain e | e | e : op p = 7 ∨ op p = 8 ∨ op p = 9 := by omega
      · rw [e]
        obtain ⟨a1, a2, a3⟩ := hl
        obtain ⟨b1, b2, b3⟩ := hr
        have k7 : ∀ i, kBn (r3K c) 7 x x' i = (x i ∧ x' i) := fun _ => rfl
        unfold e3K b3Bn
        simp only [k7, if_true, a1, a2, a3, b1, b2, b3, Bool.and_eq_true, and_self]
      · rw [e]
        obtain ⟨a1, a2, a3⟩ := hl
        obtain ⟨b1, b2, b3⟩ := hr
        have k8 : ∀ i, kBn (r3K c) 8 x x' i = (x i ∨ x' i) := fun _ => rfl
        unfold e3K b3Bn
        rw [if_neg (by decide), if_pos rfl]
        simp only [k8, a1, a2, a3, b1, b2, b3, Bool.or_eq_true, and_self]
      · rw [e]
        exact e3_if hl hr
