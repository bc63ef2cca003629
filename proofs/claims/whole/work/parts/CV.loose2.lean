/-! THE REFERENCE'S SEARCH: loosens, by what it makes; how the table grows -/
/-- what 'implies' is asked for by the search -/
def adm (P : Nat) (op lf rt : Nat → Nat) (x y : Nat) : Prop := ∃ p, p < P ∧ op p = 9 ∧ ((7 ≤ op (lf p) ∧ x = rt (lf p) ∧ y = rt p) ∨ (op (lf p) = 8 ∧ x = lf (lf p) ∧ y = rt p) ∨ (op (lf p) = 7 ∧ x = lf (lf p) ∧ impS op lf rt y (rt (lf p)) (rt p)))
/-- the table with what 'implies' has made of x and y -/
def gr1 (P : Nat) (op lf rt : Nat → Nat) (P1 : Nat) (op1 lf1 rt1 : Nat → Nat) (x y r : Nat) : Prop := REx P op lf rt P1 op1 lf1 rt1 ∧ r < P1 ∧ impS op1 lf1 rt1 r x y ∧ (P1 = P ∨ P1 = P + 1 ∧ r = P)
/-- a property of tables that the search keeps -/
def grC (X : Nat → (Nat → Nat) → (Nat → Nat) → (Nat → Nat) → Prop) : Prop := ∀ (P : Nat) (op lf rt : Nat → Nat) (P1 : Nat) (op1 lf1 rt1 : Nat → Nat) (x y r : Nat), RPo P op lf rt → RPo P1 op1 lf1 rt1 → x < P → y < P → adm P op lf rt x y → gr1 P op lf rt P1 op1 lf1 rt1 x y r → X P op lf rt → X P1 op1 lf1 rt1
def grS (P : Nat) (op lf rt : Nat → Nat) (P1 : Nat) (op1 lf1 rt1 : Nat → Nat) : Prop := ∀ X : Nat → (Nat → Nat) → (Nat → Nat) → (Nat → Nat) → Prop, grC X → X P op lf rt → X P1 op1 lf1 rt1
/-- one part taken to pieces -/
def lsS (P : Nat) (op lf rt : Nat → Nat) (Γ : Nat → Bool) (p : Nat) (Γ1 : Nat → Bool) : Prop :=
  (op p = 7 ∧ Γ1 = upB (upB (upB Γ p false) (lf p) true) (rt p) true) ∨
  (op p = 8 ∧ (Γ (lf p) = true ∨ Γ (rt p) = true) ∧ Γ1 = upB Γ p false) ∨
  (op p = 9 ∧ (Γ (lf p) = true ∨ Γ (rt p) = true) ∧ Γ1 = upB (upB Γ p false) (rt p) true) ∨
  (op p = 9 ∧ Γ (lf p) = false ∧ Γ (rt p) = false ∧ op (lf p) = 7 ∧ ∃ s r, s < P ∧ r < P ∧ impS op lf rt s (rt (lf p)) (rt p) ∧ impS op lf rt r (lf (lf p)) s ∧ Γ1 = upB (upB Γ p false) r true) ∨
  (op p = 9 ∧ Γ (lf p) = false ∧ Γ (rt p) = false ∧ op (lf p) = 8 ∧ ∃ s r, s < P ∧ r < P ∧ impS op lf rt s (lf (lf p)) (rt p) ∧ impS op lf rt r (rt (lf p)) (rt p) ∧ Γ1 = upB (upB (upB Γ p false) s true) r true)
section LOOS2
variable {b : Nat} {ia fi : Nat → Nat → Int32} {fl : Nat → Nat → Int64} {qa : Nat → Nat → Option Nat} {f : mmF} {op lf rt : Nat → Nat} {P : Nat} {Γ : Nat → Bool}
theorem impS.ex {P1 r x y : Nat} {op1 lf1 rt1 : Nat → Nat} (h : impS op lf rt r x y) (hr : r < P) (e : REx P op lf rt P1 op1 lf1 rt1) : impS op1 lf1 rt1 r x y := by
  obtain ⟨e1, e2, e3⟩ := e.2 r hr
  unfold impS at h ⊢
  rw [e1, e2, e3]
  exact h
theorem adm.ex {P1 x y : Nat} {op1 lf1 rt1 : Nat → Nat} (h : adm P op lf rt x y) (ho : RPo P op lf rt) (hy : y < P) (e : REx P op lf rt P1 op1 lf1 rt1) : adm P1 op1 lf1 rt1 x y := by
  obtain ⟨p, hp, h9, h⟩ := h
  have hl := (ho.to p hp).2 (by omega)
  obtain ⟨a1, a2, a3⟩ := e.2 p hp
  obtain ⟨b1, b2, b3⟩ := e.2 (lf p) (by omega)
  refine ⟨p, Nat.lt_of_lt_of_le hp e.1, a1.trans h9, ?_⟩
  rw [a2, a3, b1, b2, b3]
  rcases h with h | h | ⟨h1, h2, h3⟩
  · exact Or.inl h
  · exact Or.inr (Or.inl h)
  · exact Or.inr (Or.inr ⟨h1, h2, h3.ex hy e⟩)
theorem grS.rf : grS P op lf rt P op lf rt := fun _ _ h => h
theorem grS.tr {P1 P2 : Nat} {op1 lf1 rt1 op2 lf2 rt2 : Nat → Nat} (h : grS P op lf rt P1 op1 lf1 rt1) (h2 : grS P1 op1 lf1 rt1 P2 op2 lf2 rt2) : grS P op lf rt P2 op2 lf2 rt2 := fun X hX h0 => h2 X hX (h X hX h0)
theorem grS.one {P1 x y r : Nat} {op1 lf1 rt1 : Nat → Nat} (ho : RPo P op lf rt) (ho1 : RPo P1 op1 lf1 rt1) (hx : x < P) (hy : y < P) (ha : adm P op lf rt x y) (h : gr1 P op lf rt P1 op1 lf1 rt1 x y r) : grS P op lf rt P1 op1 lf1 rt1 := fun _ hX h0 => hX _ _ _ _ _ _ _ _ _ _ _ ho ho1 hx hy ha h h0
theorem grS.ex {P1 : Nat} {op1 lf1 rt1 : Nat → Nat} (h : grS P op lf rt P1 op1 lf1 rt1) : REx P op lf rt P1 op1 lf1 rt1 := h (fun P1 op1 lf1 rt1 => REx P op lf rt P1 op1 lf1 rt1) (fun _ _ _ _ _ _ _ _ _ _ _ _ _ _ _ _ g h0 => h0.tr g.1) REx.rf
theorem implies_u {x y : Nat} (h : RP b ia fi P op lf rt) (h2 : 2 ≤ P) (hP : P < 1000) (hx : x < P) (hy : y < P) : ∃ (ia1 fi1 : Nat → Nat → Int32) (P1 : Nat) (op1 lf1 rt1 : Nat → Nat) (r : Nat), f_X10_implies (b + 83) (nI x) (nI y) (wr (SK b) ia fi fl qa f) = some (nI r, wr (SK b) ia1 fi1 fl qa f) ∧ RP b ia1 fi1 P1 op1 lf1 rt1 ∧ gr1 P op lf rt P1 op1 lf1 rt1 x y r ∧ pE b ia fi ia1 fi1 := by
  have q : ∀ u v : Nat, u < 1000 → v < 1000 → (nI u = nI v) = (u = v) := fun u v hu hv => propext (nI_eq (by omega) (by omega))
  unfold f_X10_implies
  simp only [show (0 : Int32) = nI 0 from rfl, show (1 : Int32) = nI 1 from rfl, q x 0 (by omega) (by omega), q x y (by omega) (by omega), q y 0 (by omega) (by omega), q x 1 (by omega) (by omega), q y 1 (by omega) (by omega)]
  by_cases c1 : x = 0
  · rw [if_pos c1]
    exact ⟨ia, fi, P, op, lf, rt, y, rfl, h, ⟨REx.rf, hy, Or.inl ⟨c1, rfl⟩, Or.inl rfl⟩, pE.rf⟩
  rw [if_neg c1]
  by_cases c4 : x = 1
  · rw [if_pos c4]
    exact ⟨ia, fi, P, op, lf, rt, 0, rfl, h, ⟨REx.rf, by omega, Or.inr (Or.inl ⟨Or.inl c4, rfl⟩), Or.inl rfl⟩, pE.rf⟩
  rw [if_neg c4]
  by_cases c3 : y = 0
  · rw [if_pos c3]
    exact ⟨ia, fi, P, op, lf, rt, 0, rfl, h, ⟨REx.rf, by omega, Or.inr (Or.inl ⟨Or.inr (Or.inl c3), rfl⟩), Or.inl rfl⟩, pE.rf⟩
  rw [if_neg c3]
  by_cases c2 : x = y
  · rw [if_pos c2]
    exact ⟨ia, fi, P, op, lf, rt, 0, rfl, h, ⟨REx.rf, by omega, Or.inr (Or.inl ⟨Or.inr (Or.inr c2), rfl⟩), Or.inl rfl⟩, pE.rf⟩
  rw [if_neg c2]
  simp only [ck_83, Option.bind_some]
  obtain ⟨ia1, fi1, P1, op1, lf1, rt1, r, a1, a2, a3, a4, ⟨a5, a6, a7, a8⟩, a9, a10⟩ := part_t (fl := fl) (qa := qa) (f := f) h (show pOk P 9 x y from Or.inr (Or.inr ⟨h2, by omega, by omega, by omega, hx, by omega, hy, c2, fun e => rfl⟩)) hP
  refine ⟨ia1, fi1, P1, op1, lf1, rt1, r, ?_, a2, ⟨a3, a5, Or.inr (Or.inr ⟨c1, c4, c3, c2, a6, a7, a8⟩), a10⟩, a9⟩
  rw [show (9 : Int32) = nI 9 from rfl, a1]
  rfl
end LOOS2
