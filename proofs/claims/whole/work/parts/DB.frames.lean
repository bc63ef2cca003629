/-! THE REFERENCE'S SEARCH: a frame and what lies below it; a frame behind it begun -/
/-- frames before e stay as they are -/
def loE (b e : Nat) (ia fi ia1 fi1 : Nat → Nat → Int32) : Prop := (∀ a, a < b + 93 ∨ b + 100 < a → ia1 a = ia a) ∧ (∀ j, j < 32 * e → ia1 (b + 97) j = ia (b + 97) j) ∧ (∀ a j, b + 98 ≤ a → a ≤ b + 100 → j < e → ia1 a j = ia a j) ∧ ∀ a j, a ≠ b + 83 ∨ j ≠ 19 → fi1 a j = fi a j
/-- what a frame holds -/
def frS (b d : Nat) (ia fi : Nat → Nat → Int32) (P : Nat) (op lf rt : Nat → Nat) (Γ : Nat → Bool) (pg : Nat) : Prop := RP b ia fi P op lf rt ∧ 2 ≤ P ∧ gv b ia d Γ ∧ inP P Γ ∧ ia (b + 98) d = nI pg ∧ pg < P
section FRAMES
variable {b d : Nat} {ia fi : Nat → Nat → Int32} {fl : Nat → Nat → Int64} {qa : Nat → Nat → Option Nat} {f : mmF} {P : Nat} {op lf rt : Nat → Nat} {Γ : Nat → Bool} {pg : Nat}
theorem loE.rf {e : Nat} : loE b e ia fi ia fi := ⟨fun _ _ => rfl, fun _ _ => rfl, fun _ _ _ _ _ => rfl, fun _ _ _ => rfl⟩
theorem loE.tr {e : Nat} {ia1 fi1 ia2 fi2 : Nat → Nat → Int32} (h : loE b e ia fi ia1 fi1) (h2 : loE b e ia1 fi1 ia2 fi2) : loE b e ia fi ia2 fi2 := ⟨fun a ha => (h2.1 a ha).trans (h.1 a ha), fun j hj => (h2.2.1 j hj).trans (h.2.1 j hj), fun a j h3 h4 hj => (h2.2.2.1 a j h3 h4 hj).trans (h.2.2.1 a j h3 h4 hj), fun a j ha => (h2.2.2.2 a j ha).trans (h.2.2.2 a j ha)⟩
theorem loE.le {e e' : Nat} {ia1 fi1 : Nat → Nat → Int32} (h : loE b e ia fi ia1 fi1) (he : e' ≤ e) : loE b e' ia fi ia1 fi1 := ⟨h.1, fun j hj => h.2.1 j (by omega), fun a j h3 h4 hj => h.2.2.1 a j h3 h4 (by omega), h.2.2.2⟩
theorem pE.low {e : Nat} {ia1 fi1 : Nat → Nat → Int32} (h : pE b ia fi ia1 fi1) : loE b e ia fi ia1 fi1 := ⟨fun a ha => h.1 a (by omega), fun j _ => by rw [h.1 (b + 97) (by omega)], fun a j h3 h4 _ => by rw [h.1 a (by omega)], h.2⟩
theorem fE.low {ia1 fi1 : Nat → Nat → Int32} (h : fE b d ia fi ia1 fi1) : loE b d ia fi ia1 fi1 := ⟨fun a ha => h.1 a (by omega), fun j hj => h.2.2.1 j (by omega), fun a j h3 h4 hj => by
  by_cases e : a = b + 98
  · subst e; exact h.2.1 j (by omega)
  · rw [h.1 a (by omega)], h.2.2.2⟩
theorem leadR.low {x : Int32} {ia1 : Nat → Nat → Int32} (h : leadR b d x 0 ia ia1) : loE b (d + 1) ia fi ia1 fi := ⟨fun a ha => h.2.2.2.2 a (by omega) (by omega) (by omega), fun j hj => h.2.1 j (by omega), fun a j h3 h4 hj => by
  by_cases e : a = b + 98
  · subst e; exact (h.2.2.2.1 j (by omega)).1
  · by_cases e2 : a = b + 99
    · subst e2; exact (h.2.2.2.1 j (by omega)).2
    · rw [h.2.2.2.2 a (by omega) (by omega) (by omega)], fun _ _ _ => rfl⟩
theorem loE.w {e i : Nat} (x : Int32) (hi : 32 * e ≤ i) : loE b e ia fi (u2 ia (b + 97) i x) fi := ⟨fun a ha => u2_row _ _ (by omega), fun j hj => u2_i _ _ (by omega), fun a j h3 h4 _ => u2_a _ _ (by omega), fun _ _ _ => rfl⟩
/-- a store into the phase or the choice of frame d -/
theorem loE.s {a : Nat} (x : Int32) (ha : a = b + 99 ∨ a = b + 100) : loE b d ia fi (u2 ia a d x) fi := ⟨fun c hc => u2_row _ _ (by omega), fun j _ => u2_a _ _ (by omega), fun c j h3 h4 hj => by
  by_cases e : c = a
  · subst e; exact u2_i _ _ (by omega)
  · exact u2_a _ _ e, fun _ _ _ => rfl⟩
/-- frame d is as it was -/
theorem frS.lo {ia1 fi1 : Nat → Nat → Int32} {P1 : Nat} {op1 lf1 rt1 : Nat → Nat} (h : frS b d ia fi P op lf rt Γ pg) (h1 : RP b ia1 fi1 P1 op1 lf1 rt1) (h2 : REx P op lf rt P1 op1 lf1 rt1) (h3 : loE b (d + 1) ia fi ia1 fi1) : frS b d ia1 fi1 P1 op1 lf1 rt1 Γ pg := by
  obtain ⟨a1, a2, a3, a4, a5, a6⟩ := h
  refine ⟨h1, Nat.le_trans a2 h2.1, a3.cg (fun w hw => h3.2.1 _ (by omega)), a4.ex h2.1, ?_, Nat.lt_of_lt_of_le a6 h2.1⟩
  rw [h3.2.2.1 (b + 98) d (by omega) (by omega) (by omega)]
  exact a5
theorem frS.s {a : Nat} {x : Int32} (h : frS b d ia fi P op lf rt Γ pg) (ha : a = b + 99 ∨ a = b + 100) : frS b d (u2 ia a d x) fi P op lf rt Γ pg := by
  obtain ⟨a1, a2, a3, a4, a5, a6⟩ := h
  refine ⟨a1.fr (fun c h1 h2 => u2_row _ _ (by omega)), a2, a3.cg (fun w _ => u2_a _ _ (by omega)), a4, ?_, a6⟩
  rw [u2_a _ _ (by omega)]
  exact a5
/-- leadsOn -/
theorem lead_s {x : Nat} (h : frS b d ia fi P op lf rt Γ pg) (hd : d + 1 < 600) (hx : x < P) : ∃ ia1 : Nat → Nat → Int32, f_X10_leadsOn (b + 83) (nI d) (nI x) (wr (SK b) ia fi fl qa f) = some (wr (SK b) ia1 fi fl qa f) ∧ frS b (d + 1) ia1 fi P op lf rt Γ x ∧ loE b (d + 1) ia fi ia1 fi := by
  obtain ⟨a1, a2, a3, a4, a5, a6⟩ := h
  obtain ⟨ia1, e1, e2⟩ := leads_t (b := b) (ia := ia) (fi := fi) (fl := fl) (qa := qa) (f := f) (x := nI x) hd
  exact ⟨ia1, e1, ⟨e2.rp a1, a2, e2.nxt a3, a4, e2.2.2.1.1, hx⟩, e2.low⟩
theorem lose_s {p : Nat} (h : frS b (d + 1) ia fi P op lf rt Γ pg) (hd : d + 1 < 600) (hp : p < P) : ∃ ia1 : Nat → Nat → Int32, f_X10_loses (b + 83) (nI (d + 1)) (nI p) (wr (SK b) ia fi fl qa f) = some (wr (SK b) ia1 fi fl qa f) ∧ frS b (d + 1) ia1 fi P op lf rt (upB Γ p false) pg ∧ loE b (d + 1) ia fi ia1 fi := by
  obtain ⟨a1, a2, a3, a4, a5, a6⟩ := h
  have hP := a1.1
  obtain ⟨x, e, g⟩ := loses_g (fi := fi) (fl := fl) (qa := qa) (f := f) a3 hd (show p < 1024 by omega)
  refine ⟨_, e, ⟨a1.w, a2, g, a4.up hp, ?_, a6⟩, loE.w _ (by omega)⟩
  rw [u2_a _ _ (by omega)]; exact a5
theorem get_s {p : Nat} (h : frS b (d + 1) ia fi P op lf rt Γ pg) (hd : d + 1 < 600) (hp : p < P) : ∃ ia1 : Nat → Nat → Int32, f_X10_gets (b + 83) (nI (d + 1)) (nI p) (wr (SK b) ia fi fl qa f) = some (wr (SK b) ia1 fi fl qa f) ∧ frS b (d + 1) ia1 fi P op lf rt (upB Γ p true) pg ∧ loE b (d + 1) ia fi ia1 fi := by
  obtain ⟨a1, a2, a3, a4, a5, a6⟩ := h
  have hP := a1.1
  obtain ⟨x, e, g⟩ := gets_g (fi := fi) (fl := fl) (qa := qa) (f := f) a3 hd (show p < 1024 by omega)
  refine ⟨_, e, ⟨a1.w, a2, g, a4.up hp, ?_, a6⟩, loE.w _ (by omega)⟩
  rw [u2_a _ _ (by omega)]; exact a5
end FRAMES
