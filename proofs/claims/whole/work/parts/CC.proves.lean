/-! THE CLASS PROVES -/
def lF (b j : Nat) (fi : Nat → Nat → Int32) (fl : Nat → Nat → Int64) (fi1 : Nat → Nat → Int32) (fl1 : Nat → Nat → Int64) : Prop := (∀ a i, a < lV b j ∨ b + 1061 ≤ a → fi1 a i = fi a i) ∧ ∀ c, c < lV b j → fl1 c = fl c
def pF (b j : Nat) (ia fi : Nat → Nat → Int32) (fl : Nat → Nat → Int64) (ia1 fi1 : Nat → Nat → Int32) (fl1 : Nat → Nat → Int64) : Prop := (∀ a, a ≠ b + 36 → a ≠ b + 167 → ia1 a = ia a) ∧ (∀ a i, a ≠ b + 34 → a ≠ b + 165 → (a < lV b j ∨ b + 1061 ≤ a) → fi1 a i = fi a i) ∧ ∀ c, b + 296 ≤ c → c < lV b j → fl1 c = fl c
def pvI (b : Nat) (ia fi : Nat → Nat → Int32) (fl : Nat → Nat → Int64) (qa : Nat → Nat → Option Nat) (S : Nat) (kd lf rt : Nat → Nat) : Prop := LX b ia fi S kd lf rt ∧ QF b qa ∧ MI b fi fl S kd lf rt ∧ PI b ia fi fl S kd lf rt
def pvP (b : Nat) (ia fi : Nat → Nat → Int32) (fl : Nat → Nat → Int64) (qa : Nat → Nat → Option Nat) (S : Nat) (kd lf rt : Nat → Nat) (j : Nat) : Prop := pvI b ia fi fl qa S kd lf rt ∧ SG b fi S kd lf rt j (sB fl (lA b j 1)) ∧ inS S (sB fl (lA b j 1)) ∧ sB fl (lA b j 1) 4 = true ∧ j + 1 ≤ cnS (sB fl (lA b j 1)) S
def pvV (b : Nat) (fl1 : Nat → Nat → Int64) (S : Nat) (kd lf rt : Nat → Nat) (j : Nat) (K : Nat → Bool) (g : Nat) (v : Int32) : Prop := (v = 1 ∧ Prv S kd lf rt K g) ∨ (v = 0 ∧ RSet S kd lf rt (sB fl1 (lA b j 4)) ∧ (∀ p, p < S → K p = true → sB fl1 (lA b j 4) p = true) ∧ sB fl1 (lA b j 4) g = false)
section PROVES
variable {b : Nat} {ia fi : Nat → Nat → Int32} {fl : Nat → Nat → Int64} {qa : Nat → Nat → Option Nat} {f : mmF} {S : Nat} {kd lf rt : Nat → Nat}
theorem lF.rf {j : Nat} : lF b j fi fl fi fl := ⟨fun _ _ _ => rfl, fun _ _ => rfl⟩
theorem lF.tr {j : Nat} {fi1 fi2 : Nat → Nat → Int32} {fl1 fl2 : Nat → Nat → Int64} (h : lF b j fi fl fi1 fl1) (h2 : lF b j fi1 fl1 fi2 fl2) : lF b j fi fl fi2 fl2 := ⟨fun a i ha => (h2.1 a i ha).trans (h.1 a i ha), fun c hc => (h2.2 c hc).trans (h.2 c hc)⟩
theorem lF.mono {j k : Nat} {fi1 : Nat → Nat → Int32} {fl1 : Nat → Nat → Int64} (h : lF b k fi fl fi1 fl1) (e : j ≤ k) : lF b j fi fl fi1 fl1 := ⟨fun a i ha => h.1 a i (by unfold lV at *; omega), fun c hc => h.2 c (by unfold lV at *; omega)⟩
theorem pF.rf {j : Nat} : pF b j ia fi fl ia fi fl := ⟨fun _ _ _ => rfl, fun _ _ _ _ _ => rfl, fun _ _ _ => rfl⟩
theorem pF.tr {j : Nat} {ia1 fi1 ia2 fi2 : Nat → Nat → Int32} {fl1 fl2 : Nat → Nat → Int64} (h : pF b j ia fi fl ia1 fi1 fl1) (h2 : pF b j ia1 fi1 fl1 ia2 fi2 fl2) : pF b j ia fi fl ia2 fi2 fl2 := ⟨fun a h1 h3 => (h2.1 a h1 h3).trans (h.1 a h1 h3), fun a i h1 h3 h4 => (h2.2.1 a i h1 h3 h4).trans (h.2.1 a i h1 h3 h4), fun c h1 h3 => (h2.2.2 c h1 h3).trans (h.2.2 c h1 h3)⟩
theorem pF.mono {j k : Nat} {ia1 fi1 : Nat → Nat → Int32} {fl1 : Nat → Nat → Int64} (h : pF b k ia fi fl ia1 fi1 fl1) (e : j ≤ k) : pF b j ia fi fl ia1 fi1 fl1 := ⟨h.1, fun a i h1 h3 h4 => h.2.1 a i h1 h3 (by unfold lV at *; omega), fun c h1 h3 => h.2.2 c h1 (by unfold lV at *; omega)⟩
theorem lF.p {j : Nat} {fi1 : Nat → Nat → Int32} {fl1 : Nat → Nat → Int64} (h : lF b j fi fl fi1 fl1) : pF b j ia fi fl ia fi1 fl1 := ⟨fun _ _ _ => rfl, fun a i _ _ h4 => h.1 a i h4, fun c _ hc => h.2 c hc⟩
theorem sE1.lF {j k i : Nat} {fl1 : Nat → Nat → Int64} {Γ : Nat → Bool} (h : sE1 fl fl1 (lA b k i) Γ) (e : j ≤ k) : lF b j fi fl fi fl1 := ⟨fun _ _ _ => rfl, fun c hc => h.1 c (by unfold lV at hc; unfold lA; omega)⟩
theorem eK.lF {j k : Nat} {fi1 : Nat → Nat → Int32} {fl1 : Nat → Nat → Int64} {K : Nat → Bool} (h : eK b fi fi1 fl fl1 k K) (e : j ≤ k) (hk : k < 153) : lF b j fi fl fi1 fl1 := ⟨fun a i ha => h.2 a i (Or.inl (by unfold lV at *; omega)), fun c hc => h.1.1 c (by unfold lV at hc; unfold lA; omega)⟩
theorem lF.I {j : Nat} {fi1 : Nat → Nat → Int32} {fl1 : Nat → Nat → Int64} (h : lF b j fi fl fi1 fl1) (hi : pvI b ia fi fl qa S kd lf rt) : pvI b ia fi1 fl1 qa S kd lf rt := by
  obtain ⟨h1, h2, ⟨n, x, m1, m2, m3, m4, m5⟩, ⟨n', x', p1, p2, p3, p4, p5⟩⟩ := hi
  have e : ∀ a, a ≤ b + 295 → fl1 a = fl a ∧ fi1 a = fi a := fun a ha => ⟨h.2 a (by unfold lV; omega), funext fun i => h.1 a i (Or.inl (by unfold lV; omega))⟩
  have es : ∀ a, a ≤ b + 295 → sB fl1 a = sB fl a := fun a ha => by funext q; unfold sB; rw [(e a ha).1]
  refine ⟨h1.cg (fun _ _ _ => rfl) (e _ (by omega)).2, h2, ⟨n, x, m1, m2, by rw [(e (b + 34) (by omega)).2]; exact m3, by rw [(e (b + 34) (by omega)).2]; exact m4, fun i hi => by show RSet S kd lf rt (sB fl1 (b + (37 + i))); rw [es (b + (37 + i)) (by omega)]; exact m5 i hi⟩, ⟨n', x', p1, p2, by rw [(e (b + 165) (by omega)).2]; exact p3, by rw [(e (b + 165) (by omega)).2]; exact p4, fun i hi => by show ∃ g, g < S ∧ ia (b + 167) i = nI g ∧ Prv S kd lf rt (sB fl1 (b + (168 + i))) g ∧ inS S (sB fl1 (b + (168 + i))); rw [es (b + (168 + i)) (by omega)]; exact p5 i hi⟩⟩
theorem sB_c {fl1 : Nat → Nat → Int64} {a : Nat} (h : fl1 a = fl a) : sB fl1 a = sB fl a := by funext q; unfold sB; rw [h]
theorem pF.lv {j i : Nat} {ia1 fi1 : Nat → Nat → Int32} {fl1 : Nat → Nat → Int64} (h : pF b (j + 1) ia fi fl ia1 fi1 fl1) (hi : i ≤ 4) : sB fl1 (lA b j i) = sB fl (lA b j i) := sB_c (h.2.2 _ (by unfold lA; omega) (by unfold lA lV; omega))
theorem pF.sg {j : Nat} {ia1 fi1 : Nat → Nat → Int32} {fl1 : Nat → Nat → Int64} (h : pF b (j + 1) ia fi fl ia1 fi1 fl1) : fi1 (lV b j) 4 = fi (lV b j) 4 := h.2.1 _ _ (by unfold lV; omega) (by unfold lV; omega) (Or.inl (by unfold lV; omega))
/-- the state of the loop -/
def lpS (b j S : Nat) (kd lf rt : Nat → Nat) (K1 : Nat → Bool) (g : Nat) (t : Int32) (fl : Nat → Nat → Int64) (M : Nat) : Prop := (∀ p, p < S → K1 p = true → sB fl (lA b j 1) p = true) ∧ (Prv S kd lf rt (sB fl (lA b j 1)) g → Prv S kd lf rt K1 g) ∧ (∀ p, p < S → sB fl (lA b j 2) p = K1 p) ∧ inS S (sB fl (lA b j 2)) ∧ (∀ p, 6 ≤ p → p < S → stS kd lf rt (sB fl (lA b j 1)) p) ∧ ((t = -1 ∧ (sB fl (lA b j 1) 5 = true ∨ sB fl (lA b j 1) g = true)) ∨ (200 * (S - cnS (sB fl (lA b j 1)) S) ≤ M ∧ ∃ p, t = nI p ∧ 6 ≤ p ∧ p < S ∧ kd p = 8 ∧ sB fl (lA b j 1) p = true ∧ sB fl (lA b j 1) (lf p) = false ∧ sB fl (lA b j 1) (rt p) = false) ∨ ∃ (Fam : (Nat → Bool) → Prop) (D0 : Nat → Bool), (∀ T, Fam T → RSet S kd lf rt T ∧ ∀ p, p < S → sB fl (lA b j 1) p = true → T p = true) ∧ setl S kd lf rt (sB fl (lA b j 1)) D0 g ∧ (∀ p, p < S → (sB fl (lA b j 4) p = true ↔ ∀ T, Fam T → T p = true)) ∧ (∀ p, 6 ≤ p → p < S → D0 p = true → (kd p = 9 ∨ kd p = 6) → sB fl (lA b j 1) p = false → sB fl (lA b j 1) (lf p) = false → sB fl (lA b j 3) p = true ∨ ∃ T, Fam T ∧ T p = false) ∧ 200 * (S - cnS (sB fl (lA b j 1)) S) + cnS (sB fl (lA b j 3)) S ≤ M ∧ ((∃ p, t = nI p ∧ 6 ≤ p ∧ p < S ∧ triB kd lf (sB fl (lA b j 1)) (sB fl (lA b j 3)) p) ∨ (t = -2 ∧ ∀ p, 6 ≤ p → p < S → ¬ triB kd lf (sB fl (lA b j 1)) (sB fl (lA b j 3)) p)))
/-- what the first trial tells, as the loop's state -/
theorem ftR.ls {j g : Nat} {t : Int32} {K1 : Nat → Bool} (hS : S ≤ 151) (h : ftR b j S kd lf rt g t fl) (h1 : ∀ p, p < S → K1 p = true → sB fl (lA b j 1) p = true) (h2 : Prv S kd lf rt (sB fl (lA b j 1)) g → Prv S kd lf rt K1 g) (h3 : ∀ p, p < S → sB fl (lA b j 2) p = K1 p) (h4 : inS S (sB fl (lA b j 2))) (h5 : ∀ p, 6 ≤ p → p < S → stS kd lf rt (sB fl (lA b j 1)) p) : lpS b j S kd lf rt K1 g t fl (200 * (S - cnS (sB fl (lA b j 1)) S) + 151) := by
  refine ⟨h1, h2, h3, h4, h5, ?_⟩
  rcases h with h | h | ⟨a1, a2, a3⟩
  · exact Or.inl h
  · exact Or.inr (Or.inl ⟨by omega, h⟩)
  · refine Or.inr (Or.inr ⟨fun _ => False, _, fun T hT => hT.elim, a1, fun p hp => ⟨fun _ T hT => hT.elim, fun _ => a2 p (by omega)⟩, fun p h6 hp hD _ _ _ => Or.inl ?_, ?_, a3⟩)
    · have : (sB fl (lA b j 3) p || decide (192 ≤ p)) = true := hD
      rw [decide_eq_false (by omega), Bool.or_false] at this
      exact this
    · have := cnS_le (sB fl (lA b j 3)) S
      omega
/-- findings, when one was added -/
theorem MI_add {ia1 fi1 : Nat → Nat → Int32} {fl1 : Nat → Nat → Int64} {n0 n1 y : Nat} (hM : ∀ i, i < n0 → RSet S kd lf rt (sB fl (b + (37 + i)))) (hT : RSet S kd lf rt (sB fl1 (b + (37 + y)))) (h1 : n1 ≤ 128) (h2 : y + 1 ≤ n1) (h3 : fi1 (b + 34) 0 = nI n1) (h4 : fi1 (b + 34) 3 = nI (y + 1)) (h5 : ∀ i, i < n1 → i ≠ y → i < n0) (h6 : ∀ i, i < 128 → i ≠ y → fl1 (b + (37 + i)) = fl (b + (37 + i))) : MI b fi1 fl1 S kd lf rt := ⟨n1, y + 1, h1, h2, h3, h4, fun i hi => by
  by_cases e : i = y
  · subst e; exact hT
  · show RSet S kd lf rt (sB fl1 (b + (37 + i)))
    rw [sB_c (h6 i (by omega) e)]; exact hM i (h5 i hi e)⟩
theorem PI_add {ia1 fi1 : Nat → Nat → Int32} {fl1 : Nat → Nat → Int64} {n0 n1 y g : Nat} (hg : g < S) (hM : ∀ i, i < n0 → ∃ g, g < S ∧ ia (b + 167) i = nI g ∧ Prv S kd lf rt (sB fl (b + (168 + i))) g ∧ inS S (sB fl (b + (168 + i)))) (hT : Prv S kd lf rt (sB fl1 (b + (168 + y))) g) (hI : inS S (sB fl1 (b + (168 + y)))) (h1 : n1 ≤ 128) (h2 : y + 1 ≤ n1) (h3 : fi1 (b + 165) 0 = nI n1) (h4 : fi1 (b + 165) 3 = nI (y + 1)) (h5 : ∀ i, i < n1 → i ≠ y → i < n0) (h6 : ∀ i, i < 128 → i ≠ y → fl1 (b + (168 + i)) = fl (b + (168 + i))) (h7 : ia1 (b + 167) y = nI g) (h8 : ∀ i, i ≠ y → ia1 (b + 167) i = ia (b + 167) i) : PI b ia1 fi1 fl1 S kd lf rt := ⟨n1, y + 1, h1, h2, h3, h4, fun i hi => by
  by_cases e : i = y
  · subst e; exact ⟨g, hg, h7, hT, hI⟩
  · show ∃ g, g < S ∧ ia1 (b + 167) i = nI g ∧ Prv S kd lf rt (sB fl1 (b + (168 + i))) g ∧ inS S (sB fl1 (b + (168 + i)))
    rw [sB_c (h6 i (by omega) e), h8 i e]; exact hM i (h5 i hi e)⟩
end PROVES
