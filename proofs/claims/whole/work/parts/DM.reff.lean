/-! THE REFERENCE TELLS WHAT FOLLOWS, given the table's and the depth's own properties -/
/-- a question set -/
def iniQ (Ω : mO) (W p : Nat) (P : Nat) (op lf rt : Nat → Nat) (pr : Nat → Nat) (pg : Nat) (Γ : Nat → Bool) : Prop := RPo P op lf rt ∧ 2 ≤ P ∧ P ≤ 182 ∧ (∀ q, Γ q = true ↔ ∃ i, i < 5 ∧ W.testBit i = true ∧ pr i = q) ∧ (∀ i, i < 5 → W.testBit i = true → isPN P op lf rt (Ω.1.2.2.2.2 i) (Ω.1.2.2.2.1 i - 1) (pr i)) ∧ isPN P op lf rt (Ω.1.2.2.2.2 p) (Ω.1.2.2.2.1 p - 1) pg ∧ allP P op lf rt (qnS Ω W p) ∧ ndA Ω W p P op lf rt
section REFF
variable {b : Nat} {f : mmF} {Ω : mO}
theorem iniQ.prv {W p P pg : Nat} {op lf rt pr : Nat → Nat} {Γ : Nat → Bool} (h : iniQ Ω W p P op lf rt pr pg Γ) : Prv P op lf rt Γ pg ↔ FolS Ω.1.2.2.2.1 Ω.1.2.2.2.2 W p := by
  obtain ⟨h1, h2, h3, h4, h5, h6, h7⟩ := h
  constructor
  · intro hp X R V w hk hw
    refine (kT_P hk h6 w).mp (hp X R V w hk fun q hq hΓ => ?_)
    obtain ⟨i, i1, i2, rfl⟩ := (h4 q).mp hΓ
    exact (kT_P hk (h5 i i1 i2) w).mpr (hw i i1 i2)
  · intro hf X R V w hk hw
    refine (kT_P hk h6 w).mpr (hf X R V w hk fun i i1 i2 => ?_)
    exact (kT_P hk (h5 i i1 i2) w).mp (hw (pr i) (h5 i i1 i2).1 ((h4 _).mpr ⟨i, i1, i2, rfl⟩))
theorem refF_of (w : WO Ω) (hI : ∀ W p, qOk Ω W p → ∃ (TI : Nat → (Nat → Nat) → (Nat → Nat) → (Nat → Nat) → Prop) (Dp : Nat → (Nat → Nat) → (Nat → Nat) → (Nat → Nat) → Nat → (Nat → Bool) → Nat → Prop), tOK TI ∧ dOK TI Dp ∧ ∀ (P : Nat) (op lf rt pr : Nat → Nat) (pg : Nat) (Γ : Nat → Bool), iniQ Ω W p P op lf rt pr pg Γ → TI P op lf rt ∧ Dp P op lf rt 0 Γ pg) : refF b f Ω := by
  intro W p hq ia fi fl qa h
  obtain ⟨TI, Dp, hT, hD, hini⟩ := hI W p hq
  obtain ⟨ia1, fi1, P1, op1, lf1, rt1, pr1, pg, Γ1, a1, ⟨b1, b2, b3, b4, b5, b6, b7, b8⟩, a3, a4, a5⟩ := sets_u (fl := fl) (qa := qa) (f := f) h w hq
  have hi : iniQ Ω W p P1 op1 lf1 rt1 pr1 pg Γ1 := ⟨b1.2.2.1, b2, b3, b5, b6, b8, a4, a5⟩
  obtain ⟨t1, t2⟩ := hini _ _ _ _ _ _ _ hi
  have hF : frS b 0 ia1 fi1 P1 op1 lf1 rt1 Γ1 pg := ⟨b1, b2, b4, fun q hq => by
    obtain ⟨i, i1, i2, rfl⟩ := (b5 q).mp hq
    exact (b6 i i1 i2).1, b7, b8.1⟩
  obtain ⟨r, ia2, fi2, c1, c2, c3⟩ := shown_t (fl := fl) (qa := qa) (f := f) hT hD hF t1 t2
  refine ⟨ia2, fi2, ?_, a3.tr c3⟩
  unfold f_X10_isFollowing
  simp only [ck_83, a1, c1, Option.bind_some]
  rw [hi.prv] at c2
  unfold foV rz
  rcases c2 with ⟨rfl, c2⟩ | ⟨rfl, c2⟩
  · rw [if_pos c2, if_pos (show (nI 1 : Int32) = 0 ∨ (nI 1 : Int32) = 1 from Or.inr rfl)]
    rfl
  · rw [if_neg c2, if_pos (show (nI 0 : Int32) = 0 ∨ (nI 0 : Int32) = 1 from Or.inl rfl)]
    rfl
end REFF
