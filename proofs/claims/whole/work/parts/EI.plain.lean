/-! THE DEPTH: plain valuations; what refutes says of them -/
def vB (v : Nat) : Nat → Bool := fun k => v.testBit k
section PLAIN
variable {P : Nat} {op lf rt : Nat → Nat} {E v : Nat → Bool} {Γ : Nat → Bool} {g : Nat}
theorem t2_E (ho : RPo P op lf rt) (E' : Nat → Bool) : ∀ p, p < P → t2R E v op lf rt p = t2R E' v op lf rt p := by
  intro p
  induction p using Nat.strongRecOn with
  | _ p ih =>
    intro hp
    by_cases h6 : op p < 6
    · rw [(q2_l h6).1, (q2_l h6).1]
    · obtain ⟨o1, o2, o3, o4, o5, o6, o7, o8, o9⟩ := ho.two hp (by omega)
      obtain e | e | e : op p = 7 ∨ op p = 8 ∨ op p = 9 := by omega
      · rw [(q2_7 ho hp e).1, (q2_7 ho hp e).1, ih _ o5 (by omega), ih _ o7 (by omega)]
      · rw [(q2_8 ho hp e).1, (q2_8 ho hp e).1, ih _ o5 (by omega), ih _ o7 (by omega)]
      · rw [(q2_9 ho hp e).1, (q2_9 ho hp e).1, ih _ o5 (by omega), ih _ o7 (by omega)]
theorem t2_kT (ho : RPo P op lf rt) (m : Nat) : ∀ p, p < P → (t2R E (vB m) op lf rt p = true ↔ kT1 m op lf rt p) := by
  intro p
  induction p using Nat.strongRecOn with
  | _ p ih =>
    intro hp
    unfold kT1
    by_cases h6 : op p < 6
    · rw [(q2_l h6).1, kT_lf h6]
      by_cases h4 : op p < 4
      · rw [if_pos h4, if_pos h4]; exact Iff.rfl
      · rw [if_neg h4, if_neg h4]; exact decide_eq_true_iff
    · obtain ⟨o1, o2, o3, o4, o5, o6, o7, o8, o9⟩ := ho.two hp (by omega)
      have il := ih _ o5 (by omega)
      have ir := ih _ o7 (by omega)
      unfold kT1 at il ir
      obtain e | e | e : op p = 7 ∨ op p = 8 ∨ op p = 9 := by omega
      · rw [(q2_7 ho hp e).1, kT_7 ho.to hp e, Bool.and_eq_true, il, ir]
      · rw [(q2_8 ho hp e).1, kT_8 ho.to hp e, Bool.or_eq_true, il, ir]
      · rw [(q2_9 ho hp e).1, kT_9 ho.to hp e, Bool.or_eq_true, Bool.not_eq_true']
        constructor
        · intro h w' _ hx
          rcases h with h | h
          · rw [il.mpr hx] at h; cases h
          · exact ir.mp h
        · intro h
          by_cases c : t2R E (vB m) op lf rt (lf p) = true
          · exact Or.inr (ir.mpr (h () trivial (il.mp c)))
          · exact Or.inl (eq_false_of_ne_true c)
theorem tq_t2 (ho : RPo P op lf rt) {m : Nat} (hm : m < 16) : ∀ p, p < P → tQ op lf rt 0 m p = (t2R E (vB m) op lf rt p, t2R E (vB m) op lf rt p, t2R E (vB m) op lf rt p) := by
  intro p
  induction p using Nat.strongRecOn with
  | _ p ih =>
    intro hp
    by_cases h6 : op p < 6
    · unfold tQ
      rw [qv_lf h6, (q2_l h6).1]
      unfold b3Lf
      by_cases h4 : op p < 4
      · rw [if_pos h4, if_pos h4, show s1 0 = 0 from rfl, show s2 0 = 0 from rfl, vl0 m hm _ h4]
        rfl
      · rw [if_neg h4, if_neg h4]
        by_cases e4 : op p = 4
        · rw [if_pos e4, decide_eq_true e4]
        · rw [if_neg e4, decide_eq_false e4]
    · obtain ⟨o1, o2, o3, o4, o5, o6, o7, o8, o9⟩ := ho.two hp (by omega)
      have e : tQ op lf rt 0 m p = b3Bn (kC 0) (op p) (tQ op lf rt 0 m (lf p)) (tQ op lf rt 0 m (rt p)) := qv_op (by omega) o5 o7
      rw [e, ih _ o5 (by omega), ih _ o7 (by omega)]
      obtain e | e | e : op p = 7 ∨ op p = 8 ∨ op p = 9 := by omega
      · rw [(q2_7 ho hp e).1, e]; rfl
      · rw [(q2_8 ho hp e).1, e]; rfl
      · rw [(q2_9 ho hp e).1, e]
        generalize t2R E (vB m) op lf rt (lf p) = x
        generalize t2R E (vB m) op lf rt (rt p) = y
        cases x <;> cases y <;> rfl
/-- all that is given is true in a plain valuation -/
def pvW (op lf rt : Nat → Nat) (Γ : Nat → Bool) (m : Nat) : Prop := ∀ q, Γ q = true → t2R (vB m) (vB m) op lf rt q = true
/-- some plain valuation makes what is given true and the goal not -/
def dmd (op lf rt : Nat → Nat) (Γ : Nat → Bool) (g : Nat) : Prop := ∃ m, m < 16 ∧ pvW op lf rt Γ m ∧ t2R (vB m) (vB m) op lf rt g = false
theorem pvT_kT (ho : RPo P op lf rt) (hi : inP P Γ) (m : Nat) : pvW op lf rt Γ m ↔ ∀ q, q < P → Γ q = true → kT1 m op lf rt q :=
  ⟨fun h q hq hg => (t2_kT ho m q hq).mp (h q hg), fun h q hg => (t2_kT ho m q (hi q hg)).mpr (h q (hi q hg) hg)⟩
theorem setd_dmd (ho : RPo P op lf rt) (hi : inP P Γ) (hg : g < P) (h : setd P op lf rt Γ g) : ¬ dmd op lf rt Γ g := by
  rintro ⟨m, hm, h1, h2⟩
  refine h.2.2.2 ⟨0, by decide, 0, m, by decide, hm, fun p hp hpg => ?_, ?_⟩
  · rw [tq_t2 (E := vB m) ho hm p hp, h1 p hpg]; rfl
  · rw [tq_t2 (E := vB m) ho hm g hg, h2]; rfl
theorem setd_pl (ho : RPo P op lf rt) (hi : inP P Γ) (h : setd P op lf rt Γ g) : ∃ m, m < 16 ∧ pvW op lf rt Γ m := by
  obtain ⟨m, hm, h1⟩ := h.2.2.1
  refine ⟨m, hm, fun q hq => ?_⟩
  have := h1 q (hi q hq) hq
  rw [tq_t2 (E := vB m) ho hm q (hi q hq)] at this
  exact this
/-- at a settled frame the goal is true wherever all that is given is -/
theorem setd_g (ho : RPo P op lf rt) (hi : inP P Γ) (hg : g < P) (h : setd P op lf rt Γ g) {m : Nat} (hm : m < 16) (hp : pvW op lf rt Γ m) : t2R (vB m) (vB m) op lf rt g = true := by
  apply Classical.byContradiction
  intro c
  exact setd_dmd ho hi hg h ⟨m, hm, hp, eq_false_of_ne_true c⟩
/-- what can be given is true -/
theorem ok_pvT (ho : RPo P op lf rt) (hi : inP P Γ) {k m : Nat} (h : ∀ q, Γ q = true → okR (vB k) (vB m) op lf rt q = true) : pvW op lf rt Γ m := fun q hq => by
  rw [← t2_E (E := vB k) ho (vB m) q (hi q hq)]
  exact (oq_t ho q (hi q hq)).2 (h q hq)
end PLAIN
