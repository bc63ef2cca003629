/-- what 'sets' lays: the premises' parts are given, the claim's part is the goal -/
def setR (b : Nat) (ia fi : Nat → Nat → Int32) (K : Nat → Nat) (G : Nat → Nat → Nat) (W p : Nat) (P : Nat) (op lf rt : Nat → Nat) (pr : Nat → Nat) (pg : Nat) (Γ : Nat → Bool) : Prop := RP b ia fi P op lf rt ∧ 2 ≤ P ∧ P ≤ 182 ∧ gv b ia 0 Γ ∧ (∀ q, Γ q = true ↔ ∃ i, i < 5 ∧ W.testBit i = true ∧ pr i = q) ∧ (∀ i, i < 5 → W.testBit i = true → isPN P op lf rt (G i) (K i - 1) (pr i)) ∧ ia (b + 98) 0 = nI pg ∧ isPN P op lf rt (G p) (K p - 1) pg
section SETS
variable {b : Nat} {ia fi : Nat → Nat → Int32} {fl : Nat → Nat → Int64} {qa : Nat → Nat → Option Nat} {f : mmF} {Ω : mO}
theorem sets_27 {W p : Nat} (w : WO Ω) (hq : qOk Ω W p) : ∀ (m i q : Nat) (ia fi : Nat → Nat → Int32) (P : Nat) (op lf rt : Nat → Nat) (pr : Nat → Nat) (Γ : Nat → Bool), i + m = 5 → m < q → MSh (ia (b + 84)) Ω.1.2.2.2.1 Ω.1.2.2.2.2 → RP b ia fi P op lf rt → 2 ≤ P → P ≤ 2 + 30 * i → gv b ia 0 Γ → (∀ q, Γ q = true ↔ ∃ j, j < i ∧ W.testBit j = true ∧ pr j = q) → (∀ j, j < i → W.testBit j = true → isPN P op lf rt (Ω.1.2.2.2.2 j) (Ω.1.2.2.2.1 j - 1) (pr j)) → ∃ (ia1 fi1 : Nat → Nat → Int32) (P1 : Nat) (op1 lf1 rt1 : Nat → Nat) (pr1 : Nat → Nat) (pg : Nat) (Γ1 : Nat → Bool), f_X10_sets_27 q (b + 83) (nI W) (nI p) (nI i) (wr (SK b) ia fi fl qa f) = some (wr (SK b) ia1 fi1 fl qa f) ∧ setR b ia1 fi1 Ω.1.2.2.2.1 Ω.1.2.2.2.2 W p P1 op1 lf1 rt1 pr1 pg Γ1 ∧ hE b ia fi ia1 fi1 := by
  have hW := hq.1
  intro m
  induction m with
  | zero =>
    intro i q ia fi P op lf rt pr Γ hi hm hsh hr h2 hP hg hΓ hpn
    obtain ⟨q, rfl⟩ : ∃ k, q = k + 1 := ⟨q - 1, by omega⟩
    have h5 : i = 5 := by omega
    subst h5
    have k0 := hq.2.2.1
    have hv := w.1.2 p hq.2.1 k0
    have k30 := hv.2.1
    obtain ⟨ia1, fi1, P1, op1, lf1, rt1, r, a1, a2, a3, a4, a5, a6⟩ := partof_t (fl := fl) (qa := qa) (f := f) hq.2.1 hv (hsh p hq.2.1).1 (hsh p hq.2.1).2 hr h2 (by omega)
    have n1 : b + 97 ≠ b + 98 := by omega
    refine ⟨u2 ia1 (b + 98) 0 (nI r), fi1, P1, op1, lf1, rt1, pr, r, Γ, ?_, ⟨a2.cg (fun a h1 h2 => u2_row _ _ (by omega)), Nat.le_trans h2 a3.1, by omega, hg.cg (fun w hw => (u2_a _ _ n1).trans (by rw [a6.1 _ (by omega)])), hΓ, fun j hj hw => (hpn j hj hw).ex hr.2.2.1 a3, u2_s _ _ _ _, a5⟩, a6.h.tr (hE.u _ (by omega))⟩
    rw [f_X10_sets_27, if_pos (show (5 : Int32) ≤ nI 5 by decide)]
    simp only [R_83_21, ck_83, a1, Option.bind_some]
    rw [show (0 : Int32) = nI 0 from rfl, sAn_98 (by decide)]
    rfl
  | succ m ih =>
    intro i q ia fi P op lf rt pr Γ hi hm hsh hr h2 hP hg hΓ hpn
    obtain ⟨q, rfl⟩ : ∃ k, q = k + 1 := ⟨q - 1, by omega⟩
    have h5 : i < 5 := by omega
    rw [f_X10_sets_27, if_neg (show ¬ (5 : Int32) ≤ nI i from nI_ge (b := 5) h5 (by decide))]
    cases hb : W.testBit i with
    | false =>
      have e0 : ¬ ((nI W >>> (nI i &&& 31)) &&& (1 : Int32)) = (1 : Int32) := by
        rw [(bt_0 (Nat.lt_trans hW (by decide)) (by omega)).mpr hb]
        decide
      rw [if_neg e0]
      unfold f_X10_sets_51
      rw [nI_1]
      refine ih (i + 1) q ia fi P op lf rt pr Γ (by omega) (by omega) hsh hr h2 (by omega) hg (fun q => ?_) (fun j hj hw => ?_)
      · rw [hΓ q]
        constructor
        · rintro ⟨j, h1, h2⟩; exact ⟨j, by omega, h2⟩
        · rintro ⟨j, h1, h2, h3⟩
          by_cases e : j = i
          · subst e; rw [hb] at h2; cases h2
          · exact ⟨j, by omega, h2, h3⟩
      · by_cases e : j = i
        · subst e; rw [hb] at hw; cases hw
        · exact hpn j (by omega) hw
    | true =>
      have e1 : ((nI W >>> (nI i &&& 31)) &&& (1 : Int32)) = (1 : Int32) := by
        rw [bt_shr (Nat.lt_trans hW (by decide)) (by omega), bt_one _ (Nat.lt_trans (Nat.lt_of_le_of_lt (Nat.div_le_self _ _) hW) (by decide))]
        have h := Nat.testBit_eq_decide_div_mod_eq (x := W) (i := i)
        rw [hb] at h
        rw [of_decide_eq_true h.symm]
        rfl
      have k0 := (hq.2.2.2 i hb).2
      have hv := w.1.2 i h5 k0
      have k30 := hv.2.1
      obtain ⟨ia1, fi1, P1, op1, lf1, rt1, r, a1, a2, a3, a4, a5, a6⟩ := partof_t (fl := fl) (qa := qa) (f := f) h5 hv (hsh i h5).1 (hsh i h5).2 hr h2 (by omega)
      have hr1 : r < P1 := a5.1
      have hg1 : gv b ia1 0 Γ := hg.cg (fun w hw => by rw [a6.1 _ (by omega)])
      obtain ⟨x, g1, g2⟩ := gets_g (fi := fi1) (fl := fl) (qa := qa) (f := f) hg1 (by decide) (show r < 1024 by omega)
      rw [show nI 0 = (0 : Int32) from rfl] at g1
      rw [if_pos e1]
      simp only [ck_83, a1, g1, Option.bind_some]
      unfold f_X10_sets_51
      rw [nI_1]
      have hrow : u2 ia1 (b + 97) (32 * 0 + r / 32) x (b + 84) = ia (b + 84) := (u2_row _ _ (by omega)).trans (a6.1 _ (by omega))
      obtain ⟨ia2, fi2, P2, op2, lf2, rt2, pr2, pg, Γ2, z1, z2, z3⟩ := ih (i + 1) q (u2 ia1 (b + 97) (32 * 0 + r / 32) x) fi1 P1 op1 lf1 rt1 (upN pr i r) (upB Γ r true) (by omega) (by omega) (by rw [hrow]; exact hsh) (a2.cg (fun a h1 h2 => u2_row _ _ (by omega))) (Nat.le_trans h2 a3.1) (by omega) g2 (fun q => by
        unfold upB
        by_cases e : q = r
        · rw [if_pos e]
          exact ⟨fun _ => ⟨i, by omega, hb, by rw [upN_s]; exact e.symm⟩, fun _ => rfl⟩
        · rw [if_neg e, hΓ q]
          constructor
          · rintro ⟨j, h1, h2, h3⟩; exact ⟨j, by omega, h2, by rw [upN_n _ (by omega)]; exact h3⟩
          · rintro ⟨j, h1, h2, h3⟩
            by_cases ej : j = i
            · subst ej; rw [upN_s] at h3; exact absurd h3.symm e
            · rw [upN_n _ ej] at h3; exact ⟨j, by omega, h2, h3⟩) (fun j hj hw => by
        by_cases ej : j = i
        · subst ej; rw [upN_s]; exact a5
        · rw [upN_n _ ej]; exact (hpn j (by omega) hw).ex hr.2.2.1 a3)
      exact ⟨ia2, fi2, P2, op2, lf2, rt2, pr2, pg, Γ2, z1, z2, (a6.h.tr (hE.u x (by omega))).tr z3⟩
theorem pE.h {ia1 fi1 : Nat → Nat → Int32} (h : pE b ia fi ia1 fi1) : hE b ia fi ia1 fi1 := ⟨fun a ha => h.1 a (by omega), h.2⟩
theorem hE.pre {ia1 ia2 fi2 : Nat → Nat → Int32} (h : ∀ a, a ≠ b + 97 → ia1 a = ia a) (h2 : hE b ia1 fi ia2 fi2) : hE b ia fi ia2 fi2 := ⟨fun a ha => (h2.1 a ha).trans (h a (by omega)), h2.2⟩
theorem sets_6 {y z : Int32} : ∀ (m i q : Nat) (ia fi : Nat → Nat → Int32), i + m = 32 → m < q → (∀ j, j < i → ia (b + 97) j = nI 0) → ∃ ia1 : Nat → Nat → Int32, f_X10_sets_6 q (b + 83) y z (nI i) (wr (SK b) ia fi fl qa f) = f_X10_sets_27 FU (b + 83) y z 0 (wr (SK b) ia1 fi fl qa f) ∧ (∀ j, j < 32 → ia1 (b + 97) j = nI 0) ∧ ∀ a, a ≠ b + 97 → ia1 a = ia a := by
  intro m
  induction m with
  | zero =>
    intro i q ia fi hi hm h
    obtain ⟨q, rfl⟩ : ∃ k, q = k + 1 := ⟨q - 1, by omega⟩
    have e : i = 32 := by omega
    subst e
    refine ⟨ia, ?_, h, fun a _ => rfl⟩
    rw [f_X10_sets_6, if_pos (show (32 : Int32) ≤ nI 32 by decide)]
  | succ m ih =>
    intro i q ia fi hi hm h
    obtain ⟨q, rfl⟩ : ∃ k, q = k + 1 := ⟨q - 1, by omega⟩
    have h32 : i < 32 := by omega
    obtain ⟨ia1, z1, z2, z3⟩ := ih (i + 1) q (u2 ia (b + 97) i (nI 0)) fi (by omega) (by omega) (fun j hj => by
      by_cases e : j = i
      · subst e; exact u2_s _ _ _ _
      · rw [u2_i _ _ e]; exact h j (by omega))
    refine ⟨ia1, ?_, z2, fun a ha => (z3 a ha).trans (u2_row _ _ ha)⟩
    rw [f_X10_sets_6, if_neg (show ¬ (32 : Int32) ≤ nI i from nI_ge (b := 32) h32 (by decide))]
    simp only [R_83_20, Option.bind_some]
    rw [show (0 : Int32) = nI 0 from rfl, sAn_97 (by omega)]
    simp only [Option.bind_some, nI_1]
    exact z1
theorem sets_t {W p : Nat} (h : MR b ia fi Ω) (w : WO Ω) (hq : qOk Ω W p) : ∃ (ia1 fi1 : Nat → Nat → Int32) (P1 : Nat) (op1 lf1 rt1 : Nat → Nat) (pr1 : Nat → Nat) (pg : Nat) (Γ1 : Nat → Bool), f_X10_sets (b + 83) (nI W) (nI p) (wr (SK b) ia fi fl qa f) = some (wr (SK b) ia1 fi1 fl qa f) ∧ setR b ia1 fi1 Ω.1.2.2.2.1 Ω.1.2.2.2.2 W p P1 op1 lf1 rt1 pr1 pg Γ1 ∧ hE b ia fi ia1 fi1 := by
  obtain ⟨qf, hqf⟩ := FU_1000
  obtain ⟨ia1, fi1, op, lf, rt, a1, a2, a3⟩ := clears_t (b := b) (ia := ia) (fi := fi) (fl := fl) (qa := qa) (f := f)
  obtain ⟨ia2, b1, b2, b3⟩ := sets_6 (b := b) (fl := fl) (qa := qa) (f := f) (y := nI W) (z := nI p) 32 0 FU ia1 fi1 (by omega) (by omega) (fun j hj => absurd hj (Nat.not_lt_zero _))
  have hrow : ia2 (b + 84) = ia (b + 84) := (b3 _ (by omega)).trans (a3.1 _ (by omega))
  obtain ⟨ia3, fi3, P3, op3, lf3, rt3, pr3, pg, Γ3, z1, z2, z3⟩ := sets_27 (b := b) (fl := fl) (qa := qa) (f := f) w hq 5 0 FU ia2 fi1 2 op lf rt (fun _ => 0) (fun _ => false) (by omega) (by omega) (by rw [hrow]; exact h.1.2) (a2.cg (fun a h1 h2 => b3 a (by omega))) (Nat.le_refl _) (by omega) (fun w hw => ⟨0, by decide, by rw [show 32 * 0 + w = w by omega]; exact b2 w hw, fun j hj => Nat.zero_testBit _⟩) (fun q => ⟨fun h => (by cases h), fun ⟨j, h1, _⟩ => absurd h1 (Nat.not_lt_zero _)⟩) (fun j hj => absurd hj (Nat.not_lt_zero _))
  refine ⟨ia3, fi3, P3, op3, lf3, rt3, pr3, pg, Γ3, ?_, z2, a3.h.tr (hE.pre b3 z3)⟩
  unfold f_X10_sets
  simp only [ck_83, a1, Option.bind_some]
  exact b1.trans z1
end SETS
