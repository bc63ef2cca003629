/-! put -/
section PUT
variable {b sz : Nat} {ia fi : Nat → Nat → Int32} {fl : Nat → Nat → Int64} {qa : Nat → Nat → Option Nat} {f : mmF} {Ω : mO}
theorem M_rec3 (h : MR b ia fi Ω) (w : WO Ω) : ∃ (ia1 fi1 : Nat → Nat → Int32), f_X10_record (b + 83) (wr (SK b) ia fi fl qa f) = some (wr (SK b) ia1 fi1 fl qa f) ∧ MR b ia1 fi1 (recO Ω) ∧ lowE b ia fi ia1 fi1 ∧ (∀ a : Nat, b + 86 ≤ a → ia1 a = ia a) ∧ ∀ j : Nat, j ≠ 2 → fi1 (b + 83) j = fi (b + 83) j := by
  obtain ⟨h1, h2, h3, ⟨h4, h4b⟩, h5, h6⟩ := h
  have hr4 := w.2.1
  by_cases hr : Ω.2.1 = 4
  · have hk : fi (b + 83) 2 = nI 4 := by rw [h3, hr]
    refine ⟨_, _, m_rec_4 hk, ⟨?_, fun q hq => ?_, ?_, ⟨?_, fun τ hτ => ?_⟩, ?_, fun i hi => ?_⟩, fun a ha => ⟨?_, ?_⟩, fun a ha => rw2_n _ _ (by omega), fun j hj => u2_i _ _ hj⟩
    · rw [rw2_n _ _ (by omega)]; exact h1
    · have hq4 : q < 4 := by
        have : q < (if Ω.2.1 = 4 then 4 else Ω.2.1 + 1) := hq
        rw [if_pos hr] at this
        exact this
      rw [rw2_s]
      show MSt _ ((if Ω.2.1 = 4 then (fun q => if q = 3 then Ω.1 else Ω.2.2.1 (q + 1)) else fun q => if q = Ω.2.1 then Ω.1 else Ω.2.2.1 q) q)
      rw [if_pos hr]
      by_cases h3q : q = 3
      · subst h3q
        simp only [if_pos]
        refine h1.copy w.1 (fun j hj => ?_)
        rw [if_neg (by omega), if_pos (by omega), show 172 * 3 + j - 516 = j by omega]
      · simp only [if_neg h3q]
        refine (h2 (q + 1) (by omega)).copy (w.2.2.1 (q + 1) (by omega)) (fun j hj => ?_)
        rw [if_pos (by omega)]
        congr 1
        omega
    · show u2 fi (b + 83) 2 (nI 4) (b + 83) 2 = nI (if Ω.2.1 = 4 then 4 else Ω.2.1 + 1)
      rw [if_pos hr, u2_s]
    · rw [u2_i _ _ (by omega)]; exact h4
    · rw [rw2_n _ _ (by omega)]; exact h4b τ hτ
    · rw [u2_i _ _ (by omega)]; exact h5
    · rw [rw2_n _ _ (by omega)]; exact h6 i hi
    · exact rw2_n _ _ (by omega)
    · funext j; exact u2_a _ _ (by omega)
  · have hlt : Ω.2.1 < 4 := by omega
    refine ⟨_, _, m_rec_lt h3 hlt, ⟨?_, fun q hq => ?_, ?_, ⟨?_, fun τ hτ => ?_⟩, ?_, fun i hi => ?_⟩, fun a ha => ⟨?_, ?_⟩, fun a ha => rw2_n _ _ (by omega), fun j hj => u2_i _ _ hj⟩
    · rw [rw2_n _ _ (by omega)]; exact h1
    · have hq4 : q < Ω.2.1 + 1 := by
        have : q < (if Ω.2.1 = 4 then 4 else Ω.2.1 + 1) := hq
        rw [if_neg hr] at this
        exact this
      rw [rw2_s]
      show MSt _ ((if Ω.2.1 = 4 then (fun q => if q = 3 then Ω.1 else Ω.2.2.1 (q + 1)) else fun q => if q = Ω.2.1 then Ω.1 else Ω.2.2.1 q) q)
      rw [if_neg hr]
      by_cases h3q : q = Ω.2.1
      · simp only [if_pos h3q]
        refine h1.copy w.1 (fun j hj => ?_)
        subst h3q
        rw [if_pos (by omega)]
        congr 1
        omega
      · simp only [if_neg h3q]
        refine (h2 q (by omega)).copy (w.2.2.1 q (by omega)) (fun j hj => ?_)
        rw [if_neg (by omega)]
    · show u2 fi (b + 83) 2 (nI (Ω.2.1 + 1)) (b + 83) 2 = nI (if Ω.2.1 = 4 then 4 else Ω.2.1 + 1)
      rw [if_neg hr, u2_s]
    · rw [u2_i _ _ (by omega)]; exact h4
    · rw [rw2_n _ _ (by omega)]; exact h4b τ hτ
    · rw [u2_i _ _ (by omega)]; exact h5
    · rw [rw2_n _ _ (by omega)]; exact h6 i hi
    · exact rw2_n _ _ (by omega)
    · funext j; exact u2_a _ _ (by omega)
/-- the same claim -/
def Sm (K : Nat → Nat) (G : Nat → Nat → Nat) (p k : Nat) (g : Nat → Nat) : Prop := K p = k ∧ ∀ j, j < k → G p j = g j
theorem c_same_15 {c1 c2 k : Nat} {g1 g2 : Nat → Nat} (h1 : ClA b f c1 k g1) (h2 : ClA b f c2 k g2) (hk : k < 2 ^ 31) (hg : ∀ j, j < k → g1 j < 2 ^ 31 ∧ g2 j < 2 ^ 31) : ∀ (m i q : Nat), i + m = k → m < q → (∀ j, j < i → g2 j = g1 j) → ∃ r : Int32, f_X0_isSameAs_15 (wr (SK b) ia fi fl qa f) q c1 c2 (nI i) = some r ∧ ((r = 1 ∧ ∀ j, j < k → g2 j = g1 j) ∨ (r = 0 ∧ ¬ ∀ j, j < k → g2 j = g1 j)) := by
  obtain ⟨s1, hR1, hA1⟩ := cl_R h1
  obtain ⟨s2, hR2, hA2⟩ := cl_R h2
  intro m
  induction m with
  | zero =>
    intro i q hi hq hu
    obtain ⟨q, rfl⟩ : ∃ k, q = k + 1 := ⟨q - 1, by omega⟩
    have hik : i = k := by omega
    subst hik
    refine ⟨1, ?_, Or.inl ⟨rfl, hu⟩⟩
    rw [f_X0_isSameAs_15]
    simp only [cl_I h1, Option.bind_some]
    rw [if_pos (Int32.le_refl _)]
  | succ m ih =>
    intro i q hi hq hu
    obtain ⟨q, rfl⟩ : ∃ k, q = k + 1 := ⟨q - 1, by omega⟩
    have hik : i < k := by omega
    have q1 : (nI (g1 i) = nI (g2 i)) = (g1 i = g2 i) := propext (nI_eq (hg i hik).1 (hg i hik).2)
    rw [f_X0_isSameAs_15]
    simp only [cl_I h1, Option.bind_some, if_neg (show ¬ nI k ≤ nI i from nI_ge hik hk), hR1, hR2, hA1 _ _ _ _ i hik (by omega), hA2 _ _ _ _ i hik (by omega)]
    by_cases e : g1 i = g2 i
    · rw [if_pos (q1.mpr e), nI_1]
      exact ih (i + 1) q (by omega) (by omega) (fun j hj => by
        by_cases hji : j = i
        · subst hji; exact e.symm
        · exact hu j (by omega))
    · rw [if_neg (fun h => e (q1.mp h))]
      exact ⟨0, rfl, Or.inr ⟨rfl, fun h => e (h i hik).symm⟩⟩
theorem c_same {c1 c2 k : Nat} {g : Nat → Nat} {K : Nat → Nat} {G : Nat → Nat → Nat} {p : Nat} (h1 : ClA b f c1 k g) (h2 : ClA b f c2 (K p) (G p)) (hk : k < 2 ^ 31) (hk2 : K p < 2 ^ 31) (hg : ∀ j, j < k → g j < 2 ^ 31) (hg2 : ∀ j, j < K p → G p j < 2 ^ 31) : ∃ r : Int32, f_X0_isSameAs c1 c2 (wr (SK b) ia fi fl qa f) = some r ∧ ((r = 1 ∧ Sm K G p k g) ∨ (r = 0 ∧ ¬ Sm K G p k g)) := by
  obtain ⟨q, hq⟩ := FU_1000
  have q1 : (nI k = nI (K p)) = (k = K p) := propext (nI_eq hk hk2)
  unfold f_X0_isSameAs
  simp only [cl_I h1, cl_I h2, Option.bind_some]
  by_cases e : k = K p
  · rw [if_pos (q1.mpr e)]
    have h2' : ClA b f c2 k (G p) := e ▸ h2
    by_cases hbig : k < FU
    · obtain ⟨r, hr, hr2⟩ := c_same_15 (ia := ia) (fi := fi) (fl := fl) (qa := qa) h1 h2' hk (fun j hj => ⟨hg j hj, hg2 j (by omega)⟩) k 0 FU (by omega) hbig (fun j hj => absurd hj (Nat.not_lt_zero _))
      refine ⟨r, hr, ?_⟩
      rcases hr2 with ⟨x, y⟩ | ⟨x, y⟩
      · exact Or.inl ⟨x, e.symm, y⟩
      · exact Or.inr ⟨x, fun h => y h.2⟩
    · exfalso
      have h31 : (2 : Nat) ^ 31 ≤ FU := Nat.le_trans (Nat.pow_le_pow_right (by decide) (by decide)) FU_ge
      omega
  · rw [if_neg (fun h => e (q1.mp h))]
    exact ⟨0, rfl, Or.inr ⟨rfl, fun h => e h.1.symm⟩⟩
theorem rz_1 : rz 1 = some 1 := by decide
theorem rz_0 : rz 0 = some 0 := by decide
theorem m_same_30 {p k : Nat} {g g2 : Nat → Nat} (hp : p < 5) (hk : k ≤ 30) (hl : fi (b + 83) 11 = nI k) (hs : ∀ j, j < k → ia (b + 90) j = nI (g j)) (hrow : ∀ j, j < k → ia (b + 84) (17 + 31 * p + (1 + j)) = nI (g2 j)) (hg : ∀ j, j < k → g j < 2 ^ 31 ∧ g2 j < 2 ^ 31) : ∀ (m i q : Nat), i + m = k → m < q → (∀ j, j < i → g2 j = g j) → ∃ r : Int32, f_X10_isSame_30 (wr (SK b) ia fi fl qa f) q (b + 83) (nI (17 + 31 * p)) 1 (nI i) = some r ∧ ((r = 1 ∧ ∀ j, j < k → g2 j = g j) ∨ (r = 0 ∧ ¬ ∀ j, j < k → g2 j = g j)) := by
  intro m
  induction m with
  | zero =>
    intro i q hi hq hu
    obtain ⟨q, rfl⟩ : ∃ k, q = k + 1 := ⟨q - 1, by omega⟩
    have hik : i = k := by omega
    subst hik
    refine ⟨1, ?_, Or.inl ⟨rfl, hu⟩⟩
    rw [f_X10_isSame_30]
    simp only [I_83_11, Option.bind_some, hl]
    rw [if_pos (Int32.le_refl _), rz_1]
    rfl
  | succ m ih =>
    intro i q hi hq hu
    obtain ⟨q, rfl⟩ : ∃ k, q = k + 1 := ⟨q - 1, by omega⟩
    have hik : i < k := by omega
    have hat : nI (17 + 31 * p + 1) + nI i = nI (17 + 31 * p + (1 + i)) := by rw [nI_add]; congr 1; omega
    have q1 : (nI (g2 i) = nI (g i)) = (g2 i = g i) := propext (nI_eq (hg i hik).2 (hg i hik).1)
    rw [f_X10_isSame_30]
    simp only [I_83_11, Option.bind_some, hl, if_neg (show ¬ nI k ≤ nI i from nI_ge hik (by omega)), i10, if_false, R_83_0, R_83_10, nI_1, hat, An_84 (show 17 + 31 * p + (1 + i) < 172 by omega), An_90 (show i < 31 by omega), hrow i hik, hs i hik]
    unfold f_X10_isSame_69
    rw [nI_1]
    by_cases e : g2 i = g i
    · rw [if_pos (q1.mpr e)]
      exact ih (i + 1) q (by omega) (by omega) (fun j hj => by
        by_cases hji : j = i
        · subst hji; exact e
        · exact hu j (by omega))
    · rw [if_neg (fun h => e (q1.mp h))]
      obtain ⟨q, rfl⟩ : ∃ k, q = k + 1 := ⟨q - 1, by omega⟩
      refine ⟨0, ?_, Or.inr ⟨rfl, fun h => e (h i hik)⟩⟩
      show f_X10_isSame_30 (wr (SK b) ia fi fl qa f) (q + 1) (b + 83) (nI (17 + 31 * p)) 0 (nI (i + 1)) = some 0
      rw [f_X10_isSame_30]
      simp only [I_83_11, Option.bind_some, hl, i00, if_true, rz_0, ite_self]
theorem m_same {K : Nat → Nat} {G : Nat → Nat → Nat} {p k : Nat} {g : Nat → Nat} (hm : MSh (ia (b + 84)) K G) (hp : p < 5) (hk : k ≤ 30) (hK : K p ≤ 30) (hl : fi (b + 83) 11 = nI k) (hs : ∀ j, j < k → ia (b + 90) j = nI (g j)) (hg : ∀ j, j < k → g j < 2 ^ 31) (hg2 : ∀ j, j < K p → G p j < 2 ^ 31) : ∃ r : Int32, f_X10_isSame (b + 83) (nI p) (wr (SK b) ia fi fl qa f) = some r ∧ ((r = 1 ∧ Sm K G p k g) ∨ (r = 0 ∧ ¬ Sm K G p k g)) := by
  obtain ⟨q, hq⟩ := FU_1000
  have q1 : (nI (K p) = nI k) = (K p = k) := propext (nI_eq (by omega) (by omega))
  unfold f_X10_isSame
  simp only [R_83_0, at17, An_84 (show 17 + 31 * p < 172 by omega), (hm p hp).1, I_83_11, hl, Option.bind_some]
  by_cases e : K p = k
  · rw [if_pos (q1.mpr e)]
    obtain ⟨r, hr, hr2⟩ := m_same_30 (fl := fl) (qa := qa) (f := f) hp hk hl hs (fun j hj => (hm p hp).2 j (by omega)) (fun j hj => ⟨hg j hj, hg2 j (by omega)⟩) k 0 FU (by omega) (by omega) (fun j hj => absurd hj (Nat.not_lt_zero _))
    refine ⟨r, hr, ?_⟩
    rcases hr2 with ⟨x, y⟩ | ⟨x, y⟩
    · exact Or.inl ⟨x, e, y⟩
    · exact Or.inr ⟨x, fun h => y h.2⟩
  · rw [if_neg (fun h => e (q1.mp h))]
    refine ⟨0, ?_, Or.inr ⟨rfl, fun h => e h.1⟩⟩
    unfold f_X10_isSame_26
    rw [show FU = (q + 999) + 1 by omega, f_X10_isSame_30]
    simp only [I_83_11, Option.bind_some, hl, i00, if_true, rz_0, ite_self]
/-- the class makes the claim that was read -/
theorem made_ok {k : Nat} {g : Nat → Nat} (hsz : b + 102 ≤ sz) (hfr : fresh f sz) (hk : k ≤ 30) (h3 : fi (b + 16) 3 = nI k) (hr : ∀ j, j < k → ia (b + 18) j = nI (g j)) : ∃ f1 : mmF, f_X8_made (b + 16) (wr (SK b) ia fi fl qa f) sz = some (sz, wr (SK b) ia fi fl qa f1, sz + 2) ∧ ClA b f1 sz k g ∧ extM f f1 ∧ fresh f1 (sz + 2) := by
  have ei := init_ok (b := b) (ia := ia) (fi := fi) (fl := fl) (qa := qa) (f := va_up f sz (some (.inr (0, [.int 0, .null])))) (c := sz) (sz := sz + 1) (k := k) (N := 30) (v1 := b + 18) (g := g) hsz (by omega) (by omega) hk (by decide) (vu_s _ _ _) L_18 (fun f1 _ j hj => by rw [An_18 (show j < 30 by omega), hr j hj])
  refine ⟨cl2 (va_up f sz (some (.inr (0, [.int 0, .null])))) sz (sz + 1) k (fun j => if j < k then nI (g j) else 0), ?_, ⟨hsz, sz + 1, _, by omega, cl2_c _ _ _ _ _, cl2_s _ _ _ (by omega), fun j hj => if_pos hj⟩, fun a v hv => ?_, fun a ha => ?_⟩
  · unfold f_X8_made
    simp only [wr_vu hsz, Option.bind_some, R_16_2, I_16_3, h3, ei]
  · have h1 : a ≠ sz := fun e => by
      rw [e, hfr sz (Nat.le_refl _)] at hv
      cases hv
    have h2 : a ≠ sz + 1 := fun e => by
      rw [e, hfr (sz + 1) (by omega)] at hv
      cases hv
    rw [cl2_o _ _ _ h1 h2, vu_n _ _ h1]
    exact hv
  · rw [cl2_o _ _ _ (by omega) (by omega), vu_n _ _ (by omega)]
    exact hfr a (by omega)
end PUT
