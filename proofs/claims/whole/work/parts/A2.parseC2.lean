/-! TEXTS ARE READ: the class, whole -/
section PARSEC2
variable {b : Nat} {fl : Nat → Nat → Int64} {qa : Nat → Nat → Option Nat} {f : mmF} {sg : Nat → Nat} {len : Nat}
def dF (P : pS) : Int32 := if P.2.2.2.2.2 = true then 1 else 0
theorem c_59 {k19 : Nat → Int32 → Int32 → mmF → Option (Int32 × mmF)} {i s : Nat} {μ : mmF} {d : Bool} (hs : s < 2 ^ 31) (hd : d = decide (6 ≤ s ∧ s ≠ 11)) : f_X8_readFault_59 k19 (b + 16) (nI i) (nI s) μ = k19 (b + 16) (if d = true then 1 else 0) (nI (i + 1)) μ := by
  unfold f_X8_readFault_59 f_X8_readFault_74 f_X8_readFault_75
  have q11 : (nI s = (11 : Int32)) = (s = 11) := propext (nI_eq (b := 11) hs (by decide))
  subst hd
  rw [nI_1]
  by_cases c5 : s ≤ 5
  · rw [if_pos (show nI s ≤ (5 : Int32) from nI_le (b := 5) c5 (by decide)), if_neg (by rw [decide_eq_true_eq]; omega)]
  · rw [if_neg (show ¬ nI s ≤ (5 : Int32) from nI_ge (a := 5) (by omega) hs)]
    by_cases c11 : s = 11
    · rw [if_pos (q11.mpr c11), if_neg (by rw [decide_eq_true_eq]; omega)]
    · rw [if_neg (fun e => c11 (q11.mp e)), if_pos (by rw [decide_eq_true_eq]; omega)]
theorem c_rf (hlen : len ≤ 30) (hsg : ∀ j, j < len → sg j < 2 ^ 31) : ∀ (m i q : Nat) (P : pS) (ia fi : Nat → Nat → Int32), i + m = len → m < q → WP i P → PCP b ia fi P → fi (b + 16) 0 = nI len → (∀ j, j < len → ia (b + 17) j = nI (sg j)) → ∃ ia1 fi1 : Nat → Nat → Int32, FC b ia fi ia1 fi1 ∧ ((∃ k, pr sg m i P = .inl k ∧ f_X8_readFault_19 q (b + 16) (dF P) (nI i) (wr (SK b) ia fi fl qa f) = some (nI k, wr (SK b) ia1 fi1 fl qa f)) ∨ ∃ (g : Nat → Nat) (k : Nat), pr sg m i P = .inr (g, k) ∧ f_X8_readFault_19 q (b + 16) (dF P) (nI i) (wr (SK b) ia fi fl qa f) = some (-1, wr (SK b) ia1 fi1 fl qa f) ∧ fi1 (b + 16) 3 = nI k ∧ ∀ j, j < k → ia1 (b + 18) j = nI (g j)) := by
  intro m
  induction m with
  | zero =>
    intro i q P ia fi hi hq w h hf htx
    obtain ⟨q, rfl⟩ : ∃ k, q = k + 1 := ⟨q - 1, by omega⟩
    have hil : i = len := by omega
    subst hil
    obtain ⟨rd, rl, wt, wl, op, due⟩ := P
    obtain ⟨h1, h2, h3, h4, h5, h6⟩ := w
    dsimp only at h1 h2 h3 h4 h5 h6
    replace h : PC b ia fi rd rl wt wl op := h
    rw [f_X8_readFault_19]
    unfold pr dF f_X8_readFault_93
    dsimp only
    simp only [I_16_0, Option.bind_some, hf, if_pos (Int32.le_refl (nI i))]
    cases due with
    | true =>
      rw [if_pos (Or.inl rfl), if_pos rfl, if_neg (by decide)]
      exact ⟨ia, fi, FC.rf, Or.inl ⟨i, rfl, rfl⟩⟩
    | false =>
      simp only [Bool.false_eq_true, if_false, i00, if_true, false_or, I_16_6, Option.bind_some, h.2.2.1]
      by_cases ho : 0 < op
      · rw [if_pos ho, if_neg (show ¬ nI op ≤ (0 : Int32) from nI_ge (a := 0) ho (by omega))]
        exact ⟨ia, fi, FC.rf, Or.inl ⟨i, rfl, rfl⟩⟩
      · have ho0 : op = 0 := by omega
        rw [if_neg ho, if_pos (show nI op ≤ (0 : Int32) by rw [ho0]; decide)]
        obtain ⟨ia1, fi1, y1, y2, y3⟩ := c_settle (fl := fl) (qa := qa) (f := f) (t := 1) (by decide) ht10 h (by omega) h4
        refine ⟨ia1, fi1, y3, Or.inr ⟨_, _, rfl, ?_, y2.1, y2.2.2.2.1⟩⟩
        rw [show (1 : Int32) = nI 1 from rfl]
        simp only [ck_16, y1, Option.bind_some]
  | succ m ih =>
    intro i q P ia fi hi hq w h hf htx
    obtain ⟨q, rfl⟩ : ∃ k, q = k + 1 := ⟨q - 1, by omega⟩
    have hil : i < len := by omega
    have hlt : ¬ nI len ≤ nI i := nI_ge hil (by omega)
    have hs31 := hsg i hil
    -- on with the next sign
    have next : ∀ (P1 : pS) (ia1 fi1 : Nat → Nat → Int32), stp (sg i) P = some P1 → PCP b ia1 fi1 P1 → FC b ia fi ia1 fi1 → P1.2.2.2.2.2 = decide (6 ≤ sg i ∧ sg i ≠ 11) → ∃ ia2 fi2 : Nat → Nat → Int32, FC b ia fi ia2 fi2 ∧ ((∃ k, pr sg (m + 1) i P = .inl k ∧ f_X8_readFault_59 (fun a0 a1 a2 a3 => f_X8_readFault_19 q a0 a1 a2 a3) (b + 16) (nI i) (nI (sg i)) (wr (SK b) ia1 fi1 fl qa f) = some (nI k, wr (SK b) ia2 fi2 fl qa f)) ∨ ∃ (g : Nat → Nat) (k : Nat), pr sg (m + 1) i P = .inr (g, k) ∧ f_X8_readFault_59 (fun a0 a1 a2 a3 => f_X8_readFault_19 q a0 a1 a2 a3) (b + 16) (nI i) (nI (sg i)) (wr (SK b) ia1 fi1 fl qa f) = some (-1, wr (SK b) ia2 fi2 fl qa f) ∧ fi2 (b + 16) 3 = nI k ∧ ∀ j, j < k → ia2 (b + 18) j = nI (g j)) := by
      intro P1 ia1 fi1 e hP hF hd
      obtain ⟨ia2, fi2, z1, z2⟩ := ih (i + 1) q P1 ia1 fi1 (by omega) (by omega) (stp_ok w e) hP (by rw [hF.2 _ _ (Or.inr rfl)]; exact hf) (fun j hj => by rw [hF.1 _ (by omega) (by omega)]; exact htx j hj)
      have ep : pr sg (m + 1) i P = pr sg m (i + 1) P1 := by rw [pr, e]
      rw [ep, c_59 hs31 hd]
      exact ⟨ia2, fi2, hF.tr z1, z2⟩
    have none : stp (sg i) P = none → pr sg (m + 1) i P = .inl i := fun e => by rw [pr, e]
    rw [f_X8_readFault_19]
    simp only [I_16_0, Option.bind_some, hf, if_neg hlt, R_16_1, An_17 (show i < 30 by omega), htx i hil]
    unfold dF
    cases hd : P.2.2.2.2.2 with
    | true =>
      rw [if_pos rfl, if_neg (by decide)]
      rcases c_due (fl := fl) (qa := qa) (f := f) h w (by omega) hd hs31 with ⟨e, y⟩ | ⟨P1, ia1, fi1, e, y, hP, hF, hd2, hs⟩
      · simp only [ck_16, y, Option.bind_some, i00, if_true]
        exact ⟨ia, fi, FC.rf, Or.inl ⟨i, none e, rfl⟩⟩
      · simp only [ck_16, y, Option.bind_some, i10, if_false]
        exact next P1 ia1 fi1 e hP hF (by rw [hd2]; exact decide_eq_decide.mpr (by omega))
    | false =>
      simp only [Bool.false_eq_true, if_false, i00, if_true]
      rcases c_behind (fl := fl) (qa := qa) (f := f) h w (by omega) hd hs31 with ⟨e, y⟩ | ⟨P1, ia1, fi1, e, y, hP, hF, hd2, hs⟩
      · simp only [ck_16, y, Option.bind_some, i00, if_true]
        exact ⟨ia, fi, FC.rf, Or.inl ⟨i, none e, rfl⟩⟩
      · simp only [ck_16, y, Option.bind_some, i10, if_false]
        exact next P1 ia1 fi1 e hP hF (by rw [hd2]; exact decide_eq_decide.mpr (by omega))
theorem c_readFault {ia fi : Nat → Nat → Int32} (hlen : len ≤ 30) (hsg : ∀ j, j < len → sg j < 2 ^ 31) (hf : fi (b + 16) 0 = nI len) (htx : ∀ j, j < len → ia (b + 17) j = nI (sg j)) : ∃ ia1 fi1 : Nat → Nat → Int32, FC b ia fi ia1 fi1 ∧ ((∃ k, pr sg len 0 pS0 = .inl k ∧ f_X8_readFault (b + 16) (wr (SK b) ia fi fl qa f) = some (nI k, wr (SK b) ia1 fi1 fl qa f)) ∨ ∃ (g : Nat → Nat) (k : Nat), pr sg len 0 pS0 = .inr (g, k) ∧ f_X8_readFault (b + 16) (wr (SK b) ia fi fl qa f) = some (-1, wr (SK b) ia1 fi1 fl qa f) ∧ fi1 (b + 16) 3 = nI k ∧ ∀ j, j < k → ia1 (b + 18) j = nI (g j)) := by
  obtain ⟨q, hq⟩ := FU_1000
  have hF : FC b ia fi ia (u2 (u2 (u2 fi (b + 16) 3 0) (b + 16) 5 0) (b + 16) 6 0) := ((FC.one (ia := ia) (fi := fi) (by decide)).tr (FC.one (by decide))).tr (FC.one (by decide))
  obtain ⟨ia1, fi1, z1, z2⟩ := c_rf (fl := fl) (qa := qa) (f := f) hlen hsg len 0 FU pS0 ia (u2 (u2 (u2 fi (b + 16) 3 0) (b + 16) 5 0) (b + 16) 6 0) (by omega) (by omega) WP0 ⟨by rw [u2_i _ _ (by decide), u2_i _ _ (by decide), u2_s]; rfl, by rw [u2_i _ _ (by decide), u2_s]; rfl, u2_s _ _ _ _, fun j hj => absurd hj (Nat.not_lt_zero _), fun j hj => absurd hj (Nat.not_lt_zero _)⟩ (by rw [hF.2 _ _ (Or.inr rfl)]; exact hf) htx
  have e : f_X8_readFault (b + 16) (wr (SK b) ia fi fl qa f) = f_X8_readFault_19 FU (b + 16) (dF pS0) (nI 0) (wr (SK b) ia (u2 (u2 (u2 fi (b + 16) 3 0) (b + 16) 5 0) (b + 16) 6 0) fl qa f) := by
    unfold f_X8_readFault
    simp only [sI_16_3, sI_16_5, sI_16_6, Option.bind_some]
    rfl
  rw [e]
  exact ⟨ia1, fi1, hF.tr z1, z2⟩
end PARSEC2
