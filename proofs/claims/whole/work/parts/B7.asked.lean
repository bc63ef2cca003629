/-! what the five questions do with bad premises or no claim -/
section ASKED
variable {b : Nat} {f : mmF} {Ω : mO}
theorem nI_any32 (x : Int32) (h : ¬ x < 0) (h2 : ¬ (32 : Int32) ≤ x) : ∃ W, W < 32 ∧ x = nI W := by
  by_cases hx : ∃ k, k ≤ 31 ∧ x = nI k
  · obtain ⟨k, h1, h3⟩ := hx
    exact ⟨k, by omega, h3⟩
  · exfalso
    have hf := in_f (x := x) (m := 31) (by decide) (fun k hk e => hx ⟨k, hk, e⟩) (fun _ => none)
    unfold f_X10_in at hf
    rw [if_neg h] at hf
    have h31 : ¬ nI 31 < x := by
      intro hlt
      apply h2
      rw [show (32 : Int32) = nI 32 from rfl]
      rw [Int32.le_iff_toInt_le]
      rw [Int32.lt_iff_toInt_lt] at hlt
      have a1 : (nI 31).toInt = 31 := by decide
      have a2 : (nI 32).toInt = 32 := by decide
      omega
    rw [if_neg h31] at hf
    exact absurd hf (by decide)
/-- a question that is asked of claims that are there -/
def qOk (Ω : mO) (W p : Nat) : Prop := W < 32 ∧ p < 5 ∧ 0 < Ω.1.2.2.2.1 p ∧ ∀ i, W.testBit i = true → i < 5 ∧ 0 < Ω.1.2.2.2.1 i
theorem asked (w : WO Ω) (x y : Int32) : (∃ e : Int32, e ≠ 0 ∧ (∀ (ia fi : Nat → Nat → Int32) (fl : Nat → Nat → Int64) (qa : Nat → Nat → Option Nat), CR b ia fi qa f Ω → f_X9_questionError b x y (wr (SK b) ia fi fl qa f) = some e) ∧ ((e = -2 ∧ ∀ (ia fi : Nat → Nat → Int32) (fl : Nat → Nat → Int64) (qa : Nat → Nat → Option Nat), MR b ia fi Ω → f_X10_isBad (b + 83) x (wr (SK b) ia fi fl qa f) = some 1) ∨ (e = -1 ∧ ∀ (ia fi : Nat → Nat → Int32) (fl : Nat → Nat → Int64) (qa : Nat → Nat → Option Nat), MR b ia fi Ω → f_X10_isBad (b + 83) x (wr (SK b) ia fi fl qa f) = some 0 ∧ f_X10_noClaim (b + 83) y (wr (SK b) ia fi fl qa f) = some 1))) ∨ ∃ W p, x = nI W ∧ y = nI p ∧ qOk Ω W p ∧ (∀ (ia fi : Nat → Nat → Int32) (fl : Nat → Nat → Int64) (qa : Nat → Nat → Option Nat), CR b ia fi qa f Ω → f_X9_questionError b x y (wr (SK b) ia fi fl qa f) = some 0) ∧ ∀ (ia fi : Nat → Nat → Int32) (fl : Nat → Nat → Int64) (qa : Nat → Nat → Option Nat), MR b ia fi Ω → f_X10_isBad (b + 83) x (wr (SK b) ia fi fl qa f) = some 0 ∧ f_X10_noClaim (b + 83) y (wr (SK b) ia fi fl qa f) = some 0 := by
  have hb1 : isSt b (b + 1) := Or.inl rfl
  have hk31 : ∀ p, p < 5 → Ω.1.2.2.2.1 p < 2 ^ 31 := fun p hp => Nat.lt_of_le_of_lt (w.1.k30 hp) (by decide)
  have hpl : plN Ω.1.2.2.2.1 5 < 32 := plN_lt _ 5
  by_cases hx : ∃ W, W < 32 ∧ x = nI W
  · obtain ⟨W, hW, rfl⟩ := hx
    have h1 : ¬ nI W < 0 := nI_pos (by omega)
    have h2 : ¬ (32 : Int32) ≤ nI W := nI_ge (b := 32) hW (by decide)
    have hand : nI W &&& (nI (plN Ω.1.2.2.2.1 5) ^^^ (-1 : Int32)) = nI (W &&& (255 ^^^ plN Ω.1.2.2.2.1 5)) := and_no _ (by omega) _ (by omega)
    have hq : (nI (W &&& (255 ^^^ plN Ω.1.2.2.2.1 5)) = 0) = (W &&& (255 ^^^ plN Ω.1.2.2.2.1 5) = 0) := propext (nI_eq (b := 0) (Nat.lt_of_le_of_lt Nat.and_le_left (by omega)) (by decide))
    by_cases hs : W &&& (255 ^^^ plN Ω.1.2.2.2.1 5) = 0
    · have hsub : ∀ i, W.testBit i = true → i < 5 ∧ 0 < Ω.1.2.2.2.1 i := fun i hi => by
        have i5 : i < 5 := by
          by_cases h : i < 5
          · exact h
          · rw [Nat.testBit_lt_two_pow (Nat.lt_of_lt_of_le hW (show (2 : Nat) ^ 5 ≤ 2 ^ i from Nat.pow_le_pow_right (by decide) (show 5 ≤ i by omega)))] at hi
            cases hi
        refine ⟨i5, ?_⟩
        have hz : (W &&& (255 ^^^ plN Ω.1.2.2.2.1 5)).testBit i = false := by rw [hs]; exact Nat.zero_testBit i
        rw [Nat.testBit_and, hi, Nat.testBit_xor, show (255 : Nat) = 2 ^ 8 - 1 from rfl, Nat.testBit_two_pow_sub_one, decide_eq_true (show i < 8 by omega), plN_bit, decide_eq_true i5] at hz
        by_cases hk : Ω.1.2.2.2.1 i = 0
        · rw [decide_eq_false (by omega : ¬ Ω.1.2.2.2.1 i ≠ 0)] at hz
          exact absurd hz (by decide)
        · omega
      have hbad : ∀ (ia fi : Nat → Nat → Int32) (fl : Nat → Nat → Int64) (qa : Nat → Nat → Option Nat), MR b ia fi Ω → f_X10_isBad (b + 83) (nI W) (wr (SK b) ia fi fl qa f) = some 0 := fun ia fi fl qa h => by
        unfold f_X10_isBad
        rw [show (31 : Int32) = nI 31 from rfl, in_t (by omega) (by decide)]
        simp only [Option.bind_some, i10, if_false, ck_83, m_places h.1.2 hk31, hand, hq, if_pos hs]
      by_cases hy : ∃ p, p < 5 ∧ y = nI p
      · obtain ⟨p, hp, rfl⟩ := hy
        by_cases h0 : Ω.1.2.2.2.1 p = 0
        · refine Or.inl ⟨-1, by decide, fun ia fi fl qa h => ?_, Or.inr ⟨rfl, fun ia fi fl qa h => ⟨hbad ia fi fl qa h, ?_⟩⟩⟩
          · unfold f_X9_questionError
            rw [if_neg h1, if_neg h2]
            simp only [R_0_0, S_ck hb1, Option.bind_some, c_fill hb1 h.1.2, hand, hq, if_pos hs, ck_0, claimAt_t hp]
            rcases h.1.2 p hp with ⟨_, e⟩ | ⟨e, _⟩
            · rw [e]; rfl
            · omega
          · rw [noClaim_t h.1.2 hp (hk31 p hp), if_pos h0]
        · refine Or.inr ⟨W, p, rfl, rfl, ⟨hW, hp, by omega, hsub⟩, fun ia fi fl qa h => ?_, fun ia fi fl qa h => ⟨hbad ia fi fl qa h, ?_⟩⟩
          · unfold f_X9_questionError
            rw [if_neg h1, if_neg h2]
            simp only [R_0_0, S_ck hb1, Option.bind_some, c_fill hb1 h.1.2, hand, hq, if_pos hs, ck_0, claimAt_t hp]
            rcases h.1.2 p hp with ⟨e, _⟩ | ⟨_, c, e, _⟩
            · omega
            · rw [e]; rfl
          · rw [noClaim_t h.1.2 hp (hk31 p hp), if_neg h0]
      · have hy2 : ∀ k, k < 5 → y ≠ nI k := fun k hk e => hy ⟨k, hk, e⟩
        refine Or.inl ⟨-1, by decide, fun ia fi fl qa h => ?_, Or.inr ⟨rfl, fun ia fi fl qa h => ⟨hbad ia fi fl qa h, noClaim_f hy2⟩⟩⟩
        unfold f_X9_questionError
        rw [if_neg h1, if_neg h2]
        simp only [R_0_0, S_ck hb1, Option.bind_some, c_fill hb1 h.1.2, hand, hq, if_pos hs, ck_0, claimAt_f hy2]
        rfl
    · refine Or.inl ⟨-2, by decide, fun ia fi fl qa h => ?_, Or.inl ⟨rfl, fun ia fi fl qa h => ?_⟩⟩
      · unfold f_X9_questionError
        rw [if_neg h1, if_neg h2]
        simp only [R_0_0, S_ck hb1, Option.bind_some, c_fill hb1 h.1.2, hand, hq, if_neg hs]
      · unfold f_X10_isBad
        rw [show (31 : Int32) = nI 31 from rfl, in_t (by omega) (by decide)]
        simp only [Option.bind_some, i10, if_false, ck_83, m_places h.1.2 hk31, hand, hq, if_neg hs]
  · refine Or.inl ⟨-2, by decide, fun ia fi fl qa h => ?_, Or.inl ⟨rfl, fun ia fi fl qa h => ?_⟩⟩
    · unfold f_X9_questionError
      by_cases h1 : x < 0
      · rw [if_pos h1]
      · rw [if_neg h1]
        by_cases h2 : (32 : Int32) ≤ x
        · rw [if_pos h2]
        · exact absurd (nI_any32 x h1 h2) hx
    · unfold f_X10_isBad
      rw [show (31 : Int32) = nI 31 from rfl, in_f (by decide) (fun k hk e => hx ⟨k, by omega, e⟩)]
      simp only [Option.bind_some, if_true]
end ASKED
