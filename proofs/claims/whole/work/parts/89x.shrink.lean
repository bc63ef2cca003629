/-! RECORDING, AND WHAT IT LEAVES ALONE -/
section REC2
variable {b : Nat} {ia fi : Nat → Nat → Int32} {fl : Nat → Nat → Int64} {qa : Nat → Nat → Option Nat} {f : mmF} {Ω : mO}
theorem C_rec2 (h : CR b ia fi qa f Ω) (w : WO Ω) : ∃ (ia1 fi1 : Nat → Nat → Int32) (qa1 : Nat → Nat → Option Nat), f_X9_record b (wr (SK b) ia fi fl qa f) = some (wr (SK b) ia1 fi1 fl qa1 f) ∧ CR b ia1 fi1 qa1 f (recO Ω) ∧ highE b ia fi ia1 fi1 ∧ ∀ a : Nat, a < b + 55 → ia1 a = ia a := by
  obtain ⟨h1, ⟨ad, hA, hI, hH⟩, h3, h4, h5, h6⟩ := h
  have w1 := w.1
  have hr4 := w.2.1
  by_cases hr : Ω.2.1 = 4
  · obtain ⟨p, hp⟩ := FU_1000
    have hA2 : ∀ j, j < 4 → (rw2 qa (b + 8) (fun j => if j = 3 then some (ad 0) else if j + 1 < 4 then qa (b + 8) (j + 1) else qa (b + 8) j)) (b + 8) j = some (if j < 3 then ad (j + 1) else ad 0) ∧ ∃ k, k < 4 ∧ (if j < 3 then ad (j + 1) else ad 0) = b + (55 + 7 * k) := by
      intro j hj
      rw [rw2_s]
      by_cases h3 : j < 3
      · rw [if_pos h3]
        show (if j = 3 then some (ad 0) else if j + 1 < 4 then qa (b + 8) (j + 1) else qa (b + 8) j) = _ ∧ _
        rw [if_neg (by omega), if_pos (by omega)]
        exact hA (j + 1) (by omega)
      · have : j = 3 := by omega
        subst this
        exact ⟨rfl, (hA 0 (by decide)).2⟩
    have hI2 : ∀ i j, i < 4 → j < 4 → (if i < 3 then ad (i + 1) else ad 0) = (if j < 3 then ad (j + 1) else ad 0) → i = j := by
      intro i j hi hj he
      by_cases hi3 : i < 3 <;> by_cases hj3 : j < 3
      · rw [if_pos hi3, if_pos hj3] at he
        have := hI _ _ (by omega) (by omega) he
        omega
      · rw [if_pos hi3, if_neg hj3] at he
        have := hI _ _ (by omega) (by omega) he
        omega
      · rw [if_neg hi3, if_pos hj3] at he
        have := hI _ _ (by omega) (by omega) he
        omega
      · omega
    have qo : ∀ a : Nat, a ≠ b + 8 → (rw2 qa (b + 8) (fun j => if j = 3 then some (ad 0) else if j + 1 < 4 then qa (b + 8) (j + 1) else qa (b + 8) j)) a = qa a := fun a x => rw2_n _ _ x
    have fo2 : ∀ a j : Nat, (a ≠ b ∨ j ≠ 2) → u2 fi b 2 3 a j = fi a j := fun a j y => by
      rcases y with y | y
      · rw [u2_a _ _ y]
      · rw [u2_i _ _ y]
    have hC1 : CSt b ia (u2 fi b 2 3) (rw2 qa (b + 8) (fun j => if j = 3 then some (ad 0) else if j + 1 < 4 then qa (b + 8) (j + 1) else qa (b + 8) j)) f (b + 1) Ω.1 := h1.congr (fo2 _ _ (by omega)) rfl rfl (qo _ (by omega))
    obtain ⟨k0, hk0, had0⟩ := (hA 0 (by decide)).2
    have hT := CR_take (Ω := Ω) (ad := fun j => if j < 3 then ad (j + 1) else ad 0) (r := 3) (hs := fun q => Ω.2.2.1 (q + 1)) hC1 w1 hA2 hI2 (fun q hq _ => by
      obtain ⟨k, hk, hadq⟩ := (hA (q + 1) (by omega)).2
      show CSt b _ _ _ f (if q < 3 then ad (q + 1) else ad 0) _
      rw [if_pos hq]
      exact (hH (q + 1) (by omega) (by omega)).congr (fo2 _ _ (by omega)) rfl rfl (qo _ (by omega))) ⟨by rw [fo2 _ _ (by omega)]; exact h4.1, fun τ hτ => (h4.2 τ hτ).congr (fo2 _ _ (by omega)) rfl rfl (qo _ (by omega))⟩ ⟨by rw [fo2 _ _ (by omega)]; exact h5.1, h5.2⟩ (by
      obtain ⟨c1, c2, c3, c4, c5⟩ := h6
      exact ⟨c1.cg rfl rfl (fo2 _ _ (by omega)), c2, c3, c4, c5⟩) (by decide)
    have hX := rec57 (b := b) (ia := ia) (fi := u2 fi b 2 3) (fl := fl) (f := f) (r := 3) (hh := ad 0) (u2_s _ _ _ _) (by decide) (hA2 3 (by decide)).1 (ad_St ⟨k0, hk0, had0⟩) (by omega) hC1.2.out
    have hY := rec17 (ia := ia) (fi := fi) (fl := fl) (f := f) hA hX 3 1 FU (by decide) (by decide) (by omega)
    rw [if_neg (show ¬ (3 : Nat) < 3 by decide)] at hT
    have eO : recO Ω = (Ω.1, 3 + 1, (fun q => if q = 3 then Ω.1 else Ω.2.2.1 (q + 1)), Ω.2.2.2) := by
      unfold recO
      rw [if_pos hr, if_pos hr]
    refine ⟨_, _, _, ?_, (by rw [eO]; exact hT.1), fun a ha => ⟨(hT.2 a ha).1, ?_⟩, fun a ha => by rw [rw2_n _ _ (by omega), rw2_n _ _ (by omega)]⟩
    · unfold f_X9_record
      rw [I_0_2]
      simp only [Option.bind_some]
      rw [h3, hr, if_neg (show ¬ nI 4 < 4 by decide), R_0_1]
      simp only [Option.bind_some]
      rw [show (0 : Int32) = nI 0 from rfl, N_8 (by decide) (hA 0 (by decide)).1]
      simp only [Option.bind_some]
      have e0 : (fun j => if j + 1 < 1 then qa (b + 8) (j + 1) else qa (b + 8) j) = qa (b + 8) := by
        funext j
        rw [if_neg (by omega)]
      rw [e0, rw2_id] at hY
      exact hY
    · rw [(hT.2 a ha).2]
      funext j
      exact fo2 _ _ (by omega)
  · have hlt : Ω.2.1 < 4 := by omega
    obtain ⟨k0, hk0, had0⟩ := (hA Ω.2.1 hlt).2
    have hT := CR_take (Ω := Ω) (ad := ad) (r := Ω.2.1) (hs := Ω.2.2.1) h1 w1 hA hI hH h4 h5 h6 hlt
    have hX := rec57 (b := b) (ia := ia) (fi := fi) (fl := fl) (f := f) h3 hlt (hA _ hlt).1 (ad_St ⟨k0, hk0, had0⟩) (by omega) h1.2.out
    have hE : f_X9_record b (wr (SK b) ia fi fl qa f) = f_X9_record_57 b (wr (SK b) ia fi fl qa f) := by
      unfold f_X9_record
      rw [I_0_2]
      simp only [Option.bind_some]
      have h4' : fi b 2 < 4 := by rw [h3]; exact nI_lt (b := 4) hlt (by decide)
      rw [if_pos h4']
    have e : recO Ω = (Ω.1, Ω.2.1 + 1, (fun q => if q = Ω.2.1 then Ω.1 else Ω.2.2.1 q), Ω.2.2.2) := by
      unfold recO
      rw [if_neg hr, if_neg hr]
    rw [e]
    exact ⟨_, _, _, hE.trans hX, hT.1, hT.2, fun a ha => by rw [rw2_n _ _ (by omega), rw2_n _ _ (by omega)]⟩
theorem M_rec2 (h : MR b ia fi Ω) (w : WO Ω) : ∃ (ia1 fi1 : Nat → Nat → Int32), f_X10_record (b + 83) (wr (SK b) ia fi fl qa f) = some (wr (SK b) ia1 fi1 fl qa f) ∧ MR b ia1 fi1 (recO Ω) ∧ lowE b ia fi ia1 fi1 ∧ ∀ a : Nat, b + 86 ≤ a → ia1 a = ia a := by
  obtain ⟨h1, h2, h3, ⟨h4, h4b⟩, h5, h6⟩ := h
  have hr4 := w.2.1
  by_cases hr : Ω.2.1 = 4
  · have hk : fi (b + 83) 2 = nI 4 := by rw [h3, hr]
    refine ⟨_, _, m_rec_4 hk, ⟨?_, fun q hq => ?_, ?_, ⟨?_, fun τ hτ => ?_⟩, ?_, fun i hi => ?_⟩, fun a ha => ⟨?_, ?_⟩, fun a ha => rw2_n _ _ (by omega)⟩
    · rw [rw2_n _ _ (by omega)]; exact h1
    · have hq4 : q < 4 := by
        have : q < (if Ω.2.1 = 4 then 4 else Ω.2.1 + 1) := hq
        rw [if_pos hr] at this
        exact this
      rw [rw2_s]
      show MSt _ ((if Ω.2.1 = 4 then (fun q => if q = 3 then Ω.1 else Ω.2.2.1 (q + 1)) else fun q => if q = Ω.2.1 then Ω.1 else Ω.2.2.1 q) q)
      rw [if_pos hr]
      by_cases h3q : q = 3
      · subst h3q
        simp only [if_pos]
        refine h1.copy w.1 (fun j hj => ?_)
        rw [if_neg (by omega), if_pos (by omega), show 172 * 3 + j - 516 = j by omega]
      · simp only [if_neg h3q]
        refine (h2 (q + 1) (by omega)).copy (w.2.2.1 (q + 1) (by omega)) (fun j hj => ?_)
        rw [if_pos (by omega)]
        congr 1
        omega
    · show u2 fi (b + 83) 2 (nI 4) (b + 83) 2 = nI (if Ω.2.1 = 4 then 4 else Ω.2.1 + 1)
      rw [if_pos hr, u2_s]
    · rw [u2_i _ _ (by omega)]; exact h4
    · rw [rw2_n _ _ (by omega)]; exact h4b τ hτ
    · rw [u2_i _ _ (by omega)]; exact h5
    · rw [rw2_n _ _ (by omega)]; exact h6 i hi
    · exact rw2_n _ _ (by omega)
    · funext j; exact u2_a _ _ (by omega)
  · have hlt : Ω.2.1 < 4 := by omega
    refine ⟨_, _, m_rec_lt h3 hlt, ⟨?_, fun q hq => ?_, ?_, ⟨?_, fun τ hτ => ?_⟩, ?_, fun i hi => ?_⟩, fun a ha => ⟨?_, ?_⟩, fun a ha => rw2_n _ _ (by omega)⟩
    · rw [rw2_n _ _ (by omega)]; exact h1
    · have hq4 : q < Ω.2.1 + 1 := by
        have : q < (if Ω.2.1 = 4 then 4 else Ω.2.1 + 1) := hq
        rw [if_neg hr] at this
        exact this
      rw [rw2_s]
      show MSt _ ((if Ω.2.1 = 4 then (fun q => if q = 3 then Ω.1 else Ω.2.2.1 (q + 1)) else fun q => if q = Ω.2.1 then Ω.1 else Ω.2.2.1 q) q)
      rw [if_neg hr]
      by_cases h3q : q = Ω.2.1
      · simp only [if_pos h3q]
        refine h1.copy w.1 (fun j hj => ?_)
        subst h3q
        rw [if_pos (by omega)]
        congr 1
        omega
      · simp only [if_neg h3q]
        refine (h2 q (by omega)).copy (w.2.2.1 q (by omega)) (fun j hj => ?_)
        rw [if_neg (by omega)]
    · show u2 fi (b + 83) 2 (nI (Ω.2.1 + 1)) (b + 83) 2 = nI (if Ω.2.1 = 4 then 4 else Ω.2.1 + 1)
      rw [if_neg hr, u2_s]
    · rw [u2_i _ _ (by omega)]; exact h4
    · rw [rw2_n _ _ (by omega)]; exact h4b τ hτ
    · rw [u2_i _ _ (by omega)]; exact h5
    · rw [rw2_n _ _ (by omega)]; exact h6 i hi
    · exact rw2_n _ _ (by omega)
    · funext j; exact u2_a _ _ (by omega)
end REC2
/-! SHRINK -/
/-- the lowest one alike with each; what a merge makes of the rows; which stages go -/
def gnN (lo : Nat → Nat) (n : Nat) : Nat := fo (fun i x => x ||| (if lo i = i then 0 else 2 ^ i)) n 0
theorem gnN_bit (lo : Nat → Nat) (v : Nat) : ∀ n : Nat, (gnN lo n).testBit v = true ↔ v < n ∧ lo v ≠ v
  | 0 => by
    show (0 : Nat).testBit v = true ↔ _
    rw [Nat.zero_testBit]
    constructor
    · intro h; cases h
    · intro ⟨h, _⟩; omega
  | n + 1 => by
    show (gnN lo n ||| (if lo n = n then 0 else 2 ^ n)).testBit v = true ↔ _
    rw [Nat.testBit_or, Bool.or_eq_true, gnN_bit lo v n]
    constructor
    · intro h
      rcases h with ⟨h1, h2⟩ | h
      · exact ⟨by omega, h2⟩
      · by_cases hl : lo n = n
        · rw [if_pos hl, Nat.zero_testBit] at h; cases h
        · rw [if_neg hl, Nat.testBit_two_pow] at h
          have := of_decide_eq_true h
          subst this
          exact ⟨by omega, hl⟩
    · intro ⟨h1, h2⟩
      by_cases hv : v = n
      · subst hv
        right
        rw [if_neg h2, Nat.testBit_two_pow]
        exact decide_eq_true rfl
      · exact Or.inl ⟨by omega, h2⟩
theorem gnN_lt (lo : Nat → Nat) (n : Nat) : gnN lo n < 2 ^ n := by
  refine bt_lim fun v hv => ?_
  cases hb : (gnN lo n).testBit v with
  | false => rfl
  | true =>
    have := ((gnN_bit lo v n).mp hb).1
    omega
theorem gn_sum {lo : Nat → Nat} {P : Nat → Prop} {n : Nat} (h : ∀ i, i < n → (lo i = i ↔ P i)) : ∀ k : Nat, k ≤ n → bcN (gnN lo n) k + cnP P k = k
  | 0, _ => rfl
  | k + 1, hk => by
    have ih := gn_sum h k (by omega)
    show bcN (gnN lo n) k + (if (gnN lo n).testBit k then 1 else 0) + (cnP P k + _) = k + 1
    have hb := gnN_bit lo k n
    by_cases hp : P k
    · have hl : lo k = k := (h k (by omega)).mpr hp
      have e : ¬ (gnN lo n).testBit k = true := fun hx => (hb.mp hx).2 hl
      rw [if_neg e, if_pos hp]
      omega
    · have e : (gnN lo n).testBit k = true := hb.mpr ⟨by omega, fun hx => hp ((h k (by omega)).mp hx)⟩
      rw [if_pos e, if_neg hp]
      omega
/-- all that go are taken out, the last one first -/
def rmA (lo : Nat → Nat) : Nat → Nat × (Nat → Nat) × (Nat → Nat) → Nat × (Nat → Nat) × (Nat → Nat)
  | 0, st => st
  | i + 1, st => rmA lo i (if lo i = i then st else (st.1 - 1, rL i st.2.1, rF i st.2.2))
def agr (lo : Nat → Nat) (i n : Nat) (L L1 : Nat → Nat) : Prop := ∀ j, j < n → (j < i → lo j = j → L j = L1 j) ∧ (i ≤ j → L j = L1 j)
theorem agr_st {lo : Nat → Nat} {i n : Nat} {L L1 : Nat → Nat} (h : agr lo (i + 1) n L L1) (hin : i < n) (hl : lo i ≠ i) : agr lo i (n - 1) (rL i L) (rL i L1) := by
  intro j hj
  refine ⟨fun hji hlj => ?_, fun hij => ?_⟩
  · show wo (L (if j < i then j else j + 1)) i = wo (L1 (if j < i then j else j + 1)) i
    rw [if_pos hji, (h j (by omega)).1 (by omega) hlj]
  · show wo (L (if j < i then j else j + 1)) i = wo (L1 (if j < i then j else j + 1)) i
    rw [if_neg (by omega), (h (j + 1) (by omega)).2 (by omega)]
theorem agr_k {lo : Nat → Nat} {i n : Nat} {L L1 : Nat → Nat} (h : agr lo (i + 1) n L L1) (hl : lo i = i) : agr lo i n L L1 := by
  intro j hj
  refine ⟨fun hji hlj => (h j hj).1 (by omega) hlj, fun hij => ?_⟩
  by_cases hji : j = i
  · subst hji; exact (h j hj).1 (by omega) hl
  · exact (h j hj).2 (by omega)
theorem rmA_agr {lo : Nat → Nat} (h0 : lo 0 = 0) : ∀ (i n : Nat) (L L1 F : Nat → Nat), i ≤ n → 1 ≤ n → agr lo i n L L1 → (rmA lo i (n, L, F)).1 = (rmA lo i (n, L1, F)).1 ∧ (rmA lo i (n, L, F)).2.2 = (rmA lo i (n, L1, F)).2.2 ∧ ∀ j, j < (rmA lo i (n, L, F)).1 → (rmA lo i (n, L, F)).2.1 j = (rmA lo i (n, L1, F)).2.1 j
  | 0, n, L, L1, F, _, _, h => ⟨rfl, rfl, fun j hj => (h j hj).2 (by omega)⟩
  | i + 1, n, L, L1, F, hi, hn, h => by
    by_cases hl : lo i = i
    · have e : ∀ X : Nat → Nat, rmA lo (i + 1) (n, X, F) = rmA lo i (n, X, F) := fun X => by
        show rmA lo i (if lo i = i then _ else _) = _
        rw [if_pos hl]
      rw [e, e]
      exact rmA_agr h0 i n L L1 F (by omega) hn (agr_k h hl)
    · have e : ∀ X : Nat → Nat, rmA lo (i + 1) (n, X, F) = rmA lo i (n - 1, rL i X, rF i F) := fun X => by
        show rmA lo i (if lo i = i then _ else _) = _
        rw [if_neg hl]
      have hi0 : i ≠ 0 := fun e => hl (by rw [e]; exact h0)
      rw [e, e]
      exact rmA_agr h0 i (n - 1) _ _ _ (by omega) (by omega) (agr_st h (by omega) hl)
theorem rmA_WF {lo : Nat → Nat} (h0 : lo 0 = 0) : ∀ (i n : Nat) (L F : Nat → Nat), i ≤ n → WF n L F → WF (rmA lo i (n, L, F)).1 (rmA lo i (n, L, F)).2.1 (rmA lo i (n, L, F)).2.2
  | 0, n, L, F, _, w => w
  | i + 1, n, L, F, hi, w => by
    by_cases hl : lo i = i
    · have e : rmA lo (i + 1) (n, L, F) = rmA lo i (n, L, F) := by
        show rmA lo i (if lo i = i then _ else _) = _
        rw [if_pos hl]
      rw [e]
      exact rmA_WF h0 i n L F (by omega) w
    · have e : rmA lo (i + 1) (n, L, F) = rmA lo i (n - 1, rL i L, rF i F) := by
        show rmA lo i (if lo i = i then _ else _) = _
        rw [if_neg hl]
      have hi0 : i ≠ 0 := fun e => hl (by rw [e]; exact h0)
      rw [e]
      refine rmA_WF h0 i (n - 1) _ _ (by omega) ?_
      obtain ⟨n', rfl⟩ : ∃ k, n = k + 1 := ⟨n - 1, by omega⟩
      exact w.takeOut (by omega) (by omega)
