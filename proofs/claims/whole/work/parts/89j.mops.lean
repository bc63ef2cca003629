/-! The reference's operations on stages, on its row 'now' -/
section MOP
variable {b n : Nat} {L F : Nat → Nat} {ia fi : Nat → Nat → Int32} {fl : Nat → Nat → Int64} {qa : Nat → Nat → Option Nat} {f : mmF} {R : Nat → Int32}
theorem rA {i : Nat} (hi : i < 172) : ldA 0 (wr (SK b) (rw2 ia (b + 84) R) fi fl qa f) (b + 84) (nI i) = some (R i) := by rw [An_84 hi, rw2_s]
theorem rA16 : ldA 0 (wr (SK b) (rw2 ia (b + 84) R) fi fl qa f) (b + 84) (16 : Int32) = some (R 16) := by rw [A16, rw2_s]
theorem rS {i : Nat} {x : Int32} (hi : i < 172) : stA 0 (wr (SK b) (rw2 ia (b + 84) R) fi fl qa f) (b + 84) (nI i) x = some (wr (SK b) (rw2 ia (b + 84) (fun j => if j = i then x else R j)) fi fl qa f) := by rw [sAn_84 hi, u2_rw2]
theorem rL1 {i : Nat} {v : Int32} (hi : i < 172) : f_X10_leadsTo (b + 83) (nI i) v (wr (SK b) (rw2 ia (b + 84) R) fi fl qa f) = some (if ((R i >>> (v &&& 31)) &&& 1) = 1 then 1 else 0) := by
  unfold f_X10_leadsTo
  rw [R_83_0]
  simp only [Option.bind_some]
  rw [n0, rA hi]
  simp only [Option.bind_some]
  split <;> rfl
/-- a row's part: the first n anew -/
def up1 (P R : Nat → Int32) (i : Nat) : Nat → Int32 := fun j => if j < i then P j else R j
theorem up1_0 (P R : Nat → Int32) : up1 P R 0 = R := by funext j; simp [up1]
theorem up1_at (P R : Nat → Int32) {i j : Nat} (h : i ≤ j) : up1 P R i j = R j := by unfold up1; rw [if_neg (by omega)]
theorem up1_in (P R : Nat → Int32) {i j : Nat} (h : j < i) : up1 P R i j = P j := by unfold up1; rw [if_pos h]
theorem up1_step (P R : Nat → Int32) (i : Nat) {x : Int32} (hx : x = P i) : (fun j => if j = i then x else up1 P R i j) = up1 P R (i + 1) := row_step P R i x hx
/-- places 8, 9 .. of a row anew -/
def up8 (P R : Nat → Int32) (i : Nat) : Nat → Int32 := fun j => if 8 ≤ j ∧ j < 8 + i then P (j - 8) else R j
theorem up8_0 (P R : Nat → Int32) : up8 P R 0 = R := by
  funext j
  unfold up8
  rw [if_neg (by omega)]
theorem up8_at (P R : Nat → Int32) {i j : Nat} (h : j < 8 ∨ 8 + i ≤ j) : up8 P R i j = R j := by unfold up8; rw [if_neg (by omega)]
theorem up8_in (P R : Nat → Int32) {i j : Nat} (h : j < i) : up8 P R i (8 + j) = P j := by
  unfold up8
  rw [if_pos (by omega), show 8 + j - 8 = j by omega]
theorem up8_step (P R : Nat → Int32) (i : Nat) {x : Int32} (hx : x = P i) : (fun j => if j = 8 + i then x else up8 P R i j) = up8 P R (i + 1) := by
  funext j
  unfold up8
  by_cases h1 : j = 8 + i
  · subst h1; rw [if_pos rfl, if_pos (by omega), show 8 + i - 8 = i by omega, hx]
  · rw [if_neg h1]
    by_cases h2 : 8 ≤ j ∧ j < 8 + i
    · rw [if_pos h2, if_pos (by omega)]
    · rw [if_neg h2, if_neg (by omega)]
/-! addStage -/
def agL (R : Nat → Int32) (k n : Nat) : Nat → Int32 := fun j => R j ||| (if (if ((R j >>> (nI k &&& 31)) &&& 1) = 1 then (1 : Int32) else 0) = 0 then 0 else (1 : Int32) <<< (nI n &&& 31))
def agE (R : Nat → Int32) (k n : Nat) : Nat → Int32 := fun j => if j = 16 then R 16 + 1 else if j = 8 + n then R (8 + k) else if j = n then (1 : Int32) <<< (nI n &&& 31) else up1 (agL R k n) R n j
theorem m_add_33 {k : Nat} (hk : k < n) (h8 : n < 8) : ∀ (m i q : Nat), i + m = n → m < q → f_X10_addStage_33 q (b + 83) (nI k) (nI n) (nI i) (wr (SK b) (rw2 ia (b + 84) (up1 (agL R k n) R i)) fi fl qa f) = some (nI n, wr (SK b) (rw2 ia (b + 84) (agE R k n)) fi fl qa f) := by
  intro m
  induction m with
  | zero =>
    intro i q hi hq
    obtain ⟨q, rfl⟩ : ∃ j, q = j + 1 := ⟨q - 1, by omega⟩
    have : i = n := by omega
    subst this
    rw [f_X10_addStage_33, if_pos (nI_le (Nat.le_refl _) (by omega)), R_83_0]
    simp only [Option.bind_some]
    rw [n0, rS (by omega)]
    simp only [Option.bind_some]
    rw [R_83_0]
    simp only [Option.bind_some]
    rw [n8, rA (by omega)]
    simp only [Option.bind_some]
    rw [n8, rS (by omega)]
    simp only [Option.bind_some]
    rw [R_83_0]
    simp only [Option.bind_some]
    rw [rA16]
    simp only [Option.bind_some]
    rw [show (16 : Int32) = nI 16 from rfl, rS (by omega)]
    simp only [Option.bind_some]
    rw [if_neg (show ¬ 16 = 8 + i by omega), if_neg (show ¬ 16 = i by omega), if_neg (show ¬ 8 + k = i by omega), up1_at _ _ (show i ≤ 16 by omega), up1_at _ _ (show i ≤ 8 + k by omega)]
    rfl
  | succ m ih =>
    intro i q hi hq
    obtain ⟨q, rfl⟩ : ∃ j, q = j + 1 := ⟨q - 1, by omega⟩
    rw [f_X10_addStage_33, if_neg (nI_ge (by omega) (by omega)), R_83_0]
    simp only [Option.bind_some]
    rw [n0, rA (by omega), up1_at _ _ (Nat.le_refl _)]
    simp only [Option.bind_some]
    rw [ck_83]
    simp only [Option.bind_some]
    rw [rL1 (by omega), up1_at _ _ (Nat.le_refl _)]
    simp only [Option.bind_some]
    have e := ih (i + 1) q (by omega) (by omega)
    rw [← nI_1] at e
    by_cases hc : (if ((R i >>> (nI k &&& 31)) &&& 1) = 1 then (1 : Int32) else 0) = 0
    · rw [if_pos hc]
      unfold f_X10_addStage_63
      rw [rS (by omega), up1_step (agL R k n) R i (by unfold agL; rw [if_pos hc])]
      simp only [Option.bind_some]
      exact e
    · rw [if_neg hc]
      unfold f_X10_addStage_63
      rw [rS (by omega), up1_step (agL R k n) R i (by unfold agL; rw [if_neg hc])]
      simp only [Option.bind_some]
      exact e
theorem MS.grow (h : MS R n L F) (w : WF n L F) (h8 : n < 8) {k : Nat} (hk : k < n) : MS (agE R k n) (n + 1) (gL n k L) (gF n k F) := by
  refine ⟨?_, fun i hi => ⟨?_, ?_⟩⟩
  · unfold agE
    rw [if_pos rfl, h.1, nI_1]
  · unfold agE
    rw [if_neg (by omega), if_neg (by omega)]
    by_cases hn : i = n
    · subst hn
      rw [if_pos rfl, bt_shl (by omega)]
      unfold gL
      rw [if_neg (by omega)]
    · have hi2 : i < n := by omega
      have hl := w.L31 hi2
      rw [if_neg hn, up1_in _ _ hi2]
      unfold agL gL
      rw [(h.2 i hi2).1, if_pos hi2, bt_get (by omega) (by omega), bt_shl (by omega)]
      cases (L i).testBit k
      · rw [if_pos (by decide)]
        simp only [Bool.false_eq_true, if_false]
        rw [show (0 : Int32) = nI 0 from rfl, fa_or, Nat.or_zero]
      · rw [if_neg (by decide)]
        simp only [if_true]
        rw [fa_or]
  · unfold agE
    rw [if_neg (by omega)]
    by_cases hn : i = n
    · subst hn
      rw [if_pos rfl, (h.2 k hk).2]
      unfold gF
      rw [if_neg (by omega)]
    · have hi2 : i < n := by omega
      rw [if_neg (by omega), if_neg (by omega), up1_at _ _ (by omega), (h.2 i hi2).2]
      unfold gF
      rw [if_pos hi2]
theorem agE_hi {k : Nat} (h8 : n < 8) {j : Nat} (hj : 17 ≤ j) : agE R k n j = R j := by
  unfold agE
  rw [if_neg (by omega), if_neg (by omega), if_neg (by omega), up1_at _ _ (by omega)]
/-! learn and forget -/
def leF (R : Nat → Int32) (k : Nat) (x : Int32) : Nat → Int32 := fun j => R (8 + j) ||| (if (if ((R k >>> (nI j &&& 31)) &&& 1) = 1 then (1 : Int32) else 0) = 0 then 0 else x)
theorem m_learn_45 {k v : Nat} (hk : k < n) (h8 : n ≤ 8) (hn : R 16 = nI n) {o : Option (Int32 × mmF)} (ho : (f_X10_knownAt (b + 83) (nI v) (wr (SK b) (rw2 ia (b + 84) (up8 (leF R k ((1 : Int32) <<< (nI v &&& 31))) R n)) fi fl qa f)).bind (fun q => some (q, wr (SK b) (rw2 ia (b + 84) (up8 (leF R k ((1 : Int32) <<< (nI v &&& 31))) R n)) fi fl qa f)) = o) : ∀ (m i q : Nat), i + m = n → m < q → f_X10_learn_45 q (b + 83) (nI k) (nI v) (nI i) (wr (SK b) (rw2 ia (b + 84) (up8 (leF R k ((1 : Int32) <<< (nI v &&& 31))) R i)) fi fl qa f) = o := by
  intro m
  induction m with
  | zero =>
    intro i q hi hq
    obtain ⟨q, rfl⟩ : ∃ j, q = j + 1 := ⟨q - 1, by omega⟩
    have : i = n := by omega
    subst this
    rw [f_X10_learn_45, R_83_0]
    simp only [Option.bind_some]
    rw [rA16, up8_at _ _ (by omega), hn]
    simp only [Option.bind_some]
    rw [if_pos (nI_le (Nat.le_refl _) (by omega)), ck_83]
    simp only [Option.bind_some]
    exact ho
  | succ m ih =>
    intro i q hi hq
    obtain ⟨q, rfl⟩ : ∃ j, q = j + 1 := ⟨q - 1, by omega⟩
    rw [f_X10_learn_45, R_83_0]
    simp only [Option.bind_some]
    rw [rA16, up8_at _ _ (by omega), hn]
    simp only [Option.bind_some]
    rw [if_neg (nI_ge (by omega) (by omega)), n8, rA (by omega), up8_at _ _ (Or.inr (Nat.le_refl _))]
    simp only [Option.bind_some]
    rw [ck_83]
    simp only [Option.bind_some]
    rw [rL1 (by omega), up8_at _ _ (by omega)]
    simp only [Option.bind_some]
    have e := ih (i + 1) q (by omega) (by omega)
    rw [← nI_1] at e
    by_cases hc : (if ((R k >>> (nI i &&& 31)) &&& 1) = 1 then (1 : Int32) else 0) = 0
    · rw [if_pos hc]
      unfold f_X10_learn_82
      rw [rS (by omega), up8_step (leF R k ((1 : Int32) <<< (nI v &&& 31))) R i (by unfold leF; rw [if_pos hc])]
      simp only [Option.bind_some]
      exact e
    · rw [if_neg hc]
      unfold f_X10_learn_82
      rw [rS (by omega), up8_step (leF R k ((1 : Int32) <<< (nI v &&& 31))) R i (by unfold leF; rw [if_neg hc])]
      simp only [Option.bind_some]
      exact e
theorem MS.learn (h : MS R n L F) (w : WF n L F) {k v : Nat} (hk : k < n) (hv : v < 4) : MS (up8 (leF R k ((1 : Int32) <<< (nI v &&& 31))) R n) n L (tF (L k) (2 ^ v) F) := by
  have h8 := w.2.1
  refine ⟨?_, fun i hi => ⟨?_, ?_⟩⟩
  · rw [up8_at _ _ (by omega)]; exact h.1
  · rw [up8_at _ _ (by omega)]; exact (h.2 i hi).1
  · rw [up8_in _ _ hi]
    have hl := w.L31 hk
    unfold leF tF
    rw [(h.2 i hi).2, (h.2 k hk).1, bt_get (by omega) (by omega), bt_shl (by omega)]
    cases (L k).testBit i
    · rw [if_pos (by decide)]
      simp only [Bool.false_eq_true, if_false]
      rw [show (0 : Int32) = nI 0 from rfl, fa_or, Nat.or_zero]
    · rw [if_neg (by decide)]
      simp only [if_true]
      rw [fa_or]
def foF (R : Nat → Int32) (k : Nat) (x : Int32) : Nat → Int32 := fun j => R (8 + j) &&& (if (if ((R j >>> (nI k &&& 31)) &&& 1) = 1 then (1 : Int32) else 0) = 0 then 15 else x ^^^ (-1 : Int32))
theorem m_forget_44 {k v : Nat} (hk : k < n) (h8 : n ≤ 8) (hn : R 16 = nI n) {o : Option (Int32 × mmF)} (ho : (f_X10_knownAt (b + 83) (nI v) (wr (SK b) (rw2 ia (b + 84) (up8 (foF R k ((1 : Int32) <<< (nI v &&& 31))) R n)) fi fl qa f)).bind (fun q => some (q, wr (SK b) (rw2 ia (b + 84) (up8 (foF R k ((1 : Int32) <<< (nI v &&& 31))) R n)) fi fl qa f)) = o) : ∀ (m i q : Nat), i + m = n → m < q → f_X10_forget_44 q (b + 83) (nI k) (nI v) (nI i) (wr (SK b) (rw2 ia (b + 84) (up8 (foF R k ((1 : Int32) <<< (nI v &&& 31))) R i)) fi fl qa f) = o := by
  intro m
  induction m with
  | zero =>
    intro i q hi hq
    obtain ⟨q, rfl⟩ : ∃ j, q = j + 1 := ⟨q - 1, by omega⟩
    have : i = n := by omega
    subst this
    rw [f_X10_forget_44, R_83_0]
    simp only [Option.bind_some]
    rw [rA16, up8_at _ _ (by omega), hn]
    simp only [Option.bind_some]
    rw [if_pos (nI_le (Nat.le_refl _) (by omega)), ck_83]
    simp only [Option.bind_some]
    exact ho
  | succ m ih =>
    intro i q hi hq
    obtain ⟨q, rfl⟩ : ∃ j, q = j + 1 := ⟨q - 1, by omega⟩
    rw [f_X10_forget_44, R_83_0]
    simp only [Option.bind_some]
    rw [rA16, up8_at _ _ (by omega), hn]
    simp only [Option.bind_some]
    rw [if_neg (nI_ge (by omega) (by omega)), n8, rA (by omega), up8_at _ _ (Or.inr (Nat.le_refl _))]
    simp only [Option.bind_some]
    rw [ck_83]
    simp only [Option.bind_some]
    rw [rL1 (by omega), up8_at _ _ (by omega)]
    simp only [Option.bind_some]
    have e := ih (i + 1) q (by omega) (by omega)
    rw [← nI_1] at e
    by_cases hc : (if ((R i >>> (nI k &&& 31)) &&& 1) = 1 then (1 : Int32) else 0) = 0
    · rw [if_pos hc]
      unfold f_X10_forget_84
      rw [rS (by omega), up8_step (foF R k ((1 : Int32) <<< (nI v &&& 31))) R i (by unfold foF; rw [if_pos hc])]
      simp only [Option.bind_some]
      exact e
    · rw [if_neg hc]
      unfold f_X10_forget_84
      rw [rS (by omega), up8_step (foF R k ((1 : Int32) <<< (nI v &&& 31))) R i (by unfold foF; rw [if_neg hc])]
      simp only [Option.bind_some]
      exact e
theorem MS.forget (h : MS R n L F) (w : WF n L F) {k v : Nat} (hk : k < n) (hv : v < 4) : MS (up8 (foF R k ((1 : Int32) <<< (nI v &&& 31))) R n) n L (uF (colN L k n) v F) := by
  have h8 := w.2.1
  refine ⟨?_, fun i hi => ⟨?_, ?_⟩⟩
  · rw [up8_at _ _ (by omega)]; exact h.1
  · rw [up8_at _ _ (by omega)]; exact (h.2 i hi).1
  · rw [up8_in _ _ hi]
    have hl := w.L31 hi
    have hf16 := (w.2.2 i hi).2
    unfold foF uF
    rw [(h.2 i hi).2, (h.2 i hi).1, bt_get (by omega) (by omega), colN_bit, decide_eq_true hi, Bool.true_and]
    cases (L i).testBit k
    · rw [if_pos (by decide)]
      simp only [Bool.false_eq_true, if_false]
      exact and15 _ hf16
    · rw [if_neg (by decide)]
      simp only [if_true]
      exact clr_1 _ hf16 v hv
end MOP
