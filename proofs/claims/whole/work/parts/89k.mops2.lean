/-! The reference's lead and removes -/
section MOP2
variable {b n : Nat} {L F : Nat → Nat} {ia fi : Nat → Nat → Int32} {fl : Nat → Nat → Int64} {qa : Nat → Nat → Option Nat} {f : mmF} {R : Nat → Int32}
def ldP (R : Nat → Int32) (src : Int32) (to : Nat) : Nat → Int32 := fun j => R j ||| (if ((src >>> (nI j &&& 31)) &&& 1) = 1 then R to else 0)
def ldQ2 (R : Nat → Int32) (fr to : Nat) : Nat → Int32 := fun j => R (8 + j) ||| (if ((R to >>> (nI j &&& 31)) &&& 1) = 1 then R (8 + fr) else 0)
theorem ldQ2_fr (R : Nat → Int32) (fr to : Nat) : ldQ2 R fr to fr = R (8 + fr) := by
  unfold ldQ2
  split
  · exact Int32.or_self
  · exact Int32.or_zero
def ldR2 (R : Nat → Int32) (src : Int32) (fr to i : Nat) : Nat → Int32 := up8 (ldQ2 R fr to) (up1 (ldP R src to) R i) i
theorem ldR2_0 (R : Nat → Int32) (src : Int32) (fr to : Nat) : ldR2 R src fr to 0 = R := by unfold ldR2; rw [up1_0, up8_0]
theorem ldR2_16 (R : Nat → Int32) (src : Int32) (fr to : Nat) {i : Nat} (h : i ≤ 8) : ldR2 R src fr to i 16 = R 16 := by unfold ldR2; rw [up8_at _ _ (by omega), up1_at _ _ (by omega)]
theorem ldR2_hi (R : Nat → Int32) (src : Int32) (fr to : Nat) {i j : Nat} (h : i ≤ 8) (hj : 17 ≤ j) : ldR2 R src fr to i j = R j := by unfold ldR2; rw [up8_at _ _ (by omega), up1_at _ _ (by omega)]
theorem ldR2_step (R : Nat → Int32) (src : Int32) (fr to i : Nat) (h : i < 8) {x y : Int32} (hx : x = ldP R src to i) (hy : y = ldQ2 R fr to i) : (fun j => if j = 8 + i then y else if j = i then x else ldR2 R src fr to i j) = ldR2 R src fr to (i + 1) := by
  subst hx; subst hy
  funext j
  unfold ldR2 up8 up1
  by_cases h1 : j = 8 + i
  · subst h1; rw [if_pos rfl, if_pos (by omega), show 8 + i - 8 = i by omega]
  · rw [if_neg h1]
    by_cases h2 : j = i
    · subst h2; rw [if_pos rfl, if_neg (by omega), if_pos (by omega)]
    · rw [if_neg h2]
      by_cases h3 : 8 ≤ j ∧ j < 8 + i
      · rw [if_pos h3, if_pos (by omega)]
      · by_cases h4 : j < i
        · rw [if_neg h3, if_pos h4, if_neg (show ¬ (8 ≤ j ∧ j < 8 + (i + 1)) by omega), if_pos (show j < i + 1 by omega)]
        · rw [if_neg h3, if_neg h4, if_neg (show ¬ (8 ≤ j ∧ j < 8 + (i + 1)) by omega), if_neg (show ¬ j < i + 1 by omega)]
theorem m_lead_67 {fr to : Nat} {src v3 : Int32} (hf : fr < n) (ht : to < n) (h8 : n ≤ 8) (hn : R 16 = nI n) {o : Option (Int32 × mmF)} (ho : (f_X10_pairs (b + 83) (wr (SK b) (rw2 ia (b + 84) (ldR2 R src fr to n)) fi fl qa f)).bind (fun q => some (q - v3, wr (SK b) (rw2 ia (b + 84) (ldR2 R src fr to n)) fi fl qa f)) = o) : ∀ (m i q : Nat), i + m = n → m < q → f_X10_lead_67 q (b + 83) (nI fr) v3 (R to) src (nI i) (wr (SK b) (rw2 ia (b + 84) (ldR2 R src fr to i)) fi fl qa f) = o := by
  intro m
  induction m with
  | zero =>
    intro i q hi hq
    obtain ⟨q, rfl⟩ : ∃ j, q = j + 1 := ⟨q - 1, by omega⟩
    have : i = n := by omega
    subst this
    rw [f_X10_lead_67, R_83_0]
    simp only [Option.bind_some]
    rw [rA16, ldR2_16 _ _ _ _ h8, hn]
    simp only [Option.bind_some]
    rw [if_pos (nI_le (Nat.le_refl _) (by omega)), ck_83]
    simp only [Option.bind_some]
    exact ho
  | succ m ih =>
    intro i q hi hq
    obtain ⟨q, rfl⟩ : ∃ j, q = j + 1 := ⟨q - 1, by omega⟩
    have hi8 : i < 8 := by omega
    have a1 : ldR2 R src fr to i i = R i := by unfold ldR2; rw [up8_at _ _ (by omega), up1_at _ _ (Nat.le_refl _)]
    have a2 : ldR2 R src fr to i (8 + i) = R (8 + i) := by unfold ldR2; rw [up8_at _ _ (by omega), up1_at _ _ (by omega)]
    have a3 : ldR2 R src fr to i (8 + fr) = R (8 + fr) := by
      unfold ldR2
      by_cases h : fr < i
      · rw [up8_in _ _ h, ldQ2_fr]
      · rw [up8_at _ _ (by omega), up1_at _ _ (by omega)]
    have e := ih (i + 1) q (by omega) (by omega)
    rw [← nI_1] at e
    rw [f_X10_lead_67, R_83_0]
    simp only [Option.bind_some]
    rw [rA16, ldR2_16 _ _ _ _ (by omega), hn]
    simp only [Option.bind_some]
    rw [if_neg (nI_ge (by omega) (by omega)), n0, rA (by omega), a1]
    simp only [Option.bind_some]
    have key : ∀ x : Int32, R i ||| x = ldP R src to i → f_X10_lead_106 (fun a0 a1 a2 a3 a4 a5 a6 => f_X10_lead_67 q a0 a1 a2 a3 a4 a5 a6) (b + 83) (nI fr) v3 (R to) src (nI i) (b + 84) (nI i) (R i) x (wr (SK b) (rw2 ia (b + 84) (ldR2 R src fr to i)) fi fl qa f) = o := by
      intro x hx
      unfold f_X10_lead_106
      rw [rS (by omega)]
      simp only [Option.bind_some]
      rw [R_83_0]
      simp only [Option.bind_some]
      rw [n8, rA (by omega), if_neg (show ¬ 8 + i = i by omega), a2]
      simp only [Option.bind_some]
      by_cases hc : ((R to >>> (nI i &&& 31)) &&& 1) = 1
      · rw [if_pos hc, n8, rA (by omega), if_neg (show ¬ 8 + fr = i by omega), a3]
        simp only [Option.bind_some]
        unfold f_X10_lead_143
        rw [rS (by omega), ldR2_step R src fr to i hi8 hx (by unfold ldQ2; rw [if_pos hc])]
        simp only [Option.bind_some]
        exact e
      · rw [if_neg hc]
        unfold f_X10_lead_143
        rw [rS (by omega), ldR2_step R src fr to i hi8 hx (by unfold ldQ2; rw [if_neg hc])]
        simp only [Option.bind_some]
        exact e
    by_cases hc : ((src >>> (nI i &&& 31)) &&& 1) = 1
    · rw [if_pos hc]
      exact key (R to) (by unfold ldP; rw [if_pos hc])
    · rw [if_neg hc]
      exact key 0 (by unfold ldP; rw [if_neg hc])
theorem MS.lead (h : MS R n L F) (w : WF n L F) {fr to : Nat} (hf : fr < n) (ht : to < n) : MS (ldR2 R (nI (colN L fr n)) fr to n) n (cL n fr to L) (tF (L to) (F fr) F) := by
  have h8 := w.2.1
  have hc := Nat.lt_of_lt_of_le (colN_lt L fr n) (p8 h8)
  refine ⟨by rw [ldR2_16 _ _ _ _ h8]; exact h.1, fun i hi => ⟨?_, ?_⟩⟩
  · unfold ldR2
    rw [up8_at _ _ (by omega), up1_in _ _ hi]
    unfold ldP cL
    rw [(h.2 i hi).1, (h.2 to ht).1, bt_get (by omega) (by omega), colN_bit, decide_eq_true hi, Bool.true_and]
    cases (L i).testBit fr
    · rw [if_neg (by decide)]
      simp only [Bool.false_eq_true, if_false]
      rw [show (0 : Int32) = nI 0 from rfl, fa_or, Nat.or_zero]
    · rw [if_pos (by decide)]
      simp only [if_true]
      rw [fa_or]
  · unfold ldR2
    rw [up8_in _ _ hi]
    have hl := w.L31 ht
    unfold ldQ2 tF
    rw [(h.2 i hi).2, (h.2 to ht).1, (h.2 fr hf).2, bt_get (by omega) (by omega)]
    cases (L to).testBit i
    · rw [if_neg (by decide)]
      simp only [Bool.false_eq_true, if_false]
      rw [show (0 : Int32) = nI 0 from rfl, fa_or, Nat.or_zero]
    · rw [if_pos (by decide)]
      simp only [if_true]
      rw [fa_or]
/-- two rows from k on come one place earlier -/
def sh2 (S : Nat → Int32) (k i : Nat) : Nat → Int32 := fun j => if (k ≤ j ∧ j < i) ∨ (8 + k ≤ j ∧ j < 8 + i) then S (j + 1) else S j
theorem sh2_0 (S : Nat → Int32) (k : Nat) : sh2 S k k = S := by
  funext j
  unfold sh2
  rw [if_neg (by omega)]
theorem sh2_step (S : Nat → Int32) {k i : Nat} (hk : k ≤ i) (h8 : i < 8) : (fun j => if j = 8 + i then S (8 + i + 1) else if j = i then S (i + 1) else sh2 S k i j) = sh2 S k (i + 1) := by
  funext j
  unfold sh2
  by_cases h1 : j = 8 + i
  · subst h1; rw [if_pos rfl, if_pos (by omega)]
  · rw [if_neg h1]
    by_cases h2 : j = i
    · subst h2; rw [if_pos rfl, if_pos (by omega)]
    · rw [if_neg h2]
      by_cases h3 : (k ≤ j ∧ j < i) ∨ (8 + k ≤ j ∧ j < 8 + i)
      · rw [if_pos h3, if_pos (by omega)]
      · rw [if_neg h3, if_neg (by omega)]
def reE (R : Nat → Int32) (k n : Nat) : Nat → Int32 := fun j => if j = 16 then R 16 - 1 else sh2 (up1 (fun j => woI k (R j)) R (n + 1)) k n j
theorem m_rem_43 {k : Nat} (h8 : n < 8) (hk : k ≤ n) : ∀ (m i q : Nat), i + m = n → k ≤ i → m < q → f_X10_removes_43 q (b + 83) (nI (n + 1)) (nI i) (wr (SK b) (rw2 ia (b + 84) (sh2 (up1 (fun j => woI k (R j)) R (n + 1)) k i)) fi fl qa f) = some (wr (SK b) (rw2 ia (b + 84) (reE R k n)) fi fl qa f) := by
  intro m
  induction m with
  | zero =>
    intro i q hi hki hq
    obtain ⟨q, rfl⟩ : ∃ j, q = j + 1 := ⟨q - 1, by omega⟩
    have : i = n := by omega
    subst this
    rw [f_X10_removes_43, nI_pred, if_pos (nI_le (Nat.le_refl _) (by omega)), R_83_0]
    simp only [Option.bind_some]
    rw [rA16]
    simp only [Option.bind_some]
    rw [show (16 : Int32) = nI 16 from rfl, rS (by omega)]
    simp only [Option.bind_some]
    have e : sh2 (up1 (fun j => woI k (R j)) R (i + 1)) k i 16 = R 16 := by
      unfold sh2
      rw [if_neg (by omega), up1_at _ _ (by omega)]
    rw [e]
    rfl
  | succ m ih =>
    intro i q hi hki hq
    obtain ⟨q, rfl⟩ : ∃ j, q = j + 1 := ⟨q - 1, by omega⟩
    have e := ih (i + 1) q (by omega) (by omega) (by omega)
    rw [← nI_1] at e
    have a1 : sh2 (up1 (fun j => woI k (R j)) R (n + 1)) k i (i + 1) = up1 (fun j => woI k (R j)) R (n + 1) (i + 1) := by
      unfold sh2
      rw [if_neg (by omega)]
    have a2 : sh2 (up1 (fun j => woI k (R j)) R (n + 1)) k i (8 + i + 1) = up1 (fun j => woI k (R j)) R (n + 1) (8 + i + 1) := by
      unfold sh2
      rw [if_neg (by omega)]
    rw [f_X10_removes_43, nI_pred, if_neg (nI_ge (by omega) (by omega)), R_83_0]
    simp only [Option.bind_some]
    rw [n0, nI_1, rA (by omega), a1]
    simp only [Option.bind_some]
    rw [rS (by omega)]
    simp only [Option.bind_some]
    rw [R_83_0]
    simp only [Option.bind_some]
    rw [n8, nI_1, rA (by omega), if_neg (show ¬ 8 + i + 1 = i by omega), a2]
    simp only [Option.bind_some]
    rw [rS (by omega), sh2_step _ hki (by omega)]
    simp only [Option.bind_some]
    rw [← nI_1]
    exact e
theorem m_rem_10 {k : Nat} (h8 : n < 8) (hk : k ≤ n) : ∀ (m i q : Nat), i + m = n + 1 → m < q → f_X10_removes_10 q (b + 83) (nI k) (nI (n + 1)) (nI i) (wr (SK b) (rw2 ia (b + 84) (up1 (fun j => woI k (R j)) R i)) fi fl qa f) = some (wr (SK b) (rw2 ia (b + 84) (reE R k n)) fi fl qa f) := by
  intro m
  induction m with
  | zero =>
    intro i q hi hq
    obtain ⟨q, rfl⟩ : ∃ j, q = j + 1 := ⟨q - 1, by omega⟩
    have : i = n + 1 := by omega
    subst this
    obtain ⟨p, hp⟩ := FU_1000
    rw [f_X10_removes_10, if_pos (nI_le (Nat.le_refl _) (by omega))]
    have e := m_rem_43 (ia := ia) (fi := fi) (fl := fl) (qa := qa) (f := f) (b := b) (R := R) h8 hk (n - k) k FU (by omega) (Nat.le_refl _) (by omega)
    rw [sh2_0] at e
    exact e
  | succ m ih =>
    intro i q hi hq
    obtain ⟨q, rfl⟩ : ∃ j, q = j + 1 := ⟨q - 1, by omega⟩
    have e := ih (i + 1) q (by omega) (by omega)
    rw [← nI_1 i] at e
    rw [f_X10_removes_10, if_neg (nI_ge (by omega) (by omega)), R_83_0]
    simp only [Option.bind_some]
    rw [n0, rA (by omega), up1_at _ _ (Nat.le_refl _)]
    simp only [Option.bind_some]
    unfold f_X10_without
    simp only [Option.bind_some]
    rw [rS (by omega)]
    simp only [Option.bind_some]
    exact (congrArg (fun r => f_X10_removes_10 q (b + 83) (nI k) (nI (n + 1)) (nI i + 1) (wr (SK b) (rw2 ia (b + 84) r) fi fl qa f)) (up1_step (fun j => woI k (R j)) R i (x := woI k (R i)) rfl)).trans e
theorem m_removes {k : Nat} (h8 : n < 8) (hk : k ≤ n) (hn : R 16 = nI (n + 1)) : f_X10_removes (b + 83) (nI k) (wr (SK b) (rw2 ia (b + 84) R) fi fl qa f) = some (wr (SK b) (rw2 ia (b + 84) (reE R k n)) fi fl qa f) := by
  obtain ⟨p, hp⟩ := FU_1000
  unfold f_X10_removes
  rw [R_83_0]
  simp only [Option.bind_some]
  rw [rA16, hn]
  simp only [Option.bind_some]
  have e := m_rem_10 (ia := ia) (fi := fi) (fl := fl) (qa := qa) (f := f) (b := b) (R := R) h8 hk (n + 1) 0 FU (by omega) (by omega)
  rw [up1_0] at e
  exact e
theorem MS.removes (h : MS R (n + 1) L F) (w : WF (n + 1) L F) {k : Nat} (hk : k ≤ n) : MS (reE R k n) n (rL k L) (rF k F) := by
  have h8 := w.2.1
  refine ⟨?_, fun i hi => ?_⟩
  · unfold reE
    rw [if_pos rfl, h.1, nI_pred]
  have hj : (if i < k then i else i + 1) < n + 1 := by split <;> omega
  constructor
  · unfold reE
    rw [if_neg (by omega)]
    have e : sh2 (up1 (fun j => woI k (R j)) R (n + 1)) k n i = woI k (R (if i < k then i else i + 1)) := by
      unfold sh2
      by_cases h1 : i < k
      · rw [if_neg (by omega), if_pos h1, up1_in _ _ (by omega)]
      · rw [if_pos (by omega), if_neg h1, up1_in _ _ (by omega)]
    rw [e, (h.2 _ hj).1]
    exact wo_1 _ (w.L31 hj) k (by omega)
  · unfold reE
    rw [if_neg (by omega)]
    have e : sh2 (up1 (fun j => woI k (R j)) R (n + 1)) k n (8 + i) = R (8 + (if i < k then i else i + 1)) := by
      unfold sh2
      by_cases h1 : i < k
      · rw [if_neg (by omega), if_pos h1, up1_at _ _ (by omega)]
      · rw [if_pos (by omega), if_neg h1, up1_at _ _ (by omega)]; rfl
    rw [e, (h.2 _ hj).2]
    rfl
theorem reE_hi {k : Nat} (h8 : n < 8) {j : Nat} (hj : 17 ≤ j) : reE R k n j = R j := by
  unfold reE sh2
  rw [if_neg (by omega), if_neg (by omega), up1_at _ _ (by omega)]
end MOP2
