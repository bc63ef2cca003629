/-! BOTH SIDES AT THEIR ENDS: what like holds; alike, stage -/
section LIKEE
variable {b s n : Nat} {L F : Nat → Nat} {ia fi : Nat → Nat → Int32} {fl : Nat → Nat → Int64} {qa : Nat → Nat → Option Nat} {f : mmF} {X Y : Nat → Int32} {Ω : mO}
theorem lkR_grow (lk : Nat → Nat) (i : Nat) (X : Nat → Int32) : (fun j => if j = i then nI (lk i) else lkR i lk X j) = lkR (i + 1) lk X := by
  funext j
  unfold lkR
  by_cases h1 : j = i
  · subst h1; rw [if_pos rfl, if_pos (by omega)]
  · rw [if_neg h1]
    by_cases h2 : j < i
    · rw [if_pos h2, if_pos (by omega)]
    · rw [if_neg h2, if_neg (by omega)]
theorem lkR_0 (lk : Nat → Nat) (X : Nat → Int32) : lkR 0 lk X = X := by
  funext j
  exact if_neg (Nat.not_lt_zero _)
theorem c_fl_2 (hs : isSt b s) (h : CS ia fi s n L F) (w : WF n L F) : ∀ (m i q : Nat), i + m = n → m < q → f_X7_findLikes_2 q s (nI i) (wr (SK b) (rw2 (rw2 ia (s + 4) (lkR i (fun _ => 0) X)) (s + 5) (lkR i F Y)) fi fl qa f) = some (cM b s n ia fi fl qa f X Y (CI n L F n).1 (CI n L F n).2) := by
  have h8 := w.2.1
  intro m
  induction m with
  | zero =>
    intro i q hi hm
    obtain ⟨q, rfl⟩ : ∃ k, q = k + 1 := ⟨q - 1, by omega⟩
    obtain ⟨q0, hq0⟩ := FU_1000
    have hin : i = n := by omega
    subst hin
    rw [f_X7_findLikes_2]
    simp only [S_I hs, Option.bind_some, h.1]
    rw [if_pos (Int32.le_refl _)]
    exact c_fl_37 hs h w i 0 FU (by omega) (by omega)
  | succ m ih =>
    intro i q hi hm
    obtain ⟨q, rfl⟩ : ∃ k, q = k + 1 := ⟨q - 1, by omega⟩
    have hin : i < n := by omega
    have hlt : ¬ nI n ≤ nI i := nI_ge (by omega) (by omega)
    have e54 : s + 4 ≠ s + 5 := by omega
    have e25 : s + 2 ≠ s + 5 := by omega
    have e24 : s + 2 ≠ s + 4 := by omega
    rw [f_X7_findLikes_2]
    simp only [S_I hs, Option.bind_some, h.1, if_neg hlt, S_R4 hs, S_sA hs (Or.inr (Or.inr (Or.inl rfl))) (show i < 8 by omega), S_R5 hs, S_R2 hs, S_A hs (Or.inr (Or.inl rfl)) (show i < 8 by omega), S_sA hs (Or.inr (Or.inr (Or.inr rfl))) (show i < 8 by omega), u2_is, rw2_s, rw2_n _ _ e54, rw2_n _ _ e25, rw2_n _ _ e24, (h.2 i hin).2]
    rw [rw2_n _ _ (Ne.symm e54), rw2_s, rw2_comm _ _ _ (Ne.symm e54), rw2_rw2, rw2_rw2, lkR_grow F i Y, show (0 : Int32) = nI ((fun _ => 0) i) from rfl, lkR_grow (fun _ => 0) i X, nI_1]
    exact ih (i + 1) q (by omega) (by omega)
theorem c_findLikes (hs : isSt b s) (h : CS ia fi s n L F) (w : WF n L F) : f_X7_findLikes s (wr (SK b) ia fi fl qa f) = some (cM b s n ia fi fl qa f (ia (s + 4)) (ia (s + 5)) (CI n L F n).1 (CI n L F n).2) := by
  obtain ⟨q, hq⟩ := FU_1000
  have h8 := w.2.1
  have e := c_fl_2 (X := ia (s + 4)) (Y := ia (s + 5)) (fl := fl) (qa := qa) (f := f) hs h w n 0 FU (by omega) (by omega)
  rw [lkR_0, lkR_0, rw2_id, rw2_id] at e
  exact e
theorem m_fl_24 (h : MS (ia (b + 84)) n L F) (w : WF n L F) {i : Nat} (hi : i < n) {k10 : Nat → Int32 → Int32 → mmF → Option (mmF)} : ∀ (m t q : Nat), t + m = n → m < q → f_X10_findsLike_24 k10 q (b + 83) (nI n) (nI i) (nI t) (wr (SK b) (rw2 ia (b + 87) (fun j => if j = i then nI (eqB F i t) else X j)) fi fl qa f) = k10 (b + 83) (nI n) (nI (i + 1)) (wr (SK b) (rw2 ia (b + 87) (fun j => if j = i then nI (eqB F i n) else X j)) fi fl qa f) := by
  have h8 := w.2.1
  intro m
  induction m with
  | zero =>
    intro t q ht hm
    obtain ⟨q, rfl⟩ : ∃ k, q = k + 1 := ⟨q - 1, by omega⟩
    have hin : t = n := by omega
    subst hin
    rw [f_X10_findsLike_24, if_pos (Int32.le_refl _), nI_1]
  | succ m ih =>
    intro t q ht hm
    obtain ⟨q, rfl⟩ : ∃ k, q = k + 1 := ⟨q - 1, by omega⟩
    have htn : t < n := by omega
    have hlt : ¬ nI n ≤ nI t := nI_ge (by omega) (by omega)
    have e0 : b + 84 ≠ b + 87 := by omega
    have q1 : (nI (F i) = nI (F t)) = (F i = F t) := propext (nI_eq (Nat.lt_trans (w.2.2 i hi).2 (by decide)) (Nat.lt_trans (w.2.2 t htn).2 (by decide)))
    rw [f_X10_findsLike_24, if_neg hlt]
    simp only [R_83_5, An_87 (show i < 8 by omega), Option.bind_some, rw2_s, if_true, R_83_0, n8, An_84 (show 8 + i < 172 by omega), An_84 (show 8 + t < 172 by omega), rw2_n _ _ e0, (h.2 i hi).2, (h.2 t htn).2, q1]
    have fin : ∀ x : Nat, x = (if F i = F t then 2 ^ t else 0) → f_X10_findsLike_64 k10 (fun a0 a1 a2 a3 a4 => f_X10_findsLike_24 k10 q a0 a1 a2 a3 a4) (b + 83) (nI n) (nI i) (nI t) (b + 87) (nI i) (nI (eqB F i t)) (nI x) (wr (SK b) (rw2 ia (b + 87) (fun j => if j = i then nI (eqB F i t) else X j)) fi fl qa f) = k10 (b + 83) (nI n) (nI (i + 1)) (wr (SK b) (rw2 ia (b + 87) (fun j => if j = i then nI (eqB F i n) else X j)) fi fl qa f) := by
      intro x hx
      unfold f_X10_findsLike_64
      simp only [sAn_87 (show i < 8 by omega), Option.bind_some, u2_rw2, fa_or, nI_1]
      have e : (fun j => if j = i then nI (eqB F i t ||| x) else if j = i then nI (eqB F i t) else X j) = fun j => if j = i then nI (eqB F i (t + 1)) else X j := by
        funext j
        by_cases hj : j = i
        · rw [if_pos hj, if_pos hj, hx]; rfl
        · rw [if_neg hj, if_neg hj, if_neg hj]
      rw [e]
      exact ih (t + 1) q (by omega) (by omega)
    by_cases hF : F i = F t
    · rw [if_pos hF, bt_shl (show t < 32 by omega)]
      exact fin _ (if_pos hF).symm
    · rw [if_neg hF]
      exact fin 0 (if_neg hF).symm
theorem m_fl_10 (h : MS (ia (b + 84)) n L F) (w : WF n L F) : ∀ (m i q : Nat), i + m = n → m < q → ∃ lk : Nat → Nat, LK n L F lk ∧ (∀ s t, s < n → t < n → (lk s).testBit t = true → MtL L lk s t ∧ MtL L lk t s) ∧ f_X10_findsLike_10 q (b + 83) (nI n) (nI i) (wr (SK b) (rw2 ia (b + 87) (lkR i (fun j => eqB F j n) X)) fi fl qa f) = some (wr (SK b) (rw2 ia (b + 87) (lkR n lk X)) fi fl qa f) := by
  have h8 := w.2.1
  have hL : ∀ i, i < n → L i < 2 ^ n := fun i hi => (w.2.2 i hi).1
  obtain ⟨q0, hq0⟩ := FU_1000
  intro m
  induction m with
  | zero =>
    intro i q hi hm
    obtain ⟨q, rfl⟩ : ∃ k, q = k + 1 := ⟨q - 1, by omega⟩
    have hin : i = n := by omega
    subst hin
    have hI : LK i L F (fun j => eqB F j i) := ⟨fun s hs => eqB_lt _ _ _, fun s t hs ht hb => by
      rw [eqB_bit, Bool.and_eq_true, decide_eq_true_eq, decide_eq_true_eq] at hb
      refine ⟨?_, hb.2⟩
      rw [eqB_bit, Bool.and_eq_true, decide_eq_true_eq, decide_eq_true_eq]
      exact ⟨hs, hb.2.symm⟩, fun s t hA => by
      rw [eqB_bit, Bool.and_eq_true, decide_eq_true_eq, decide_eq_true_eq]
      exact ⟨hA.lt.2, hA.fc⟩⟩
    have hz : mz (fun j => eqB F j i) ≤ 64 := cnP_le _ _
    obtain ⟨lk, h1, h2, h3⟩ := m_fl_80 (X := X) (fi := fi) (fl := fl) (qa := qa) (f := f) h w 64 FU (fun j => eqB F j i) hz (by omega) hI
    exact ⟨lk, h1, h2, by rw [f_X10_findsLike_10, if_pos (Int32.le_refl _)]; exact h3⟩
  | succ m ih =>
    intro i q hi hm
    obtain ⟨q, rfl⟩ : ∃ k, q = k + 1 := ⟨q - 1, by omega⟩
    have hin : i < n := by omega
    have hlt : ¬ nI n ≤ nI i := nI_ge (by omega) (by omega)
    obtain ⟨lk, h1, h2, h3⟩ := ih (i + 1) q (by omega) (by omega)
    refine ⟨lk, h1, h2, ?_⟩
    rw [f_X10_findsLike_10, if_neg hlt]
    simp only [R_83_5, sAn_87 (show i < 8 by omega), Option.bind_some, u2_rw2]
    have e := m_fl_24 (X := lkR i (fun j => eqB F j n) X) (fi := fi) (fl := fl) (qa := qa) (f := f) (k10 := fun a0 a1 a2 a3 => f_X10_findsLike_10 q a0 a1 a2 a3) h w hin n 0 FU (by omega) (by omega)
    rw [show (0 : Int32) = nI (eqB F i 0) from rfl, show nI (eqB F i 0) = nI 0 from rfl] at *
    refine Eq.trans e ?_
    rw [lkR_grow (fun j => eqB F j n) i X]
    exact h3
theorem m_findsLike (h : MS (ia (b + 84)) n L F) (w : WF n L F) : ∃ lk : Nat → Nat, (∀ s, s < n → lk s < 2 ^ n ∧ ∀ t, (lk s).testBit t = true ↔ Al n L F s t) ∧ f_X10_findsLike (b + 83) (wr (SK b) ia fi fl qa f) = some (wr (SK b) (rw2 ia (b + 87) (lkR n lk (ia (b + 87)))) fi fl qa f) := by
  obtain ⟨q, hq⟩ := FU_1000
  have h8 := w.2.1
  obtain ⟨lk, h1, h2, h3⟩ := m_fl_10 (X := ia (b + 87)) (fi := fi) (fl := fl) (qa := qa) (f := f) h w n 0 FU (by omega) (by omega)
  refine ⟨lk, fun s hs => ⟨h1.1 s hs, fun t => h1.fin (fun i hi => (w.2.2 i hi).1) h2 hs⟩, ?_⟩
  rw [lkR_0, rw2_id] at h3
  unfold f_X10_findsLike
  simp only [R_83_0, A16, Option.bind_some, h.1]
  exact h3
theorem m_lowest_2 {a k : Nat} (ha : a < 2 ^ 31) (hb : a.testBit k = true) (hl : ∀ j, j < k → a.testBit j = false) (hk : k < 32) (μ : mmF) : ∀ (m i q : Nat), i + m = k → m < q → f_X10_lowest_2 μ q (nI a) (nI i) = some (nI k) := by
  intro m
  induction m with
  | zero =>
    intro i q hi hm
    obtain ⟨q, rfl⟩ : ∃ k, q = k + 1 := ⟨q - 1, by omega⟩
    have : i = k := by omega
    subst this
    rw [f_X10_lowest_2, if_neg (fun e => by rw [bt_0 ha hk, hb] at e; cases e)]
  | succ m ih =>
    intro i q hi hm
    obtain ⟨q, rfl⟩ : ∃ k, q = k + 1 := ⟨q - 1, by omega⟩
    rw [f_X10_lowest_2, if_pos ((bt_0 ha (by omega)).mpr (hl i (by omega))), nI_1]
    exact ih (i + 1) q (by omega) (by omega)
theorem m_lowest {a k : Nat} (ha : a < 2 ^ 31) (hb : a.testBit k = true) (hl : ∀ j, j < k → a.testBit j = false) (hk : k < 32) (μ : mmF) : f_X10_lowest (nI a) μ = some (nI k) := by
  obtain ⟨q, hq⟩ := FU_1000
  exact m_lowest_2 ha hb hl hk μ k 0 FU (by omega) (by omega)
/-- what the class writes for its own use hides nothing -/
theorem CR.scr {ia1 fi1 : Nat → Nat → Int32} (h : CR b ia fi qa f Ω) (e : ∀ a : Nat, a < b + 5 ∨ (b + 8 ≤ a ∧ a < b + 18) ∨ (b + 20 ≤ a ∧ a < b + 24) ∨ a = b + 29 ∨ a = b + 35 ∨ a = b + 36 ∨ b + 55 ≤ a → ia1 a = ia a) (e2 : ∀ a j : Nat, a < b + 16 ∨ (a = b + 16 ∧ j = 0) ∨ (b + 17 ≤ a ∧ a < b + 20) ∨ a = b + 33 ∨ b + 55 ≤ a → fi1 a j = fi a j) : CR b ia1 fi1 qa f Ω ∧ highE b ia fi ia1 fi1 := by
  obtain ⟨h1, ⟨ad, hA, hI, hH⟩, h3, ⟨h4, h4b⟩, ⟨h5, h5b⟩, c1, c2, c3, c4, c5⟩ := h
  refine ⟨⟨?_, ⟨ad, hA, hI, fun q hq hq4 => ?_⟩, ?_, ⟨?_, fun τ hτ => ?_⟩, ⟨?_, fun i hi => ?_⟩, c1.cg (e _ (by omega)) (e _ (by omega)) (e2 _ _ (by omega)), c2, c3, fun i hi => ?_, fun i hi => ?_⟩, fun a ha => ⟨e a (by omega), funext fun j => e2 a j (by omega)⟩⟩
  · exact h1.congr (e2 _ _ (by omega)) (e _ (by omega)) (e _ (by omega)) rfl
  · obtain ⟨k, hk, ha⟩ := (hA q hq4).2
    exact (hH q hq hq4).congr (e2 _ _ (by omega)) (e _ (by omega)) (e _ (by omega)) rfl
  · rw [e2 _ _ (by omega)]; exact h3
  · rw [e2 _ _ (by omega)]; exact h4
  · exact (h4b τ hτ).congr (e2 _ _ (by omega)) (e _ (by omega)) (e _ (by omega)) rfl
  · rw [e2 _ _ (by omega)]; exact h5
  · rw [e _ (by omega)]; exact h5b i hi
  · rw [e _ (by omega)]; exact c4 i hi
  · rw [e _ (by omega)]; exact c5 i hi
theorem MR.scr {ia1 fi1 : Nat → Nat → Int32} (h : MR b ia fi Ω) (e : ∀ a : Nat, a < b + 87 ∨ a = b + 89 → ia1 a = ia a) (e2 : ∀ a j : Nat, a < b + 83 ∨ (a = b + 83 ∧ (j = 2 ∨ j = 4 ∨ j = 7)) → fi1 a j = fi a j) : MR b ia1 fi1 Ω ∧ lowE b ia fi ia1 fi1 := by
  obtain ⟨h1, h2, h3, ⟨h4, h4b⟩, h5, h6⟩ := h
  refine ⟨⟨?_, fun q hq => ?_, ?_, ⟨?_, fun τ hτ => ?_⟩, ?_, fun i hi => ?_⟩, fun a ha => ⟨e a (by omega), funext fun j => e2 a j (by omega)⟩⟩
  · rw [e _ (by omega)]; exact h1
  · rw [e _ (by omega)]; exact h2 q hq
  · rw [e2 _ _ (by omega)]; exact h3
  · rw [e2 _ _ (by omega)]; exact h4
  · rw [e _ (by omega)]; exact h4b τ hτ
  · rw [e2 _ _ (by omega)]; exact h5
  · rw [e _ (by omega)]; exact h6 i hi
end LIKEE
section METH6
variable {b : Nat} {f : mmF} {Ω : mO}
/-- behind the class's search: the object holds the same, like tells the lowest ones -/
theorem C_like {ia fi : Nat → Nat → Int32} {fl : Nat → Nat → Int64} {qa : Nat → Nat → Option Nat} (h : CR b ia fi qa f Ω) (w : WO Ω) : ∃ (ia1 : Nat → Nat → Int32) (lk : Nat → Nat), f_X7_findLikes (b + 1) (wr (SK b) ia fi fl qa f) = some (wr (SK b) ia1 fi fl qa f) ∧ CR b ia1 fi qa f Ω ∧ highE b ia fi ia1 fi ∧ ∀ v, v < Ω.1.1 → ia1 (b + 5) v = nI (lk v) ∧ lk v ≤ v ∧ isLow (Al Ω.1.1 Ω.1.2.1 Ω.1.2.2.1) v (lk v) := by
  have hb1 : isSt b (b + 1) := Or.inl rfl
  have e := c_findLikes (fl := fl) (qa := qa) (f := f) hb1 h.1.1 w.1.1
  have hS := h.scr (ia1 := rw2 (rw2 ia (b + 1 + 4) (lkR Ω.1.1 (CI Ω.1.1 Ω.1.2.1 Ω.1.2.2.1 Ω.1.1).1 (ia (b + 1 + 4)))) (b + 1 + 5) (lkR Ω.1.1 (CI Ω.1.1 Ω.1.2.1 Ω.1.2.2.1 Ω.1.1).2 (ia (b + 1 + 5)))) (fi1 := fi) (fun a ha => by rw [rw2_n _ _ (by omega), rw2_n _ _ (by omega)]) (fun a j ha => rfl)
  refine ⟨_, (CI Ω.1.1 Ω.1.2.1 Ω.1.2.2.1 Ω.1.1).1, e, hS.1, hS.2, fun v hv => ⟨?_, CI_le _ _ _ _ _, CI_fin (fun i hi => (w.1.1.2.2 i hi).1) w.1.1.1 hv⟩⟩
  rw [rw2_n _ _ (by omega), rw2_s, lkR_at hv]
theorem M_like {ia fi : Nat → Nat → Int32} {fl : Nat → Nat → Int64} {qa : Nat → Nat → Option Nat} (h : MR b ia fi Ω) (w : WO Ω) : ∃ (ia1 : Nat → Nat → Int32) (lk : Nat → Nat), f_X10_findsLike (b + 83) (wr (SK b) ia fi fl qa f) = some (wr (SK b) ia1 fi fl qa f) ∧ MR b ia1 fi Ω ∧ lowE b ia fi ia1 fi ∧ ∀ v, v < Ω.1.1 → ia1 (b + 87) v = nI (lk v) ∧ lk v < 256 ∧ ∀ t, (lk v).testBit t = true ↔ Al Ω.1.1 Ω.1.2.1 Ω.1.2.2.1 v t := by
  obtain ⟨lk, h1, h2⟩ := m_findsLike (fi := fi) (fl := fl) (qa := qa) (f := f) h.1.1 w.1.1
  have hS := h.scr (ia1 := rw2 ia (b + 87) (lkR Ω.1.1 lk (ia (b + 87)))) (fi1 := fi) (fun a ha => rw2_n _ _ (by omega)) (fun a j ha => rfl)
  refine ⟨_, lk, h2, hS.1, hS.2, fun v hv => ⟨?_, Nat.lt_of_lt_of_le (h1 v hv).1 (p8 w.1.1.2.1), (h1 v hv).2⟩⟩
  rw [rw2_s, lkR_at hv]
theorem alP (w : WO Ω) : (∀ a c, Al Ω.1.1 Ω.1.2.1 Ω.1.2.2.1 a c → Al Ω.1.1 Ω.1.2.1 Ω.1.2.2.1 c a) ∧ ∀ a c d, Al Ω.1.1 Ω.1.2.1 Ω.1.2.2.1 a c → Al Ω.1.1 Ω.1.2.1 Ω.1.2.2.1 c d → Al Ω.1.1 Ω.1.2.1 Ω.1.2.2.1 a d := ⟨fun a c h => h.sy, fun a c d h h2 => h.tr h2⟩
theorem truth_1 (f : mmF) : f_X9_truth 1 f = some 1 := by
  unfold f_X9_truth
  rw [if_neg (by decide)]
theorem truth_0 (f : mmF) : f_X9_truth 0 f = some 0 := by
  unfold f_X9_truth
  rw [if_pos rfl]
theorem t_alike (w : WO Ω) (x y : Int32) : Meth b f Ω (fun μ => f_X9_alike b x y μ) (fun μ => f_X10_alike (b + 83) x y μ) := by
  have wf := w.1.1
  have hb1 : isSt b (b + 1) := Or.inl rfl
  have n1 := wf.1
  have n8' := wf.2.1
  by_cases hx : ∃ k, k < Ω.1.1 ∧ x = nI k
  · obtain ⟨k, hk, rfl⟩ := hx
    by_cases hy : ∃ j, j < Ω.1.1 ∧ y = nI j
    · obtain ⟨j, hj, rfl⟩ := hy
      refine ⟨@ite Int32 (Al Ω.1.1 Ω.1.2.1 Ω.1.2.2.1 k j) (Classical.propDecidable _) 1 0, Ω, w, fun ia fi fl qa h => ?_, fun ia fi fl qa h => ?_⟩
      · show CRes b f ia fi (f_X9_alike b (nI k) (nI j) _) _ _
        obtain ⟨ia1, lk, e, h1, hh, h2⟩ := C_like (fl := fl) h w
        have q1 : (nI (lk k) = nI (lk j)) = (Al Ω.1.1 Ω.1.2.1 Ω.1.2.2.1 k j) := by
          have g1 := (h2 k hk).2.1
          have g2 := (h2 j hj).2.1
          rw [propext (nI_eq (a := lk k) (b := lk j) (by omega) (by omega))]
          exact propext (low_eq (alP w).1 (alP w).2 (h2 k hk).2.2 (h2 j hj).2.2)
        unfold f_X9_alike f_X9_alike_57
        simp only [R_0_0, S_ck hb1, isStage_t hb1 h.1.1.1 hk (by omega), isStage_t hb1 h.1.1.1 hj (by omega), Option.bind_some, i10, if_false, e, S_R4 hb1, S_A hb1 (Or.inr (Or.inr (Or.inl rfl))) (show k < 8 by omega), S_A hb1 (Or.inr (Or.inr (Or.inl rfl))) (show j < 8 by omega), truth_1, truth_0]
        rw [(h2 k hk).1, (h2 j hj).1]
        by_cases hA : Al Ω.1.1 Ω.1.2.1 Ω.1.2.2.1 k j
        · rw [if_pos (q1.mpr hA), if_pos hA]
          exact ⟨_, _, _, _, rfl, h1, hh⟩
        · rw [if_neg (fun e => hA (q1.mp e)), if_neg hA]
          exact ⟨_, _, _, _, rfl, h1, hh⟩
      · show MRes b f ia fi qa (f_X10_alike (b + 83) (nI k) (nI j) _) _ _
        obtain ⟨ia1, lk, e, h1, hl, h2⟩ := M_like (fl := fl) (qa := qa) (f := f) h w
        unfold f_X10_alike
        simp only [ck_83, m_noS_t h.1.1.1 hk (by omega), m_noS_t h.1.1.1 hj (by omega), Option.bind_some, i00, if_true, e, R_83_5, An_87 (show k < 8 by omega)]
        rw [(h2 k hk).1, bt_get (Nat.lt_trans (h2 k hk).2.1 (by decide)) (by omega)]
        by_cases hA : Al Ω.1.1 Ω.1.2.1 Ω.1.2.2.1 k j
        · rw [if_pos (((h2 k hk).2.2 j).mpr hA), if_pos hA]
          exact ⟨_, _, _, rfl, h1, hl⟩
        · rw [if_neg (fun e => hA (((h2 k hk).2.2 j).mp e)), if_neg hA]
          exact ⟨_, _, _, rfl, h1, hl⟩
    · have hy2 : ∀ k, k < Ω.1.1 → y ≠ nI k := fun k hk e => hy ⟨k, hk, e⟩
      refine ⟨-1, Ω, w, fun ia fi fl qa h => ?_, fun ia fi fl qa h => ?_⟩
      · show CRes b f ia fi (f_X9_alike b (nI k) y _) _ _
        unfold f_X9_alike
        simp only [R_0_0, S_ck hb1, isStage_t hb1 h.1.1.1 hk (by omega), isStage_f hb1 h.1.1.1 (by omega) hy2, Option.bind_some, i10, if_false, i00, if_true]
        exact CRes.same h
      · show MRes b f ia fi qa (f_X10_alike (b + 83) (nI k) y _) _ _
        unfold f_X10_alike
        simp only [ck_83, m_noS_t h.1.1.1 hk (by omega), m_noS_f h.1.1.1 n1 (by omega) hy2, Option.bind_some, i00, if_true, i10, if_false]
        exact MRes.same h
  · have hx2 : ∀ k, k < Ω.1.1 → x ≠ nI k := fun k hk e => hx ⟨k, hk, e⟩
    refine ⟨-1, Ω, w, fun ia fi fl qa h => ?_, fun ia fi fl qa h => ?_⟩
    · show CRes b f ia fi (f_X9_alike b x y _) _ _
      unfold f_X9_alike
      simp only [R_0_0, S_ck hb1, isStage_f hb1 h.1.1.1 (by omega) hx2, Option.bind_some, i00, if_true]
      exact CRes.same h
    · show MRes b f ia fi qa (f_X10_alike (b + 83) x y _) _ _
      unfold f_X10_alike
      simp only [ck_83, m_noS_f h.1.1.1 n1 (by omega) hx2, Option.bind_some, i10, if_false]
      exact MRes.same h
/-- the lowest that is alike, told by the reference -/
theorem m_low (w : WO Ω) {v l : Nat} {lk : Nat} (hv : v < Ω.1.1) (hlk : lk < 256) (hb : ∀ t, lk.testBit t = true ↔ Al Ω.1.1 Ω.1.2.1 Ω.1.2.2.1 v t) (hl : isLow (Al Ω.1.1 Ω.1.2.1 Ω.1.2.2.1) v l) (μ : mmF) : f_X10_lowest (nI lk) μ = some (nI l) := by
  have n8' := w.1.1.2.1
  have := hl.1.lt.1
  refine m_lowest (Nat.lt_trans hlk (by decide)) ((hb l).mpr hl.1.sy) (fun j hj => ?_) (by omega) μ
  cases hx : lk.testBit j with
  | false => rfl
  | true => exact absurd ((hb j).mp hx).sy (hl.2 j hj)
theorem low_of (w : WO Ω) {v : Nat} (hv : v < Ω.1.1) : ∃ l, isLow (Al Ω.1.1 Ω.1.2.1 Ω.1.2.2.1) v l := low_ex (Al.rf (fun i hi => (w.1.1.2.2 i hi).1) hv)
theorem low_un (w : WO Ω) {v l l1 : Nat} (h : isLow (Al Ω.1.1 Ω.1.2.1 Ω.1.2.2.1) v l) (h1 : isLow (Al Ω.1.1 Ω.1.2.1 Ω.1.2.2.1) v l1) : l = l1 :=
  (low_eq (alP w).1 (alP w).2 h h1).mpr (h.1.sy.tr h.1)
theorem t_stage (w : WO Ω) (x y : Int32) : Meth b f Ω (fun μ => f_X9_stage b x y μ) (fun μ => f_X10_stage (b + 83) x y μ) := by
  have wf := w.1.1
  have hb1 : isSt b (b + 1) := Or.inl rfl
  have n1 := wf.1
  have n8' := wf.2.1
  by_cases hx : ∃ k, k < Ω.1.1 ∧ x = nI k
  · obtain ⟨k, hk, rfl⟩ := hx
    by_cases y0 : y = 0
    · refine ⟨nI (Ω.1.2.1 k), Ω, w, fun ia fi fl qa h => ?_, fun ia fi fl qa h => ?_⟩
      · show CRes b f ia fi (f_X9_stage b (nI k) y _) _ _
        unfold f_X9_stage
        simp only [R_0_0, S_ck hb1, isStage_t hb1 h.1.1.1 hk (by omega), Option.bind_some, i10, if_false, if_pos y0, S_R1 hb1, S_A hb1 (Or.inl rfl) (show k < 8 by omega), (h.1.1.2 k hk).1]
        exact CRes.same h
      · show MRes b f ia fi qa (f_X10_stage (b + 83) (nI k) y _) _ _
        unfold f_X10_stage
        simp only [ck_83, m_noS_t h.1.1.1 hk (by omega), Option.bind_some, i00, if_true, if_pos y0, R_83_0, n0, An_84 (show k < 172 by omega), (h.1.1.2 k hk).1]
        exact MRes.same h
    by_cases y1 : y = 1
    · refine ⟨nI (colN Ω.1.2.1 k Ω.1.1), Ω, w, fun ia fi fl qa h => ?_, fun ia fi fl qa h => ?_⟩
      · show CRes b f ia fi (f_X9_stage b (nI k) y _) _ _
        unfold f_X9_stage
        simp only [R_0_0, S_ck hb1, isStage_t hb1 h.1.1.1 hk (by omega), Option.bind_some, i10, if_false, if_neg y0, if_pos y1, c_earlier hb1 h.1.1 wf (show k < 32 by omega)]
        exact CRes.same h
      · show MRes b f ia fi qa (f_X10_stage (b + 83) (nI k) y _) _ _
        unfold f_X10_stage
        simp only [ck_83, m_noS_t h.1.1.1 hk (by omega), Option.bind_some, i00, if_true, if_neg y0, if_pos y1, m_leadingTo h.1.1 wf (show k < 32 by omega)]
        exact MRes.same h
    by_cases y2 : y = 2
    · refine ⟨nI (Ω.1.2.2.1 k), Ω, w, fun ia fi fl qa h => ?_, fun ia fi fl qa h => ?_⟩
      · show CRes b f ia fi (f_X9_stage b (nI k) y _) _ _
        unfold f_X9_stage
        simp only [R_0_0, S_ck hb1, isStage_t hb1 h.1.1.1 hk (by omega), Option.bind_some, i10, if_false, if_neg y0, if_neg y1, if_pos y2, S_R2 hb1, S_A hb1 (Or.inr (Or.inl rfl)) (show k < 8 by omega), (h.1.1.2 k hk).2]
        exact CRes.same h
      · show MRes b f ia fi qa (f_X10_stage (b + 83) (nI k) y _) _ _
        unfold f_X10_stage
        simp only [ck_83, m_noS_t h.1.1.1 hk (by omega), Option.bind_some, i00, if_true, if_neg y0, if_neg y1, if_pos y2, R_83_0, n8, An_84 (show 8 + k < 172 by omega), (h.1.1.2 k hk).2]
        exact MRes.same h
    by_cases y3 : y = 3
    · obtain ⟨l, hl⟩ := low_of w hk
      refine ⟨nI l, Ω, w, fun ia fi fl qa h => ?_, fun ia fi fl qa h => ?_⟩
      · show CRes b f ia fi (f_X9_stage b (nI k) y _) _ _
        obtain ⟨ia1, lk, e, h1, hh, h2⟩ := C_like (fl := fl) h w
        unfold f_X9_stage
        simp only [R_0_0, S_ck hb1, isStage_t hb1 h.1.1.1 hk (by omega), Option.bind_some, i10, if_false, if_neg y0, if_neg y1, if_neg y2, if_pos y3, e, S_R4 hb1, S_A hb1 (Or.inr (Or.inr (Or.inl rfl))) (show k < 8 by omega)]
        rw [(h2 k hk).1, low_un w (h2 k hk).2.2 hl]
        exact ⟨_, _, _, _, rfl, h1, hh⟩
      · show MRes b f ia fi qa (f_X10_stage (b + 83) (nI k) y _) _ _
        obtain ⟨ia1, lk, e, h1, hh, h2⟩ := M_like (fl := fl) (qa := qa) (f := f) h w
        unfold f_X10_stage
        simp only [ck_83, m_noS_t h.1.1.1 hk (by omega), Option.bind_some, i00, if_true, if_neg y0, if_neg y1, if_neg y2, if_pos y3, e, R_83_5, An_87 (show k < 8 by omega), (h2 k hk).1, m_low w hk (h2 k hk).2.1 (h2 k hk).2.2 hl]
        exact ⟨_, _, _, rfl, h1, hh⟩
    · refine ⟨-2, Ω, w, fun ia fi fl qa h => ?_, fun ia fi fl qa h => ?_⟩
      · show CRes b f ia fi (f_X9_stage b (nI k) y _) _ _
        unfold f_X9_stage
        simp only [R_0_0, S_ck hb1, isStage_t hb1 h.1.1.1 hk (by omega), Option.bind_some, i10, if_false, if_neg y0, if_neg y1, if_neg y2, if_neg y3]
        exact CRes.same h
      · show MRes b f ia fi qa (f_X10_stage (b + 83) (nI k) y _) _ _
        unfold f_X10_stage
        simp only [ck_83, m_noS_t h.1.1.1 hk (by omega), Option.bind_some, i00, if_true, if_neg y0, if_neg y1, if_neg y2, if_neg y3]
        exact MRes.same h
  · have hx2 : ∀ k, k < Ω.1.1 → x ≠ nI k := fun k hk e => hx ⟨k, hk, e⟩
    refine ⟨-1, Ω, w, fun ia fi fl qa h => ?_, fun ia fi fl qa h => ?_⟩
    · show CRes b f ia fi (f_X9_stage b x y _) _ _
      unfold f_X9_stage
      simp only [R_0_0, S_ck hb1, isStage_f hb1 h.1.1.1 (by omega) hx2, Option.bind_some, i00, if_true]
      exact CRes.same h
    · show MRes b f ia fi qa (f_X10_stage (b + 83) x y _) _ _
      unfold f_X10_stage
      simp only [ck_83, m_noS_f h.1.1.1 n1 (by omega) hx2, Option.bind_some, i10, if_false]
      exact MRes.same h
end METH6
