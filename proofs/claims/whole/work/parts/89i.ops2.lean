/-! The class's connect and takeOut -/
section OP2
variable {b s n : Nat} {L F : Nat → Nat} {ia fi : Nat → Nat → Int32} {fl : Nat → Nat → Int64} {qa : Nat → Nat → Option Nat} {f : mmF}
def coL (g : Nat → Int32) (bef : Int32) (to j : Nat) : Int32 := g j ||| (if ((bef >>> (nI j &&& 31)) &&& 1) = 0 then 0 else g to)
theorem coL_to (g : Nat → Int32) (bef : Int32) (to : Nat) : coL g bef to to = g to := by
  unfold coL
  split
  · exact Int32.or_zero
  · exact Int32.or_self
theorem connect_9 (h : isSt b s) {fr to : Nat} (bef : Int32) (hn : fi s 0 = nI n) (h8 : n ≤ 8) (hf : fr < n) (ht : to < n) : ∀ (m i q : Nat), i + m = n → m < q → f_X7_connect_9 q s (nI fr) (nI to) bef (nI i) (wr (SK b) (rw2 ia (s + 1) (fun j => if j < i then coL (ia (s + 1)) bef to j else ia (s + 1) j)) fi fl qa f) = some (wr (SK b) (rw2 (rw2 ia (s + 1) (fun j => if j < n then coL (ia (s + 1)) bef to j else ia (s + 1) j)) (s + 2) (fun j => if j < n then teL (ia (s + 2)) (ia (s + 1) to) (ia (s + 2) fr) j else ia (s + 2) j)) fi fl qa f) := by
  intro m
  induction m with
  | zero =>
    intro i q hi hq
    obtain ⟨q, rfl⟩ : ∃ j, q = j + 1 := ⟨q - 1, by omega⟩
    have : i = n := by omega
    subst this
    rw [f_X7_connect_9, S_I h]
    simp only [Option.bind_some]
    rw [hn, if_pos (nI_le (Nat.le_refl _) (by omega)), S_R1 h]
    simp only [Option.bind_some]
    rw [S_A h (Or.inl rfl) (by omega)]
    simp only [Option.bind_some]
    rw [S_R2 h]
    simp only [Option.bind_some]
    rw [S_A h (Or.inr (Or.inl rfl)) (by omega)]
    simp only [Option.bind_some]
    rw [S_ck h]
    simp only [Option.bind_some]
    rw [rw2_s, rw2_n _ _ (show s + 2 ≠ s + 1 by omega), if_pos ht, coL_to, teach h hn h8, rw2_n _ _ (show s + 2 ≠ s + 1 by omega)]
    rfl
  | succ m ih =>
    intro i q hi hq
    obtain ⟨q, rfl⟩ : ∃ j, q = j + 1 := ⟨q - 1, by omega⟩
    rw [f_X7_connect_9, S_I h]
    simp only [Option.bind_some]
    rw [hn, if_neg (nI_ge (by omega) (by omega)), S_R1 h]
    simp only [Option.bind_some]
    rw [S_A h (Or.inl rfl) (by omega), has_eq, rw2_s]
    simp only [Option.bind_some]
    have e := ih (i + 1) q (by omega) (by omega)
    rw [if_neg (show ¬ i < i by omega)]
    by_cases hc : ((bef >>> (nI i &&& 31)) &&& 1) = 0
    · rw [if_pos hc, if_pos rfl]
      unfold f_X7_connect_45
      rw [S_sA h (Or.inl rfl) (by omega), u2_rw2, row_step (g := coL (ia (s + 1)) bef to) (hx := by unfold coL; rw [if_pos hc])]
      simp only [Option.bind_some]
      rw [nI_1]
      exact e
    · rw [if_neg hc, if_neg (by decide)]
      rw [S_A h (Or.inl rfl) (by omega), rw2_s]
      simp only [Option.bind_some]
      have et : (if to < i then coL (ia (s + 1)) bef to to else ia (s + 1) to) = ia (s + 1) to := by
        split
        · exact coL_to _ _ _
        · rfl
      rw [et]
      unfold f_X7_connect_45
      rw [S_sA h (Or.inl rfl) (by omega), u2_rw2, row_step (g := coL (ia (s + 1)) bef to) (hx := by unfold coL; rw [if_neg hc])]
      simp only [Option.bind_some]
      rw [nI_1]
      exact e
theorem connect (h : isSt b s) {fr to : Nat} (hn : fi s 0 = nI n) (h8 : n ≤ 8) (hf : fr < n) (ht : to < n) : f_X7_connect s (nI fr) (nI to) (wr (SK b) ia fi fl qa f) = some (wr (SK b) (rw2 (rw2 ia (s + 1) (fun j => if j < n then coL (ia (s + 1)) (colF (ia (s + 1)) (nI fr) n) to j else ia (s + 1) j)) (s + 2) (fun j => if j < n then teL (ia (s + 2)) (ia (s + 1) to) (ia (s + 2) fr) j else ia (s + 2) j)) fi fl qa f) := by
  obtain ⟨q, hq⟩ := FU_1000
  unfold f_X7_connect
  rw [S_ck h]
  simp only [Option.bind_some]
  rw [earlier h hn h8]
  simp only [Option.bind_some]
  have := connect_9 (ia := ia) (fl := fl) (qa := qa) (f := f) h (colF (ia (s + 1)) (nI fr) n) hn h8 hf ht n 0 FU (by omega) (by omega)
  rw [row_0, rw2_id] at this
  exact this
theorem CS.connect (h : CS ia fi s n L F) (w : WF n L F) {fr to : Nat} (hf : fr < n) (ht : to < n) : CS (rw2 (rw2 ia (s + 1) (fun j => if j < n then coL (ia (s + 1)) (colF (ia (s + 1)) (nI fr) n) to j else ia (s + 1) j)) (s + 2) (fun j => if j < n then teL (ia (s + 2)) (ia (s + 1) to) (ia (s + 2) fr) j else ia (s + 2) j)) fi s n (cL n fr to L) (tF (L to) (F fr) F) := by
  have h8 := w.2.1
  refine ⟨h.1, fun i hi => ⟨?_, ?_⟩⟩
  · rw [rw2_n _ _ (by omega), rw2_s]
    show (if i < n then coL (ia (s + 1)) (colF (ia (s + 1)) (nI fr) n) to i else ia (s + 1) i) = _
    rw [if_pos hi]
    unfold coL cL
    have hl := w.L31 hi
    rw [colF_N (by omega) n (by omega) (fun i hi => ⟨(h.2 i hi).1, by have := w.L31 hi; omega⟩), (h.2 i hi).1, (h.2 to ht).1]
    have hc := Nat.lt_of_lt_of_le (colN_lt L fr n) (p8 (show n ≤ 8 by omega))
    have hb := colN_bit L fr i n
    rw [decide_eq_true hi, Bool.true_and] at hb
    by_cases ht : (L i).testBit fr = true
    · rw [if_neg (by rw [bt_0 (by omega) (by omega), hb, ht]; decide), if_pos ht, fa_or]
    · have hf : (L i).testBit fr = false := by simpa using ht
      rw [if_pos (by rw [bt_0 (by omega) (by omega), hb, hf]), if_neg ht, show (0 : Int32) = nI 0 from rfl, fa_or, Nat.or_zero]
  · rw [rw2_s]
    show (if i < n then teL (ia (s + 2)) (ia (s + 1) to) (ia (s + 2) fr) i else ia (s + 2) i) = _
    have hx := w.L31 ht
    rw [if_pos hi, (h.2 to ht).1, (h.2 fr hf).2]
    unfold teL tF
    rw [(h.2 i hi).2]
    by_cases ht : (L to).testBit i = true
    · rw [if_neg (by rw [bt_0 (by omega) (by omega), ht]; decide), if_pos ht, fa_or]
    · have hf : (L to).testBit i = false := by simpa using ht
      rw [if_pos (by rw [bt_0 (by omega) (by omega), hf]), if_neg ht, show (0 : Int32) = nI 0 from rfl, fa_or, Nat.or_zero]
/-- a row from k on comes one place earlier, as far as i -/
def shR {α : Type} (g : Nat → α) (k i : Nat) : Nat → α := fun j => if k ≤ j ∧ j < i then g (j + 1) else g j
theorem shR_step {α : Type} (g : Nat → α) {k i : Nat} (hk : k ≤ i) : (fun j => if j = i then g (i + 1) else shR g k i j) = shR g k (i + 1) := by
  funext j
  unfold shR
  by_cases h1 : j = i
  · subst h1; rw [if_pos rfl, if_pos (by omega)]
  · rw [if_neg h1]
    by_cases h2 : k ≤ j ∧ j < i
    · rw [if_pos h2, if_pos (by omega)]
    · rw [if_neg h2, if_neg (by omega)]
theorem shR_0 {α : Type} (g : Nat → α) (k : Nat) : shR g k k = g := by
  funext j
  unfold shR
  rw [if_neg (by omega)]
theorem shR_at {α : Type} (g : Nat → α) {k i : Nat} (j : Nat) (h : i ≤ j) : shR g k i j = g j := by
  unfold shR
  rw [if_neg (by omega)]
/-- without the bit of a stage, as both programs do it -/
def woI (k : Nat) (x : Int32) : Int32 := (x &&& ((1 : Int32) <<< (nI k &&& 31) - 1)) ||| ((x >>> ((1 : Int32) &&& 31)) &&& (((1 : Int32) <<< (nI k &&& 31) - 1) ^^^ (-1 : Int32)))
theorem takeOut_64 (h : isSt b s) {k : Nat} (hn : fi s 0 = nI n) (h8 : n ≤ 8) : ∀ (m i q : Nat), i + m = n → m < q → f_X7_takeOut_64 q s ((1 : Int32) <<< (nI k &&& 31) - 1) (nI i) (wr (SK b) (rw2 ia (s + 1) (fun j => if j < i then woI k (ia (s + 1) j) else ia (s + 1) j)) fi fl qa f) = some (wr (SK b) (rw2 ia (s + 1) (fun j => if j < n then woI k (ia (s + 1) j) else ia (s + 1) j)) fi fl qa f) := by
  intro m
  induction m with
  | zero =>
    intro i q hi hq
    obtain ⟨q, rfl⟩ : ∃ j, q = j + 1 := ⟨q - 1, by omega⟩
    have : i = n := by omega
    subst this
    rw [f_X7_takeOut_64, S_I h]
    simp only [Option.bind_some]
    rw [hn, if_pos (nI_le (Nat.le_refl _) (by omega))]
  | succ m ih =>
    intro i q hi hq
    obtain ⟨q, rfl⟩ : ∃ j, q = j + 1 := ⟨q - 1, by omega⟩
    rw [f_X7_takeOut_64, S_I h]
    simp only [Option.bind_some]
    rw [hn, if_neg (nI_ge (by omega) (by omega)), S_R1 h]
    simp only [Option.bind_some]
    rw [S_A h (Or.inl rfl) (by omega), rw2_s]
    simp only [Option.bind_some]
    rw [if_neg (show ¬ i < i by omega), S_sA h (Or.inl rfl) (by omega), u2_rw2]
    simp only [Option.bind_some]
    have e := ih (i + 1) q (by omega) (by omega)
    rw [← nI_1] at e
    exact (congrArg (fun r => f_X7_takeOut_64 q s ((1 : Int32) <<< (nI k &&& 31) - 1) (nI i + 1) (wr (SK b) (rw2 ia (s + 1) r) fi fl qa f)) (row_step (fun j => woI k (ia (s + 1) j)) (ia (s + 1)) i (woI k (ia (s + 1) i)) rfl)).trans e
theorem takeOut_2 (h : isSt b s) {k : Nat} (hn : fi s 0 = nI (n + 1)) (h8 : n < 8) (hk : k ≤ n) : ∀ (m i q : Nat), i + m = n → k ≤ i → m < q → f_X7_takeOut_2 q s (nI k) (nI i) (wr (SK b) (rw2 (rw2 ia (s + 1) (shR (ia (s + 1)) k i)) (s + 2) (shR (ia (s + 2)) k i)) fi fl qa f) = some (wr (SK b) (rw2 (rw2 ia (s + 1) (fun j => if j < n then woI k (shR (ia (s + 1)) k n j) else shR (ia (s + 1)) k n j)) (s + 2) (shR (ia (s + 2)) k n)) (u2 fi s 0 (nI n)) fl qa f) := by
  have s12 : s + 1 ≠ s + 2 := by omega
  intro m
  induction m with
  | zero =>
    intro i q hi hki hq
    obtain ⟨q, rfl⟩ : ∃ j, q = j + 1 := ⟨q - 1, by omega⟩
    have : i = n := by omega
    subst this
    rw [f_X7_takeOut_2, S_I h]
    simp only [Option.bind_some]
    rw [hn, nI_1, if_pos (nI_le (Nat.le_refl _) (by omega)), S_sI h, nI_pred]
    simp only [Option.bind_some]
    obtain ⟨p, hp⟩ := FU_1000
    have e := takeOut_64 (k := k) (n := i) (ia := rw2 (rw2 ia (s + 1) (shR (ia (s + 1)) k i)) (s + 2) (shR (ia (s + 2)) k i)) (fi := u2 fi s 0 (nI i)) (fl := fl) (qa := qa) (f := f) h (u2_s _ _ _ _) (by omega) i 0 FU (by omega) (by omega)
    rw [row_0, rw2_id, rw2_n (p := s + 1) _ _ s12, rw2_s, rw2_comm _ _ _ (Ne.symm s12), rw2_rw2] at e
    exact e
  | succ m ih =>
    intro i q hi hki hq
    obtain ⟨q, rfl⟩ : ∃ j, q = j + 1 := ⟨q - 1, by omega⟩
    rw [f_X7_takeOut_2, S_I h]
    simp only [Option.bind_some]
    rw [hn, nI_1, if_neg (nI_ge (by omega) (by omega)), S_R1 h]
    simp only [Option.bind_some]
    rw [S_A h (Or.inl rfl) (by omega), rw2_n _ _ s12, rw2_s, shR_at _ _ (by omega)]
    simp only [Option.bind_some]
    rw [S_sA h (Or.inl rfl) (by omega), rw2_comm _ _ _ s12, u2_rw2, shR_step _ hki]
    simp only [Option.bind_some]
    rw [S_R2 h]
    simp only [Option.bind_some]
    rw [S_A h (Or.inr (Or.inl rfl)) (by omega), rw2_n _ _ (Ne.symm s12), rw2_s, shR_at _ _ (by omega)]
    simp only [Option.bind_some]
    rw [S_sA h (Or.inr (Or.inl rfl)) (by omega), rw2_comm _ _ _ (Ne.symm s12), u2_rw2, shR_step _ hki]
    simp only [Option.bind_some]
    exact ih (i + 1) q (by omega) (by omega) (by omega)
theorem takeOut (h : isSt b s) {k : Nat} (hn : fi s 0 = nI (n + 1)) (h8 : n < 8) (hk : k ≤ n) : f_X7_takeOut s (nI k) (wr (SK b) ia fi fl qa f) = some (wr (SK b) (rw2 (rw2 ia (s + 1) (fun j => if j < n then woI k (shR (ia (s + 1)) k n j) else shR (ia (s + 1)) k n j)) (s + 2) (shR (ia (s + 2)) k n)) (u2 fi s 0 (nI n)) fl qa f) := by
  obtain ⟨q, hq⟩ := FU_1000
  have e := takeOut_2 (ia := ia) (fl := fl) (qa := qa) (f := f) h hn h8 hk (n - k) k FU (by omega) (Nat.le_refl _) (by omega)
  rw [shR_0, shR_0, rw2_id, rw2_id] at e
  exact e
theorem CS.takeOut (h : CS ia fi s (n + 1) L F) (w : WF (n + 1) L F) {k : Nat} (hk : k ≤ n) : CS (rw2 (rw2 ia (s + 1) (fun j => if j < n then woI k (shR (ia (s + 1)) k n j) else shR (ia (s + 1)) k n j)) (s + 2) (shR (ia (s + 2)) k n)) (u2 fi s 0 (nI n)) s n (rL k L) (rF k F) := by
  have h8 := w.2.1
  refine ⟨u2_s _ _ _ _, fun i hi => ?_⟩
  have hj : (if i < k then i else i + 1) < n + 1 := by split <;> omega
  have e : ∀ g : Nat → Int32, shR g k n i = g (if i < k then i else i + 1) := by
    intro g
    unfold shR
    by_cases h1 : i < k
    · rw [if_neg (by omega), if_pos h1]
    · rw [if_pos (by omega), if_neg h1]
  constructor
  · rw [rw2_n _ _ (by omega), rw2_s]
    show (if i < n then woI k (shR (ia (s + 1)) k n i) else shR (ia (s + 1)) k n i) = _
    rw [if_pos hi, e, (h.2 _ hj).1]
    exact wo_1 _ (w.L31 hj) k (by omega)
  · rw [rw2_s, e, (h.2 _ hj).2]
    rfl
end OP2
