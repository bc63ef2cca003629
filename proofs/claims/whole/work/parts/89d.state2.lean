/-! State's methods that change it -/
theorem has_eq (x i : Int32) (f : mmF) : f_X9_has x i f = some (if ((x >>> (i &&& 31)) &&& 1) = 0 then 0 else 1) := by
  unfold f_X9_has
  split <;> rfl
theorem row_step {α : Type} (g h : Nat → α) (i : Nat) (x : α) (hx : x = g i) : (fun j => if j = i then x else if j < i then g j else h j) = fun j => if j < i + 1 then g j else h j := by
  subst hx
  funext j
  by_cases h1 : j = i
  · subst h1; rw [if_pos rfl, if_pos (by omega)]
  · rw [if_neg h1]
    by_cases h2 : j < i
    · rw [if_pos h2, if_pos (by omega)]
    · rw [if_neg h2, if_neg (by omega)]
theorem row_0 {α : Type} (g h : Nat → α) : (fun j => if j < 0 then g j else h j) = h := by funext j; simp
section ST2
variable {b s : Nat} {ia fi : Nat → Nat → Int32} {fl : Nat → Nat → Int64} {qa : Nat → Nat → Option Nat} {f : mmF}
/-- what grow makes of a row of 'later' -/
def grL (g : Nat → Int32) (bef : Int32) (n j : Nat) : Int32 := g j ||| (if ((bef >>> (nI j &&& 31)) &&& 1) = 0 then 0 else (1 : Int32) <<< (nI n &&& 31))
theorem grow_14 (h : isSt b s) {n k : Nat} (bef : Int32) (hn : fi s 0 = nI n) (h8 : n < 8) (hk : k < n) : ∀ (m i q : Nat), i + m = n → m < q → f_X7_grow_14 q s (nI k) (nI n) bef (nI i) (wr (SK b) (rw2 ia (s + 1) (fun j => if j < i then grL (ia (s + 1)) bef n j else ia (s + 1) j)) fi fl qa f) = some (nI n, wr (SK b) (u2 (u2 (rw2 ia (s + 1) (fun j => if j < n then grL (ia (s + 1)) bef n j else ia (s + 1) j)) (s + 1) n ((1 : Int32) <<< (nI n &&& 31))) (s + 2) n (ia (s + 2) k)) (u2 fi s 0 (nI (n + 1))) fl qa f) := by
  intro m
  induction m with
  | zero =>
    intro i q hi hq
    obtain ⟨q, rfl⟩ : ∃ j, q = j + 1 := ⟨q - 1, by omega⟩
    have : i = n := by omega
    subst this
    rw [f_X7_grow_14, if_pos (nI_le (Nat.le_refl _) (by omega)), S_R1 h]
    simp only [Option.bind_some]
    rw [S_sA h (Or.inl rfl) (by omega)]
    simp only [Option.bind_some]
    rw [S_R2 h]
    simp only [Option.bind_some]
    rw [S_A h (Or.inr (Or.inl rfl)) (by omega), u2_a _ _ (by omega), rw2_n _ _ (by omega)]
    simp only [Option.bind_some]
    rw [S_sA h (Or.inr (Or.inl rfl)) (by omega)]
    simp only [Option.bind_some]
    rw [S_I h]
    simp only [Option.bind_some]
    rw [S_sI h, hn, nI_1]
    simp only [Option.bind_some]
  | succ m ih =>
    intro i q hi hq
    obtain ⟨q, rfl⟩ : ∃ j, q = j + 1 := ⟨q - 1, by omega⟩
    rw [f_X7_grow_14, if_neg (nI_ge (by omega) (by omega)), S_R1 h]
    simp only [Option.bind_some]
    rw [S_A h (Or.inl rfl) (by omega), has_eq, rw2_s]
    simp only [Option.bind_some]
    have e := ih (i + 1) q (by omega) (by omega)
    rw [if_neg (show ¬ i < i by omega)]
    by_cases hc : ((bef >>> (nI i &&& 31)) &&& 1) = 0
    · rw [if_pos hc, if_pos rfl]
      unfold f_X7_grow_44
      rw [S_sA h (Or.inl rfl) (by omega), u2_rw2, row_step (g := grL (ia (s + 1)) bef n) (hx := by unfold grL; rw [if_pos hc])]
      simp only [Option.bind_some]
      rw [nI_1]
      exact e
    · rw [if_neg hc, if_neg (by decide)]
      unfold f_X7_grow_44
      rw [S_sA h (Or.inl rfl) (by omega), u2_rw2, row_step (g := grL (ia (s + 1)) bef n) (hx := by unfold grL; rw [if_neg hc])]
      simp only [Option.bind_some]
      rw [nI_1]
      exact e
theorem grow (h : isSt b s) {n k : Nat} (hn : fi s 0 = nI n) (h8 : n < 8) (hk : k < n) : f_X7_grow s (nI k) (wr (SK b) ia fi fl qa f) = some (nI n, wr (SK b) (u2 (u2 (rw2 ia (s + 1) (fun j => if j < n then grL (ia (s + 1)) (colF (ia (s + 1)) (nI k) n) n j else ia (s + 1) j)) (s + 1) n ((1 : Int32) <<< (nI n &&& 31))) (s + 2) n (ia (s + 2) k)) (u2 fi s 0 (nI (n + 1))) fl qa f) := by
  obtain ⟨q, hq⟩ := FU_1000
  unfold f_X7_grow
  rw [S_I h]
  simp only [Option.bind_some]
  rw [S_ck h]
  simp only [Option.bind_some]
  rw [earlier h hn (by omega), hn]
  simp only [Option.bind_some]
  have := grow_14 (ia := ia) (fl := fl) (qa := qa) (f := f) h (colF (ia (s + 1)) (nI k) n) hn h8 hk n 0 FU (by omega) (by omega)
  rw [row_0, rw2_id] at this
  exact this
/-- what teach makes of a row of 'facts' -/
def teL (g : Nat → Int32) (w kn : Int32) (j : Nat) : Int32 := g j ||| (if ((w >>> (nI j &&& 31)) &&& 1) = 0 then 0 else kn)
theorem teach_2 (h : isSt b s) {n : Nat} (w kn : Int32) (hn : fi s 0 = nI n) (h8 : n ≤ 8) : ∀ (m i q : Nat), i + m = n → m < q → f_X7_teach_2 q s w kn (nI i) (wr (SK b) (rw2 ia (s + 2) (fun j => if j < i then teL (ia (s + 2)) w kn j else ia (s + 2) j)) fi fl qa f) = some (wr (SK b) (rw2 ia (s + 2) (fun j => if j < n then teL (ia (s + 2)) w kn j else ia (s + 2) j)) fi fl qa f) := by
  intro m
  induction m with
  | zero =>
    intro i q hi hq
    obtain ⟨q, rfl⟩ : ∃ j, q = j + 1 := ⟨q - 1, by omega⟩
    have : i = n := by omega
    subst this
    rw [f_X7_teach_2, S_I h]
    simp only [Option.bind_some]
    rw [hn, if_pos (nI_le (Nat.le_refl _) (by omega))]
  | succ m ih =>
    intro i q hi hq
    obtain ⟨q, rfl⟩ : ∃ j, q = j + 1 := ⟨q - 1, by omega⟩
    rw [f_X7_teach_2, S_I h]
    simp only [Option.bind_some]
    rw [hn, if_neg (nI_ge (by omega) (by omega)), S_R2 h]
    simp only [Option.bind_some]
    rw [S_A h (Or.inr (Or.inl rfl)) (by omega), has_eq, rw2_s]
    simp only [Option.bind_some]
    have e := ih (i + 1) q (by omega) (by omega)
    rw [if_neg (show ¬ i < i by omega)]
    by_cases hc : ((w >>> (nI i &&& 31)) &&& 1) = 0
    · rw [if_pos hc, if_pos rfl]
      unfold f_X7_teach_30
      rw [S_sA h (Or.inr (Or.inl rfl)) (by omega), u2_rw2, row_step (g := teL (ia (s + 2)) w kn) (hx := by unfold teL; rw [if_pos hc])]
      simp only [Option.bind_some]
      rw [nI_1]
      exact e
    · rw [if_neg hc, if_neg (by decide)]
      unfold f_X7_teach_30
      rw [S_sA h (Or.inr (Or.inl rfl)) (by omega), u2_rw2, row_step (g := teL (ia (s + 2)) w kn) (hx := by unfold teL; rw [if_neg hc])]
      simp only [Option.bind_some]
      rw [nI_1]
      exact e
theorem teach (h : isSt b s) {n : Nat} {w kn : Int32} (hn : fi s 0 = nI n) (h8 : n ≤ 8) : f_X7_teach s w kn (wr (SK b) ia fi fl qa f) = some (wr (SK b) (rw2 ia (s + 2) (fun j => if j < n then teL (ia (s + 2)) w kn j else ia (s + 2) j)) fi fl qa f) := by
  obtain ⟨q, hq⟩ := FU_1000
  have := teach_2 (ia := ia) (fl := fl) (qa := qa) (f := f) h w kn hn h8 n 0 FU (by omega) (by omega)
  rw [row_0, rw2_id] at this
  exact this
/-- what unteach makes of a row of 'facts' -/
def utL (g : Nat → Int32) (w kn : Int32) (j : Nat) : Int32 := g j &&& (if ((w >>> (nI j &&& 31)) &&& 1) = 0 then -1 else kn ^^^ (-1))
theorem unteach_2 (h : isSt b s) {n : Nat} (w kn : Int32) (hn : fi s 0 = nI n) (h8 : n ≤ 8) : ∀ (m i q : Nat), i + m = n → m < q → f_X7_unteach_2 q s w kn (nI i) (wr (SK b) (rw2 ia (s + 2) (fun j => if j < i then utL (ia (s + 2)) w kn j else ia (s + 2) j)) fi fl qa f) = some (wr (SK b) (rw2 ia (s + 2) (fun j => if j < n then utL (ia (s + 2)) w kn j else ia (s + 2) j)) fi fl qa f) := by
  intro m
  induction m with
  | zero =>
    intro i q hi hq
    obtain ⟨q, rfl⟩ : ∃ j, q = j + 1 := ⟨q - 1, by omega⟩
    have : i = n := by omega
    subst this
    rw [f_X7_unteach_2, S_I h]
    simp only [Option.bind_some]
    rw [hn, if_pos (nI_le (Nat.le_refl _) (by omega))]
  | succ m ih =>
    intro i q hi hq
    obtain ⟨q, rfl⟩ : ∃ j, q = j + 1 := ⟨q - 1, by omega⟩
    rw [f_X7_unteach_2, S_I h]
    simp only [Option.bind_some]
    rw [hn, if_neg (nI_ge (by omega) (by omega)), S_R2 h]
    simp only [Option.bind_some]
    rw [S_A h (Or.inr (Or.inl rfl)) (by omega), has_eq, rw2_s]
    simp only [Option.bind_some]
    have e := ih (i + 1) q (by omega) (by omega)
    rw [if_neg (show ¬ i < i by omega)]
    by_cases hc : ((w >>> (nI i &&& 31)) &&& 1) = 0
    · rw [if_pos hc, if_pos rfl]
      unfold f_X7_unteach_32
      rw [S_sA h (Or.inr (Or.inl rfl)) (by omega), u2_rw2, row_step (g := utL (ia (s + 2)) w kn) (hx := by unfold utL; rw [if_pos hc])]
      simp only [Option.bind_some]
      rw [nI_1]
      exact e
    · rw [if_neg hc, if_neg (by decide)]
      unfold f_X7_unteach_32
      rw [S_sA h (Or.inr (Or.inl rfl)) (by omega), u2_rw2, row_step (g := utL (ia (s + 2)) w kn) (hx := by unfold utL; rw [if_neg hc])]
      simp only [Option.bind_some]
      rw [nI_1]
      exact e
theorem unteach (h : isSt b s) {n : Nat} {w kn : Int32} (hn : fi s 0 = nI n) (h8 : n ≤ 8) : f_X7_unteach s w kn (wr (SK b) ia fi fl qa f) = some (wr (SK b) (rw2 ia (s + 2) (fun j => if j < n then utL (ia (s + 2)) w kn j else ia (s + 2) j)) fi fl qa f) := by
  obtain ⟨q, hq⟩ := FU_1000
  have := unteach_2 (ia := ia) (fl := fl) (qa := qa) (f := f) h w kn hn h8 n 0 FU (by omega) (by omega)
  rw [row_0, rw2_id] at this
  exact this
/-- record: the state goes into the history's next place -/
theorem rec_lt {r hh : Nat} (hr : fi b 2 = nI r) (h4 : r < 4) (hq : qa (b + 8) r = some hh) (hst : isSt b hh) (hne : hh ≠ b + 1) (ho : ∀ i, i < 5 → (∀ v, qa (b + 1 + 3) i = some v → SK b v = none) ∧ okQ f 0 (qa (b + 1 + 3) i) = true) : f_X9_record b (wr (SK b) ia fi fl qa f) = some (wr (SK b) (rw2 (rw2 ia (hh + 1) (fun j => if j < 8 then ia (b + 1 + 1) j else ia (hh + 1) j)) (hh + 2) (fun j => if j < 8 then ia (b + 1 + 2) j else ia (hh + 2) j)) (u2 (u2 fi hh 0 (fi (b + 1) 0)) b 2 (nI (r + 1))) fl (rw2 qa (hh + 3) (fun j => if j < 5 then qa (b + 1 + 3) j else qa (hh + 3) j)) f) := by
  have hb1 : isSt b (b + 1) := Or.inl rfl
  have hhb : hh ≠ b := by
    rcases hst with rfl | rfl | ⟨j, hj, rfl⟩ <;> omega
  unfold f_X9_record
  rw [I_0_2]
  simp only [Option.bind_some]
  have hlt : fi b 2 < 4 := by rw [hr]; exact nI_lt (b := 4) h4 (by decide)
  rw [if_pos hlt]
  unfold f_X9_record_57
  rw [R_0_1]
  simp only [Option.bind_some]
  rw [I_0_2]
  simp only [Option.bind_some]
  rw [hr, N_8 h4 hq]
  simp only [Option.bind_some]
  rw [R_0_0]
  simp only [Option.bind_some]
  rw [S_ck hst]
  simp only [Option.bind_some]
  rw [tf hst hb1 hne ho]
  simp only [Option.bind_some]
  rw [I_0_2]
  simp only [Option.bind_some]
  rw [u2_a _ _ (Ne.symm hhb), hr, nI_1, sI_0_2]
  rfl
end ST2
