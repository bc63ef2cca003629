/-! THE REFERENCE: its first methods -/
theorem n8 (i : Nat) : (8 : Int32) + nI i = nI (8 + i) := nI_add 8 i
theorem n0 (i : Nat) : (0 : Int32) + nI i = nI i := by rw [show (0 : Int32) = nI 0 from rfl, nI_add, Nat.zero_add]
theorem n172 (i : Nat) : nI i + 172 = nI (i + 172) := nI_add i 172
section MO
variable {b : Nat} {ia fi : Nat → Nat → Int32} {fl : Nat → Nat → Int64} {qa : Nat → Nat → Option Nat} {f : mmF}
theorem A16 : ldA 0 (wr (SK b) ia fi fl qa f) (b + 84) (16 : Int32) = some (ia (b + 84) 16) := An_84 (i := 16) (by decide)
theorem m_noS_t {n k : Nat} (hn : ia (b + 84) 16 = nI n) (hk : k < n) (h8 : n < 2 ^ 31) : f_X10_noStage (b + 83) (nI k) (wr (SK b) ia fi fl qa f) = some 0 := by
  unfold f_X10_noStage
  rw [R_83_0]
  simp only [Option.bind_some]
  rw [A16]
  simp only [Option.bind_some]
  unfold f_X10_in
  have e : nI n - 1 = nI (n - 1) := pk_sub (a := n) (b := 1) (by omega)
  rw [if_neg (nI_pos (by omega)), hn, e, if_neg (nI_nlt (by omega) (by omega))]
  simp only [Option.bind_some]
  rw [if_neg (by decide)]
theorem m_noS_f {n : Nat} {x : Int32} (hn : ia (b + 84) 16 = nI n) (h1 : 1 ≤ n) (h8 : n < 2 ^ 31) (hx : ∀ k, k < n → x ≠ nI k) : f_X10_noStage (b + 83) x (wr (SK b) ia fi fl qa f) = some 1 := by
  unfold f_X10_noStage
  rw [R_83_0]
  simp only [Option.bind_some]
  rw [A16]
  simp only [Option.bind_some]
  unfold f_X10_in
  have e : nI n - 1 = nI (n - 1) := pk_sub (a := n) (b := 1) h1
  by_cases h0 : x < 0
  · rw [if_pos h0]
    simp only [Option.bind_some]
    rw [if_pos trivial]
  · rw [if_neg h0, hn, e]
    obtain ⟨j, hj, rfl⟩ := nI_of h0
    have : n ≤ j := Nat.not_lt.mp fun h => hx j h rfl
    rw [if_pos (nI_lt (by omega) hj)]
    simp only [Option.bind_some]
    rw [if_pos trivial]
/-- record: the state is copied into the history -/
theorem m_rec_51 {r : Nat} (hr : fi (b + 83) 2 = nI r) (h4 : r < 4) : ∀ (m i n : Nat), i + m = 172 → m < n → f_X10_record_51 n (b + 83) (nI i) (wr (SK b) (rw2 ia (b + 85) (fun j => if 172 * r ≤ j ∧ j < 172 * r + i then ia (b + 84) (j - 172 * r) else ia (b + 85) j)) fi fl qa f) = some (wr (SK b) (rw2 ia (b + 85) (fun j => if 172 * r ≤ j ∧ j < 172 * r + 172 then ia (b + 84) (j - 172 * r) else ia (b + 85) j)) (u2 fi (b + 83) 2 (nI (r + 1))) fl qa f) := by
  intro m
  induction m with
  | zero =>
    intro i n hi hm
    obtain ⟨n, rfl⟩ : ∃ k, n = k + 1 := ⟨n - 1, by omega⟩
    have hi6 : i = 172 := by omega
    subst hi6
    rw [f_X10_record_51, if_pos (show (172 : Int32) ≤ nI 172 by decide), I_83_2]
    simp only [Option.bind_some]
    rw [sI_83_2, hr, nI_1]
    rfl
  | succ m ih =>
    intro i n hi hm
    obtain ⟨n, rfl⟩ : ∃ k, n = k + 1 := ⟨n - 1, by omega⟩
    have hlt : ¬ (172 : Int32) ≤ nI i := nI_ge (a := i) (b := 172) (by omega) (by decide)
    rw [f_X10_record_51, if_neg hlt, R_83_1]
    simp only [Option.bind_some]
    rw [I_83_2]
    simp only [Option.bind_some]
    rw [R_83_0]
    simp only [Option.bind_some]
    rw [An_84 (by omega), rw2_n _ _ (by omega)]
    simp only [Option.bind_some]
    have e : (172 : Int32) * fi (b + 83) 2 + nI i = nI (172 * r + i) := by rw [hr, show (172 : Int32) = nI 172 from rfl, pk_mul, nI_add]
    rw [e, sAn_85 (by omega), u2_rw2]
    simp only [Option.bind_some]
    rw [nI_1, ← ih (i + 1) n (by omega) (by omega)]
    congr 3
    funext j
    by_cases h1 : j = 172 * r + i
    · subst h1; rw [if_pos rfl, if_pos (by omega), show 172 * r + i - 172 * r = i by omega]
    · rw [if_neg h1]
      by_cases h2 : 172 * r ≤ j ∧ j < 172 * r + i
      · rw [if_pos h2, if_pos (by omega)]
      · rw [if_neg h2, if_neg (by omega)]
theorem m_rec_lt {r : Nat} (hr : fi (b + 83) 2 = nI r) (h4 : r < 4) : f_X10_record (b + 83) (wr (SK b) ia fi fl qa f) = some (wr (SK b) (rw2 ia (b + 85) (fun j => if 172 * r ≤ j ∧ j < 172 * r + 172 then ia (b + 84) (j - 172 * r) else ia (b + 85) j)) (u2 fi (b + 83) 2 (nI (r + 1))) fl qa f) := by
  obtain ⟨k, hk⟩ := FU_1000
  unfold f_X10_record
  rw [I_83_2]
  simp only [Option.bind_some]
  have hne : ¬ fi (b + 83) 2 = 4 := by
    rw [hr]
    intro h
    have := (nI_eq (a := r) (b := 4) (by omega) (by decide)).mp h
    omega
  rw [if_neg hne]
  unfold f_X10_record_49
  have h := m_rec_51 (ia := ia) (fl := fl) (qa := qa) (f := f) hr h4 172 0 FU rfl (by omega)
  have e : (fun j => if 172 * r ≤ j ∧ j < 172 * r + 0 then ia (b + 84) (j - 172 * r) else ia (b + 85) j) = ia (b + 85) := by
    funext j
    rw [if_neg (by omega)]
  rw [e, rw2_id] at h
  exact h
theorem m_rec_10 {v : mmF} (hr : fi (b + 83) 2 = nI 4) : ∀ (m i n : Nat), i + m = 516 → m < n → f_X10_record_49 (b + 83) (wr (SK b) (rw2 ia (b + 85) (fun j => if j < 516 then ia (b + 85) (j + 172) else ia (b + 85) j)) (u2 fi (b + 83) 2 (nI 3)) fl qa f) = some v → f_X10_record_10 n (b + 83) (nI i) (wr (SK b) (rw2 ia (b + 85) (fun j => if j < i then ia (b + 85) (j + 172) else ia (b + 85) j)) fi fl qa f) = some v := by
  intro m
  induction m with
  | zero =>
    intro i n hi hm hv
    obtain ⟨n, rfl⟩ : ∃ k, n = k + 1 := ⟨n - 1, by omega⟩
    have hi6 : i = 516 := by omega
    subst hi6
    rw [f_X10_record_10, if_pos (show (516 : Int32) ≤ nI 516 by decide), I_83_2]
    simp only [Option.bind_some]
    rw [sI_83_2, hr, show nI 4 - 1 = nI 3 from rfl]
    exact hv
  | succ m ih =>
    intro i n hi hm hv
    obtain ⟨n, rfl⟩ : ∃ k, n = k + 1 := ⟨n - 1, by omega⟩
    have hlt : ¬ (516 : Int32) ≤ nI i := nI_ge (a := i) (b := 516) (by omega) (by decide)
    rw [f_X10_record_10, if_neg hlt, R_83_1]
    simp only [Option.bind_some]
    rw [n172, An_85 (by omega), rw2_s, if_neg (by omega)]
    simp only [Option.bind_some]
    rw [sAn_85 (by omega), u2_rw2]
    simp only [Option.bind_some]
    rw [nI_1, ← ih (i + 1) n (by omega) (by omega) hv]
    congr 3
    funext j
    by_cases h1 : j = i
    · subst h1; rw [if_pos rfl, if_pos (by omega)]
    · rw [if_neg h1]
      by_cases h2 : j < i
      · rw [if_pos h2, if_pos (by omega)]
      · rw [if_neg h2, if_neg (by omega)]
theorem m_rec_4 (hr : fi (b + 83) 2 = nI 4) : f_X10_record (b + 83) (wr (SK b) ia fi fl qa f) = some (wr (SK b) (rw2 ia (b + 85) (fun j => if j < 516 then ia (b + 85) (j + 172) else if j < 688 then ia (b + 84) (j - 516) else ia (b + 85) j)) (u2 fi (b + 83) 2 (nI 4)) fl qa f) := by
  obtain ⟨k, hk⟩ := FU_1000
  unfold f_X10_record
  rw [I_83_2]
  simp only [Option.bind_some]
  rw [if_pos (show fi (b + 83) 2 = 4 from hr)]
  have h1 : f_X10_record_49 (b + 83) (wr (SK b) (rw2 ia (b + 85) (fun j => if j < 516 then ia (b + 85) (j + 172) else ia (b + 85) j)) (u2 fi (b + 83) 2 (nI 3)) fl qa f) = some (wr (SK b) (rw2 ia (b + 85) (fun j => if j < 516 then ia (b + 85) (j + 172) else if j < 688 then ia (b + 84) (j - 516) else ia (b + 85) j)) (u2 fi (b + 83) 2 (nI 4)) fl qa f) := by
    unfold f_X10_record_49
    have h := m_rec_51 (b := b) (r := 3) (ia := rw2 ia (b + 85) (fun j => if j < 516 then ia (b + 85) (j + 172) else ia (b + 85) j)) (fi := u2 fi (b + 83) 2 (nI 3)) (fl := fl) (qa := qa) (f := f) (u2_s _ _ _ _) (by decide) 172 0 FU rfl (by omega)
    have e : (fun j => if 172 * 3 ≤ j ∧ j < 172 * 3 + 0 then (rw2 ia (b + 85) (fun j => if j < 516 then ia (b + 85) (j + 172) else ia (b + 85) j)) (b + 84) (j - 172 * 3) else (rw2 ia (b + 85) (fun j => if j < 516 then ia (b + 85) (j + 172) else ia (b + 85) j)) (b + 85) j) = (rw2 ia (b + 85) (fun j => if j < 516 then ia (b + 85) (j + 172) else ia (b + 85) j)) (b + 85) := by
      funext j
      rw [if_neg (by omega)]
    rw [e, rw2_id] at h
    have h0 : (0 : Int32) = nI 0 := rfl
    rw [h0, h, rw2_rw2]
    have e1 : u2 (u2 fi (b + 83) 2 (nI 3)) (b + 83) 2 (nI (3 + 1)) = u2 fi (b + 83) 2 (nI 4) := by
      funext p j
      simp only [u2]
      split <;> rfl
    have e2 : (fun j => if 172 * 3 ≤ j ∧ j < 172 * 3 + 172 then rw2 ia (b + 85) (fun j => if j < 516 then ia (b + 85) (j + 172) else ia (b + 85) j) (b + 84) (j - 172 * 3) else rw2 ia (b + 85) (fun j => if j < 516 then ia (b + 85) (j + 172) else ia (b + 85) j) (b + 85) j) = (fun j => if j < 516 then ia (b + 85) (j + 172) else if j < 688 then ia (b + 84) (j - 516) else ia (b + 85) j) := by
      funext j
      rw [rw2_s, rw2_n _ _ (by omega)]
      by_cases h1 : j < 516
      · rw [if_neg (by omega), if_pos h1, if_pos h1]
      · rw [if_neg h1, if_neg h1]
        by_cases h2 : j < 688
        · rw [if_pos (by omega), if_pos h2]
        · rw [if_neg (by omega), if_neg h2]
    rw [e1, e2]
  have h2 := m_rec_10 (ia := ia) (fl := fl) (qa := qa) (f := f) hr 516 0 FU rfl (by omega) h1
  have e0 : (fun j => if j < 0 then ia (b + 85) (j + 172) else ia (b + 85) j) = ia (b + 85) := by funext j; simp
  rw [e0, rw2_id] at h2
  exact h2
end MO
