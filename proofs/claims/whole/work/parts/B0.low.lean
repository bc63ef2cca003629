/-! claim 1: the lowest stage outside -/
def loO (u : Nat) : Nat → Nat → Option Nat
  | 0, _ => none
  | m + 1, i => if u.testBit i then loO u m (i + 1) else some i
def loI (u n : Nat) : Int32 := (loO u n 0).elim (-5) nI
theorem loO_none (u : Nat) : ∀ (m i : Nat), loO u m i = none → ∀ j, i ≤ j → j < i + m → u.testBit j = true := by
  intro m
  induction m with
  | zero => intro i h j h1 h2; omega
  | succ m ih =>
    intro i h j h1 h2
    rw [loO] at h
    by_cases hb : u.testBit i = true
    · rw [if_pos hb] at h
      by_cases hj : j = i
      · rw [hj]; exact hb
      · exact ih (i + 1) h j (by omega) (by omega)
    · rw [if_neg hb] at h
      cases h
theorem loO_all (u : Nat) : ∀ (m i : Nat), (∀ j, i ≤ j → j < i + m → u.testBit j = true) → loO u m i = none := by
  intro m
  induction m with
  | zero => intro i h; rfl
  | succ m ih =>
    intro i h
    rw [loO, if_pos (h i (by omega) (by omega))]
    exact ih (i + 1) (fun j h1 h2 => h j (by omega) (by omega))
theorem loO_full {u n : Nat} (hu : u < 2 ^ n) : loO u n 0 = none ↔ u = 2 ^ n - 1 := by
  constructor
  · intro h
    apply Nat.eq_of_testBit_eq
    intro j
    rw [Nat.testBit_two_pow_sub_one]
    by_cases hj : j < n
    · rw [loO_none u n 0 h j (by omega) (by omega)]; simp [hj]
    · rw [Nat.testBit_lt_two_pow (Nat.lt_of_lt_of_le hu (Nat.pow_le_pow_right (by decide) (by omega)))]; simp [hj]
  · intro h
    apply loO_all
    intro j _ h2
    rw [h, Nat.testBit_two_pow_sub_one]
    simp; omega
section LOW
variable {b s n : Nat} {ia fi : Nat → Nat → Int32} {fl : Nat → Nat → Int64} {qa : Nat → Nat → Option Nat} {f : mmF}
theorem c_low_2 (hs : isSt b s) (hn : fi s 0 = nI n) (h8 : n ≤ 8) {u : Nat} (hu : u < 2 ^ 31) : ∀ (m i q : Nat), i + m = n → m < q → f_X7_lowestOutside_2 (wr (SK b) ia fi fl qa f) q s (nI u) (nI i) = some ((loO u m i).elim (-5) nI) := by
  intro m
  induction m with
  | zero =>
    intro i q hi hm
    obtain ⟨q, rfl⟩ : ∃ k, q = k + 1 := ⟨q - 1, by omega⟩
    unfold f_X7_lowestOutside_2
    have hin : i = n := by omega
    subst hin
    simp only [S_I hs, hn, Option.bind_some]
    rw [if_pos (Int32.le_refl _)]
    rfl
  | succ m ih =>
    intro i q hi hm
    obtain ⟨q, rfl⟩ : ∃ k, q = k + 1 := ⟨q - 1, by omega⟩
    have hc : ¬ nI n ≤ nI i := nI_ge (by omega) (by omega)
    unfold f_X7_lowestOutside_2
    simp only [S_I hs, hn, Option.bind_some, if_neg hc, has_eq]
    rw [loO]
    cases hb : u.testBit i with
    | false =>
      simp only [if_pos ((bt_0 hu (show i < 32 by omega)).mpr hb), if_true]
      rfl
    | true =>
      have hne : ¬ ((nI u >>> (nI i &&& 31)) &&& 1) = (0 : Int32) := fun e => by
        rw [bt_0 hu (by omega), hb] at e
        cases e
      simp only [if_neg hne, i10, if_false, if_true]
      rw [nI_1]
      exact ih (i + 1) q (by omega) (by omega)
theorem m_low_2 {w u : Nat} (hw : w < 2 ^ 31) (h8 : n ≤ 8) (hwu : ∀ j, j < n → w.testBit j = !u.testBit j) {μ : mmF} : ∀ (m i q : Nat), i + m = n → m < q → loO u m i ≠ none → f_X10_lowest_2 μ q (nI w) (nI i) = some ((loO u m i).elim (-5) nI) := by
  intro m
  induction m with
  | zero => intro i q hi hm h; exact absurd rfl h
  | succ m ih =>
    intro i q hi hm h
    obtain ⟨q, rfl⟩ : ∃ k, q = k + 1 := ⟨q - 1, by omega⟩
    unfold f_X10_lowest_2
    have hwi := hwu i (by omega)
    rw [loO] at h ⊢
    cases hb : u.testBit i with
    | false =>
      rw [hb] at hwi
      have hne : ¬ ((nI w >>> (nI i &&& 31)) &&& 1) = (0 : Int32) := fun e => by
        rw [bt_0 hw (by omega), hwi] at e
        cases e
      rw [if_neg hne]
      rfl
    | true =>
      rw [hb] at hwi
      rw [if_pos ((bt_0 hw (show i < 32 by omega)).mpr (by rw [hwi]; rfl)), nI_1]
      rw [hb] at h
      simp only [if_true] at h ⊢
      exact ih (i + 1) q (by omega) (by omega) h
end LOW
