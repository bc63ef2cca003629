/-! count -/
def seN (G : Nat → Nat) (n : Nat) : Nat := fo (fun i x => x ||| (if G i = 2 ^ i then 2 ^ i else 0)) n 0
def coN (F : Nat → Nat) (n : Nat) : Nat := fo (fun i x => x &&& F i) n 15
section COUNT
variable {b s n : Nat} {L F : Nat → Nat} {ia fi : Nat → Nat → Int32} {fl : Nat → Nat → Int64} {qa : Nat → Nat → Option Nat} {f : mmF}
theorem eqP {a i : Nat} (ha : a < 256) (hi : i < 8) : (nI a = (1 : Int32) <<< (nI i &&& 31)) = (a = 2 ^ i) := by
  rw [bt_shl (show i < 32 by omega)]
  have h2 : 2 ^ i < 256 := Nat.lt_of_le_of_lt (Nat.pow_le_pow_right (n := 2) (by decide) (show i ≤ 7 by omega)) (by decide)
  exact propext (nI_eq (Nat.lt_trans ha (by decide)) (Nat.lt_trans h2 (by decide)))
theorem c_last_4 (hs : isSt b s) (h : CS ia fi s n L F) (w : WF n L F) : ∀ (m i q : Nat), i + m = n → m < q → f_X7_lastStages_4 (wr (SK b) ia fi fl qa f) q s (nI (seN L i)) (nI i) = some (nI (seN L n)) := by
  have h8 := w.2.1
  intro m
  induction m with
  | zero =>
    intro i q hi hm
    obtain ⟨q, rfl⟩ : ∃ k, q = k + 1 := ⟨q - 1, by omega⟩
    have hin : i = n := by omega
    subst hin
    rw [f_X7_lastStages_4]
    simp only [S_I hs, Option.bind_some, h.1]
    rw [if_pos (Int32.le_refl _)]
  | succ m ih =>
    intro i q hi hm
    obtain ⟨q, rfl⟩ : ∃ k, q = k + 1 := ⟨q - 1, by omega⟩
    have hin : i < n := by omega
    have hlt : ¬ nI n ≤ nI i := nI_ge (by omega) (by omega)
    rw [f_X7_lastStages_4]
    simp only [S_I hs, Option.bind_some, h.1, if_neg hlt, S_R1 hs, S_A hs (Or.inl rfl) (show i < 8 by omega), (h.2 i hin).1, eqP (w.L31 hin) (show i < 8 by omega)]
    rw [← ih (i + 1) q (by omega) (by omega)]
    show _ = f_X7_lastStages_4 _ q s (nI (seN L i ||| (if L i = 2 ^ i then 2 ^ i else 0))) (nI (i + 1))
    by_cases hE : L i = 2 ^ i
    · rw [if_pos hE, if_pos hE]
      unfold f_X7_lastStages_32
      rw [bt_shl (show i < 32 by omega), fa_or, nI_1]
    · rw [if_neg hE, if_neg hE]
      unfold f_X7_lastStages_32
      rw [show (0 : Int32) = nI 0 from rfl, fa_or, nI_1]
theorem col8 (w : WF n L F) (v : Nat) : colN L v n < 256 := Nat.lt_of_lt_of_le (colN_lt _ _ _) (p8 w.2.1)
theorem c_first_4 (hs : isSt b s) (h : CS ia fi s n L F) (w : WF n L F) : ∀ (m i q : Nat), i + m = n → m < q → f_X7_firstStages_4 (wr (SK b) ia fi fl qa f) q s (nI (seN (fun v => colN L v n) i)) (nI i) = some (nI (seN (fun v => colN L v n) n)) := by
  have h8 := w.2.1
  intro m
  induction m with
  | zero =>
    intro i q hi hm
    obtain ⟨q, rfl⟩ : ∃ k, q = k + 1 := ⟨q - 1, by omega⟩
    have hin : i = n := by omega
    subst hin
    rw [f_X7_firstStages_4]
    simp only [S_I hs, Option.bind_some, h.1]
    rw [if_pos (Int32.le_refl _)]
  | succ m ih =>
    intro i q hi hm
    obtain ⟨q, rfl⟩ : ∃ k, q = k + 1 := ⟨q - 1, by omega⟩
    have hin : i < n := by omega
    have hlt : ¬ nI n ≤ nI i := nI_ge (by omega) (by omega)
    rw [f_X7_firstStages_4]
    simp only [S_I hs, Option.bind_some, h.1, if_neg hlt, S_ck hs, c_earlier hs h w (show i < 32 by omega), eqP (col8 w i) (show i < 8 by omega)]
    rw [← ih (i + 1) q (by omega) (by omega)]
    show _ = f_X7_firstStages_4 _ q s (nI (seN (fun v => colN L v n) i ||| (if colN L i n = 2 ^ i then 2 ^ i else 0))) (nI (i + 1))
    by_cases hE : colN L i n = 2 ^ i
    · rw [if_pos hE, if_pos hE]
      unfold f_X7_firstStages_31
      rw [bt_shl (show i < 32 by omega), fa_or, nI_1]
    · rw [if_neg hE, if_neg hE]
      unfold f_X7_firstStages_31
      rw [show (0 : Int32) = nI 0 from rfl, fa_or, nI_1]
theorem c_com_5 (hs : isSt b s) (h : CS ia fi s n L F) (w : WF n L F) : ∀ (m i q : Nat), i + m = n → m < q → f_X7_commonFacts_5 (wr (SK b) ia fi fl qa f) q s (nI (coN F i)) (nI i) = some (nI (coN F n)) := by
  have h8 := w.2.1
  intro m
  induction m with
  | zero =>
    intro i q hi hm
    obtain ⟨q, rfl⟩ : ∃ k, q = k + 1 := ⟨q - 1, by omega⟩
    have hin : i = n := by omega
    subst hin
    rw [f_X7_commonFacts_5]
    simp only [S_I hs, Option.bind_some, h.1]
    rw [if_pos (Int32.le_refl _)]
  | succ m ih =>
    intro i q hi hm
    obtain ⟨q, rfl⟩ : ∃ k, q = k + 1 := ⟨q - 1, by omega⟩
    have hin : i < n := by omega
    have hlt : ¬ nI n ≤ nI i := nI_ge (by omega) (by omega)
    rw [f_X7_commonFacts_5]
    simp only [S_I hs, Option.bind_some, h.1, if_neg hlt, S_R2 hs, S_A hs (Or.inr (Or.inl rfl)) (show i < 8 by omega), (h.2 i hin).2, fa_and, nI_1]
    exact ih (i + 1) q (by omega) (by omega)
theorem m_every_5 (h : MS (ia (b + 84)) n L F) (w : WF n L F) : ∀ (m i q : Nat), i + m = n → m < q → f_X10_everywhere_5 (wr (SK b) ia fi fl qa f) q (b + 83) (nI (coN F i)) (nI i) = some (nI (coN F n)) := by
  have h8 := w.2.1
  intro m
  induction m with
  | zero =>
    intro i q hi hm
    obtain ⟨q, rfl⟩ : ∃ k, q = k + 1 := ⟨q - 1, by omega⟩
    have hin : i = n := by omega
    subst hin
    rw [f_X10_everywhere_5]
    simp only [R_83_0, A16, Option.bind_some, h.1]
    rw [if_pos (Int32.le_refl _)]
  | succ m ih =>
    intro i q hi hm
    obtain ⟨q, rfl⟩ : ∃ k, q = k + 1 := ⟨q - 1, by omega⟩
    have hin : i < n := by omega
    have hlt : ¬ nI n ≤ nI i := nI_ge (by omega) (by omega)
    rw [f_X10_everywhere_5]
    simp only [R_83_0, A16, Option.bind_some, h.1, if_neg hlt, n8, An_84 (show 8 + i < 172 by omega), (h.2 i hin).2, fa_and, nI_1]
    exact ih (i + 1) q (by omega) (by omega)
theorem m_ends_1 (h : MS (ia (b + 84)) n L F) (w : WF n L F) : ∀ (m i q : Nat), i + m = n → m < q → f_X10_ends_4 (wr (SK b) ia fi fl qa f) q (b + 83) 1 (nI (seN L i)) (nI i) = some (nI (seN L n)) := by
  have h8 := w.2.1
  intro m
  induction m with
  | zero =>
    intro i q hi hm
    obtain ⟨q, rfl⟩ : ∃ k, q = k + 1 := ⟨q - 1, by omega⟩
    have hin : i = n := by omega
    subst hin
    rw [f_X10_ends_4]
    simp only [R_83_0, A16, Option.bind_some, h.1]
    rw [if_pos (Int32.le_refl _)]
  | succ m ih =>
    intro i q hi hm
    obtain ⟨q, rfl⟩ : ∃ k, q = k + 1 := ⟨q - 1, by omega⟩
    have hin : i < n := by omega
    have hlt : ¬ nI n ≤ nI i := nI_ge (by omega) (by omega)
    rw [f_X10_ends_4]
    simp only [R_83_0, A16, Option.bind_some, h.1, if_neg hlt, i10, if_false, n0, An_84 (show i < 172 by omega), (h.2 i hin).1]
    rw [← ih (i + 1) q (by omega) (by omega)]
    show _ = f_X10_ends_4 _ q (b + 83) 1 (nI (seN L i ||| (if L i = 2 ^ i then 2 ^ i else 0))) (nI (i + 1))
    unfold f_X10_ends_36 f_X10_ends_49
    simp only [eqP (w.L31 hin) (show i < 8 by omega)]
    by_cases hE : L i = 2 ^ i
    · rw [if_pos hE, if_pos hE, bt_shl (show i < 32 by omega), fa_or, nI_1]
    · rw [if_neg hE, if_neg hE, show (0 : Int32) = nI 0 from rfl, fa_or, nI_1]
theorem m_ends_0 (h : MS (ia (b + 84)) n L F) (w : WF n L F) : ∀ (m i q : Nat), i + m = n → m < q → f_X10_ends_4 (wr (SK b) ia fi fl qa f) q (b + 83) 0 (nI (seN (fun v => colN L v n) i)) (nI i) = some (nI (seN (fun v => colN L v n) n)) := by
  have h8 := w.2.1
  intro m
  induction m with
  | zero =>
    intro i q hi hm
    obtain ⟨q, rfl⟩ : ∃ k, q = k + 1 := ⟨q - 1, by omega⟩
    have hin : i = n := by omega
    subst hin
    rw [f_X10_ends_4]
    simp only [R_83_0, A16, Option.bind_some, h.1]
    rw [if_pos (Int32.le_refl _)]
  | succ m ih =>
    intro i q hi hm
    obtain ⟨q, rfl⟩ : ∃ k, q = k + 1 := ⟨q - 1, by omega⟩
    have hin : i < n := by omega
    have hlt : ¬ nI n ≤ nI i := nI_ge (by omega) (by omega)
    rw [f_X10_ends_4]
    simp only [R_83_0, A16, Option.bind_some, h.1, if_neg hlt, i00, if_true, ck_83, m_leadingTo h w (show i < 32 by omega)]
    rw [← ih (i + 1) q (by omega) (by omega)]
    show _ = f_X10_ends_4 _ q (b + 83) 0 (nI (seN (fun v => colN L v n) i ||| (if colN L i n = 2 ^ i then 2 ^ i else 0))) (nI (i + 1))
    unfold f_X10_ends_36 f_X10_ends_49
    simp only [eqP (col8 w i) (show i < 8 by omega)]
    by_cases hE : colN L i n = 2 ^ i
    · rw [if_pos hE, if_pos hE, bt_shl (show i < 32 by omega), fa_or, nI_1]
    · rw [if_neg hE, if_neg hE, show (0 : Int32) = nI 0 from rfl, fa_or, nI_1]
theorem cnP_s (P : Nat → Prop) (k : Nat) : cnP P (k + 1) = cnP P k + @ite Nat (P k) (Classical.propDecidable _) 1 0 := rfl
theorem c_unlike_4 (hs : isSt b s) (hn : fi s 0 = nI n) (h8 : n ≤ 8) {lk : Nat → Nat} {E : Nat → Nat → Prop} (hk : ∀ v, v < n → ia (s + 4) v = nI (lk v) ∧ lk v ≤ v ∧ (lk v = v ↔ rep E v)) : ∀ (m i q : Nat), i + m = n → m < q → f_X7_unlike_4 (wr (SK b) ia fi fl qa f) q s (nI (cnP (rep E) i)) (nI i) = some (nI (cnP (rep E) n)) := by
  intro m
  induction m with
  | zero =>
    intro i q hi hm
    obtain ⟨q, rfl⟩ : ∃ k, q = k + 1 := ⟨q - 1, by omega⟩
    have hin : i = n := by omega
    subst hin
    rw [f_X7_unlike_4]
    simp only [S_I hs, Option.bind_some, hn]
    rw [if_pos (Int32.le_refl _)]
  | succ m ih =>
    intro i q hi hm
    obtain ⟨q, rfl⟩ : ∃ k, q = k + 1 := ⟨q - 1, by omega⟩
    have hin : i < n := by omega
    have hlt : ¬ nI n ≤ nI i := nI_ge (by omega) (by omega)
    obtain ⟨k1, k2, k3⟩ := hk i hin
    have q1 : (nI (lk i) = nI i) = rep E i := by
      rw [propext (nI_eq (a := lk i) (b := i) (by omega) (by omega))]
      exact propext k3
    rw [f_X7_unlike_4]
    simp only [S_I hs, Option.bind_some, hn, if_neg hlt, S_R4 hs, S_A hs (Or.inr (Or.inr (Or.inl rfl))) (show i < 8 by omega), k1]
    rw [← ih (i + 1) q (by omega) (by omega), cnP_s]
    unfold f_X7_unlike_28
    by_cases hE : rep E i
    · rw [if_pos (q1.mpr hE), if_pos hE, truth_1]
      simp only [Option.bind_some, nI_1]
    · rw [if_neg (fun e => hE (q1.mp e)), if_neg hE, truth_0]
      simp only [Option.bind_some]
      rw [show (0 : Int32) = nI 0 from rfl, nI_add, nI_1]
theorem m_unlike_8 {lk : Nat → Nat} {E : Nat → Nat → Prop} {lo : Nat → Nat} (hn : ia (b + 84) 16 = nI n) (h8 : n ≤ 8) (hk : ∀ v, v < n → ia (b + 87) v = nI (lk v) ∧ (∀ μ, f_X10_lowest (nI (lk v)) μ = some (nI (lo v))) ∧ lo v ≤ v ∧ (lo v = v ↔ rep E v)) : ∀ (m i q : Nat), i + m = n → m < q → f_X10_unlike_8 q (b + 83) (nI (cnP (rep E) i)) (nI i) (wr (SK b) ia fi fl qa f) = some (nI (cnP (rep E) n), wr (SK b) ia fi fl qa f) := by
  intro m
  induction m with
  | zero =>
    intro i q hi hm
    obtain ⟨q, rfl⟩ : ∃ k, q = k + 1 := ⟨q - 1, by omega⟩
    have hin : i = n := by omega
    subst hin
    rw [f_X10_unlike_8]
    simp only [R_83_0, A16, Option.bind_some, hn]
    rw [if_pos (Int32.le_refl _)]
  | succ m ih =>
    intro i q hi hm
    obtain ⟨q, rfl⟩ : ∃ k, q = k + 1 := ⟨q - 1, by omega⟩
    have hin : i < n := by omega
    have hlt : ¬ nI n ≤ nI i := nI_ge (by omega) (by omega)
    obtain ⟨k1, k2, k3, k4⟩ := hk i hin
    have q1 : (nI (lo i) = nI i) = rep E i := by
      rw [propext (nI_eq (a := lo i) (b := i) (by omega) (by omega))]
      exact propext k4
    rw [f_X10_unlike_8]
    simp only [R_83_0, A16, Option.bind_some, hn, if_neg hlt, R_83_5, An_87 (show i < 8 by omega), k1, k2]
    have ihs := ih (i + 1) q (by omega) (by omega)
    rw [cnP_s] at ihs
    unfold f_X10_unlike_38
    by_cases hE : rep E i
    · rw [if_pos hE] at ihs
      rw [if_pos (q1.mpr hE), nI_1, nI_1]
      exact ihs
    · rw [if_neg hE] at ihs
      rw [if_neg (fun e => hE (q1.mp e)), show (0 : Int32) = nI 0 from rfl, nI_add, nI_1]
      exact ihs
theorem low_rep {E : Nat → Nat → Prop} (hs : ∀ a c, E a c → E c a) {v l : Nat} (h : isLow E v l) (hr : E v v) : l = v ↔ rep E v := by
  constructor
  · intro e
    subst e
    exact h
  · intro hp
    rcases Nat.lt_trichotomy l v with h1 | h1 | h1
    · exact absurd h.1 (hp.2 l h1)
    · exact h1
    · exact absurd hr (h.2 v h1)
end COUNT
