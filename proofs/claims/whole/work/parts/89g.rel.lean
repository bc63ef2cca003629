/-! STAGES AS NUMBERS: L i are the stages to which i leads (bits), F i the facts known at i -/
theorem jbc : ∀ a, a < 256 → f_J6_bitCount_0f7a4 (nI a) (fun _ => none) = some (nI (bcN a 8)) := by decide +kernel
theorem jb_eq {a : Nat} (ha : a < 256) (f : mmF) : f_J6_bitCount_0f7a4 (nI a) f = some (nI (bcN a 8)) := jbc a ha
def CS (ia fi : Nat → Nat → Int32) (s n : Nat) (L F : Nat → Nat) : Prop := fi s 0 = nI n ∧ ∀ i, i < n → ia (s + 1) i = nI (L i) ∧ ia (s + 2) i = nI (F i)
def MS (row : Nat → Int32) (n : Nat) (L F : Nat → Nat) : Prop := row 16 = nI n ∧ ∀ i, i < n → row i = nI (L i) ∧ row (8 + i) = nI (F i)
def WF (n : Nat) (L F : Nat → Nat) : Prop := 1 ≤ n ∧ n ≤ 8 ∧ ∀ i, i < n → L i < 2 ^ n ∧ F i < 16
theorem p8 {n : Nat} (h : n ≤ 8) : 2 ^ n ≤ 256 := Nat.pow_le_pow_right (n := 2) (by decide) h
theorem WF.L31 {n i : Nat} {L F : Nat → Nat} (h : WF n L F) (hi : i < n) : L i < 256 := Nat.lt_of_lt_of_le (h.2.2 i hi).1 (p8 h.2.1)
def sumN (g : Nat → Nat) : Nat → Nat
  | 0 => 0
  | n + 1 => sumN g n + g n
section RD
variable {b s n : Nat} {L F : Nat → Nat} {ia fi : Nat → Nat → Int32} {fl : Nat → Nat → Int64} {qa : Nat → Nat → Option Nat} {f : mmF}
theorem c_earlier (hs : isSt b s) (h : CS ia fi s n L F) (w : WF n L F) {v : Nat} (hv : v < 32) : f_X7_earlier s (nI v) (wr (SK b) ia fi fl qa f) = some (nI (colN L v n)) := by
  rw [earlier hs h.1 w.2.1, colF_N hv n (by have := w.2.1; omega) (fun i hi => ⟨(h.2 i hi).1, by have := w.L31 hi; omega⟩)]
theorem c_knowing (hs : isSt b s) (h : CS ia fi s n L F) (w : WF n L F) {v : Nat} (hv : v < 32) : f_X7_knowing s (nI v) (wr (SK b) ia fi fl qa f) = some (nI (colN F v n)) := by
  rw [knowing hs h.1 w.2.1, colF_N hv n (by have := w.2.1; omega) (fun i hi => ⟨(h.2 i hi).2, by have := (w.2.2 i hi).2; omega⟩)]
theorem c_pairs_4 (hs : isSt b s) (h : CS ia fi s n L F) (w : WF n L F) : ∀ (m i q : Nat), i + m = n → m < q → f_X7_pairs_4 (wr (SK b) ia fi fl qa f) q s (nI (sumN (fun i => bcN (L i) 8) i)) (nI i) = some (nI (sumN (fun i => bcN (L i) 8) n)) := by
  have h8 := w.2.1
  intro m
  induction m with
  | zero =>
    intro i q hi hq
    obtain ⟨q, rfl⟩ : ∃ j, q = j + 1 := ⟨q - 1, by omega⟩
    have : i = n := by omega
    subst this
    rw [f_X7_pairs_4, S_I hs]
    simp only [Option.bind_some]
    rw [h.1, if_pos (nI_le (Nat.le_refl _) (by omega))]
  | succ m ih =>
    intro i q hi hq
    obtain ⟨q, rfl⟩ : ∃ j, q = j + 1 := ⟨q - 1, by omega⟩
    rw [f_X7_pairs_4, S_I hs]
    simp only [Option.bind_some]
    rw [h.1, if_neg (nI_ge (by omega) (by omega)), S_R1 hs]
    simp only [Option.bind_some]
    rw [S_A hs (Or.inl rfl) (by omega), (h.2 i (by omega)).1]
    simp only [Option.bind_some]
    rw [jb_eq (w.L31 (by omega))]
    simp only [Option.bind_some]
    rw [nI_1, nI_add]
    exact ih (i + 1) q (by omega) (by omega)
theorem c_pairs (hs : isSt b s) (h : CS ia fi s n L F) (w : WF n L F) : f_X7_pairs s (wr (SK b) ia fi fl qa f) = some (nI (sumN (fun i => bcN (L i) 8) n)) := by
  obtain ⟨q, hq⟩ := FU_1000
  have h8 := w.2.1
  exact c_pairs_4 hs h w n 0 FU (by omega) (by omega)
/-! the reference's -/
theorem m_leads (h : MS (ia (b + 84)) n L F) (w : WF n L F) {i v : Nat} (hi : i < n) (hv : v < 32) : f_X10_leadsTo (b + 83) (nI i) (nI v) (wr (SK b) ia fi fl qa f) = some (if (L i).testBit v then 1 else 0) := by
  have h8 := w.2.1
  have hl := w.L31 hi
  unfold f_X10_leadsTo
  rw [R_83_0]
  simp only [Option.bind_some]
  rw [n0, An_84 (by omega), (h.2 i hi).1]
  simp only [Option.bind_some]
  rw [bt_get (by omega) hv]
  cases (L i).testBit v
  · rw [if_neg (by decide)]; rfl
  · rw [if_pos (by decide)]; rfl
theorem m_leadingTo_4 (h : MS (ia (b + 84)) n L F) (w : WF n L F) {v : Nat} (hv : v < 32) : ∀ (m i q : Nat), i + m = n → m < q → f_X10_leadingTo_4 (wr (SK b) ia fi fl qa f) q (b + 83) (nI v) (nI (colN L v i)) (nI i) = some (nI (colN L v n)) := by
  have h8 := w.2.1
  intro m
  induction m with
  | zero =>
    intro i q hi hq
    obtain ⟨q, rfl⟩ : ∃ j, q = j + 1 := ⟨q - 1, by omega⟩
    have : i = n := by omega
    subst this
    rw [f_X10_leadingTo_4, R_83_0]
    simp only [Option.bind_some]
    rw [A16]
    simp only [Option.bind_some]
    rw [h.1, if_pos (nI_le (Nat.le_refl _) (by omega))]
  | succ m ih =>
    intro i q hi hq
    obtain ⟨q, rfl⟩ : ∃ j, q = j + 1 := ⟨q - 1, by omega⟩
    rw [f_X10_leadingTo_4, R_83_0]
    simp only [Option.bind_some]
    rw [A16]
    simp only [Option.bind_some]
    rw [h.1, if_neg (nI_ge (by omega) (by omega)), ck_83]
    simp only [Option.bind_some]
    rw [m_leads h w (by omega) hv]
    simp only [Option.bind_some]
    have e := ih (i + 1) q (by omega) (by omega)
    have ec : colN L v (i + 1) = colN L v i ||| (if (L i).testBit v then 2 ^ i else 0) := rfl
    rw [ec] at e
    cases hb : (L i).testBit v
    · rw [hb] at e
      rw [if_pos (by rfl)]
      unfold f_X10_leadingTo_32
      rw [nI_1, show (0 : Int32) = nI 0 from rfl, fa_or]
      exact e
    · rw [hb] at e
      rw [if_neg (by decide)]
      unfold f_X10_leadingTo_32
      rw [nI_1, bt_shl (by omega), fa_or]
      exact e
theorem m_leadingTo (h : MS (ia (b + 84)) n L F) (w : WF n L F) {v : Nat} (hv : v < 32) : f_X10_leadingTo (b + 83) (nI v) (wr (SK b) ia fi fl qa f) = some (nI (colN L v n)) := by
  obtain ⟨q, hq⟩ := FU_1000
  have h8 := w.2.1
  exact m_leadingTo_4 h w hv n 0 FU (by omega) (by omega)
theorem m_knownAt_4 (h : MS (ia (b + 84)) n L F) (w : WF n L F) {v : Nat} (hv : v < 32) : ∀ (m i q : Nat), i + m = n → m < q → f_X10_knownAt_4 (wr (SK b) ia fi fl qa f) q (b + 83) (nI v) (nI (colN F v i)) (nI i) = some (nI (colN F v n)) := by
  have h8 := w.2.1
  intro m
  induction m with
  | zero =>
    intro i q hi hq
    obtain ⟨q, rfl⟩ : ∃ j, q = j + 1 := ⟨q - 1, by omega⟩
    have : i = n := by omega
    subst this
    rw [f_X10_knownAt_4, R_83_0]
    simp only [Option.bind_some]
    rw [A16]
    simp only [Option.bind_some]
    rw [h.1, if_pos (nI_le (Nat.le_refl _) (by omega))]
  | succ m ih =>
    intro i q hi hq
    obtain ⟨q, rfl⟩ : ∃ j, q = j + 1 := ⟨q - 1, by omega⟩
    have hf := (w.2.2 i (by omega)).2
    rw [f_X10_knownAt_4, R_83_0]
    simp only [Option.bind_some]
    rw [A16]
    simp only [Option.bind_some]
    rw [h.1, if_neg (nI_ge (by omega) (by omega)), n8, An_84 (by omega), (h.2 i (by omega)).2]
    simp only [Option.bind_some]
    have e := ih (i + 1) q (by omega) (by omega)
    have ec : colN F v (i + 1) = colN F v i ||| (if (F i).testBit v then 2 ^ i else 0) := rfl
    rw [ec, ← fa_or] at e
    rw [nI_1, bt_get (by omega) hv]
    cases hb : (F i).testBit v
    · rw [hb] at e
      rw [if_neg (by decide)]
      have z : (0 : Int32) <<< (nI i &&& 31) = nI 0 := by
        rw [bt_31 (by omega)]
        have := pk_shlN (n := 0) (nI i) i (bt_sm i (by omega)) (by rw [Nat.zero_mul]; decide)
        rw [Nat.zero_mul] at this
        exact this
      rw [z]
      exact e
    · rw [hb] at e
      rw [if_pos (by decide), bt_shl (by omega)]
      exact e
theorem m_knownAt (h : MS (ia (b + 84)) n L F) (w : WF n L F) {v : Nat} (hv : v < 32) : f_X10_knownAt (b + 83) (nI v) (wr (SK b) ia fi fl qa f) = some (nI (colN F v n)) := by
  obtain ⟨q, hq⟩ := FU_1000
  have h8 := w.2.1
  exact m_knownAt_4 h w hv n 0 FU (by omega) (by omega)
theorem sub_step (A B q : Nat) : (nI A - nI B) + (nI q - 1) = nI (A + q) - nI (B + 1) := by
  rw [← nI_add, ← nI_1]
  simp only [Int32.sub_eq_add_neg, Int32.neg_add]
  ac_rfl
theorem m_pairs_4 (h : MS (ia (b + 84)) n L F) (w : WF n L F) : ∀ (m i q : Nat), i + m = n → m < q → f_X10_pairs_4 (wr (SK b) ia fi fl qa f) q (b + 83) (nI (sumN (fun i => bcN (L i) 8) i) - nI i) (nI i) = some (nI (sumN (fun i => bcN (L i) 8) n) - nI n) := by
  have h8 := w.2.1
  intro m
  induction m with
  | zero =>
    intro i q hi hq
    obtain ⟨q, rfl⟩ : ∃ j, q = j + 1 := ⟨q - 1, by omega⟩
    have : i = n := by omega
    subst this
    rw [f_X10_pairs_4, R_83_0]
    simp only [Option.bind_some]
    rw [A16]
    simp only [Option.bind_some]
    rw [h.1, if_pos (nI_le (Nat.le_refl _) (by omega))]
  | succ m ih =>
    intro i q hi hq
    obtain ⟨q, rfl⟩ : ∃ j, q = j + 1 := ⟨q - 1, by omega⟩
    have hl := w.L31 (show i < n by omega)
    rw [f_X10_pairs_4, R_83_0]
    simp only [Option.bind_some]
    rw [A16]
    simp only [Option.bind_some]
    rw [h.1, if_neg (nI_ge (by omega) (by omega)), n0, An_84 (by omega), (h.2 i (by omega)).1]
    simp only [Option.bind_some]
    rw [bits_eq (by omega), bcN_more (n := 8) (m := 8) (a := L i) hl]
    simp only [Option.bind_some]
    rw [sub_step, nI_1]
    exact ih (i + 1) q (by omega) (by omega)
theorem m_pairs (h : MS (ia (b + 84)) n L F) (w : WF n L F) : f_X10_pairs (b + 83) (wr (SK b) ia fi fl qa f) = some (nI (sumN (fun i => bcN (L i) 8) n) - nI n) := by
  obtain ⟨q, hq⟩ := FU_1000
  have h8 := w.2.1
  have e := m_pairs_4 (fi := fi) (fl := fl) (qa := qa) (f := f) h w n 0 FU (by omega) (by omega)
  have e0 : nI (sumN (fun i => bcN (L i) 8) 0) - nI 0 = (0 : Int32) := by
    show nI 0 - nI 0 = (0 : Int32)
    decide
  rw [e0] at e
  exact e
end RD
