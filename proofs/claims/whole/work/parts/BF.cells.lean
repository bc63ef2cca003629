/-! THE REFERENCE'S SMALL MODELS: words of 32 models -/
theorem fa_xor (a b : Nat) : nI a ^^^ nI b = nI (a ^^^ b) := by
  apply Int32.toBitVec_inj.mp
  apply BitVec.eq_of_toNat_eq
  simp only [Int32.toBitVec_xor, BitVec.toNat_xor]
  show (BitVec.ofNat 32 a).toNat ^^^ (BitVec.ofNat 32 b).toNat = (BitVec.ofNat 32 (a ^^^ b)).toNat
  simp only [BitVec.toNat_ofNat]
  rw [Nat.xor_mod_two_pow]
theorem m1_n : (-1 : Int32) = nI 4294967295 := by decide
theorem not32 (v : Nat) : nI v ^^^ (-1 : Int32) = nI (4294967295 ^^^ v) := by rw [m1_n, fa_xor, Nat.xor_comm]
theorem x32_bit (v : Nat) {j : Nat} (hj : j < 32) : (4294967295 ^^^ v).testBit j = !v.testBit j := by
  rw [Nat.testBit_xor, show (4294967295 : Nat) = 2 ^ 32 - 1 from rfl, Nat.testBit_two_pow_sub_one, decide_eq_true hj]
  cases v.testBit j <;> rfl
theorem f32_bit {j : Nat} (hj : j < 32) : (4294967295 : Nat).testBit j = true := by
  rw [show (4294967295 : Nat) = 2 ^ 32 - 1 from rfl, Nat.testBit_two_pow_sub_one]
  exact decide_eq_true hj
theorem x32_lt {v : Nat} (hv : v < 2 ^ 32) : 4294967295 ^^^ v < 2 ^ 32 := Nat.xor_lt_two_pow (by decide) hv
def kW (k : Nat) : Nat := if k = 0 then 1 else if k = 1 then 3 else if k = 2 then 8 else 20
def kM (k : Nat) : Nat := if k = 0 then 16 else if k = 1 then 81 else if k = 2 then 256 else 625
def kB (k : Nat) : Nat := if k = 0 then 0 else if k = 1 then 1 else if k = 2 then 7 else 31
def kS (k : Nat) : Nat := if k = 0 then 1 else if k = 1 then 2 else 3
theorem k4 {k : Nat} (h : k < 4) : k = 0 ∨ k = 1 ∨ k = 2 ∨ k = 3 := by omega
section CELLS
variable {f : mmF}
theorem wordsOf_t {k : Nat} (h : k < 4) (f : mmF) : f_X10_wordsOf (nI k) f = some (nI (kW k)) := by
  rcases k4 h with rfl | rfl | rfl | rfl <;> rfl
theorem models_t {k : Nat} (h : k < 4) (f : mmF) : f_X10_models (nI k) f = some (nI (kM k)) := by
  rcases k4 h with rfl | rfl | rfl | rfl <;> rfl
theorem begin_t {k : Nat} (h : k < 4) (f : mmF) : f_X10_begin (nI k) f = some (nI (kB k)) := by
  rcases k4 h with rfl | rfl | rfl | rfl <;> rfl
/-- which way a fact goes in a model; whether it is known at a stage -/
def kWay (k m fact : Nat) : Nat := m / (k + 2) ^ fact % (k + 2)
def knB (k m s fact : Nat) : Bool := if k < 3 then decide (k + 1 ≤ s + kWay k m fact) else (decide (kWay k m fact = 4) || (decide (0 < s) && (kWay k m fact).testBit (s - 1)))
theorem kWay_lt (k m fact : Nat) : kWay k m fact < k + 2 := Nat.mod_lt _ (by omega)
theorem isIn_t {X i : Nat} (hX : X < 2 ^ 31) (hi : i < 32) (f : mmF) : f_X10_isIn (nI X) (nI i) f = some (if X.testBit i = true then 1 else 0) := by
  have hq : X / 2 ^ i < 2 ^ 31 := Nat.lt_of_le_of_lt (Nat.div_le_self _ _) hX
  unfold f_X10_isIn
  rw [bt_shr hX hi, bt_one _ (Nat.lt_trans hq (by decide)), Nat.testBit_eq_decide_div_mod_eq]
  have h2 : X / 2 ^ i % 2 = 0 ∨ X / 2 ^ i % 2 = 1 := by omega
  rcases h2 with h2 | h2
  · rw [h2]; rfl
  · rw [h2]; rfl
theorem known_35 {k m s fact : Nat} (hk : k < 4) (hm : m < 2 ^ 31) (hs : s < 3) (hf : fact < 4) : ∀ (n i q : Nat), i + n = fact → n < q → f_X10_isKnownIn_35 f q (nI k) (nI s) (nI fact) (nI (k + 2)) (nI (m / (k + 2) ^ i)) (nI i) = some (if knB k m s fact = true then 1 else 0) := by
  have w0 : ¬ nI (k + 2) = (0 : Int32) := nI_ne0 (by omega) (by omega)
  intro n
  induction n with
  | zero =>
    intro i q hi hq
    obtain ⟨q, rfl⟩ : ∃ k, q = k + 1 := ⟨q - 1, by omega⟩
    have e : i = fact := by omega
    subst e
    have hd : m / (k + 2) ^ i < 2 ^ 31 := Nat.lt_of_le_of_lt (Nat.div_le_self _ _) hm
    have hw : m / (k + 2) ^ i % (k + 2) = kWay k m i := rfl
    have hwl := kWay_lt k m i
    rw [f_X10_isKnownIn_35, if_pos (Int32.le_refl _), if_neg w0]
    simp only [pk_rem hd (show 0 < k + 2 by omega) (show k + 2 < 2 ^ 31 by omega), hw]
    unfold knB
    by_cases h3 : k < 3
    · rw [if_neg (show ¬ (3 : Int32) ≤ nI k from nI_ge (b := 3) h3 (by decide)), if_pos h3, show (1 : Int32) = nI 1 from rfl, pk_sub (show 1 ≤ k + 2 by omega), pk_sub (show kWay k m i ≤ k + 2 - 1 by omega)]
      by_cases hc : k + 1 ≤ s + kWay k m i
      · rw [if_neg (nI_nlt (show k + 2 - 1 - kWay k m i ≤ s by omega) (by omega)), decide_eq_true hc]
        rfl
      · rw [if_pos (nI_lt (show s < k + 2 - 1 - kWay k m i by omega) (by omega)), decide_eq_false hc]
        rfl
    · have e3 : k = 3 := by omega
      rw [if_pos (show (3 : Int32) ≤ nI k from nI_le (a := 3) (by omega) (by omega)), if_neg h3]
      have q4 : (nI (kWay k m i) = (4 : Int32)) = (kWay k m i = 4) := propext (nI_eq (b := 4) (by omega) (by decide))
      simp only [q4]
      by_cases h4 : kWay k m i = 4
      · rw [if_pos h4, decide_eq_true h4]; rfl
      · rw [if_neg h4, decide_eq_false h4]
        by_cases h0 : s = 0
        · subst h0
          rw [if_pos (show nI 0 ≤ (0 : Int32) by decide)]
          rfl
        · rw [if_neg (nI_nle (by omega) (by omega)), show (1 : Int32) = nI 1 from rfl, pk_sub (show 1 ≤ s by omega), isIn_t (by omega) (by omega), decide_eq_true (show 0 < s by omega)]
          simp only [Option.bind_some, Bool.false_or, Bool.true_and]
          cases (kWay k m i).testBit (s - 1) <;> rfl
  | succ n ih =>
    intro i q hi hq
    obtain ⟨q, rfl⟩ : ∃ k, q = k + 1 := ⟨q - 1, by omega⟩
    have hd : m / (k + 2) ^ i < 2 ^ 31 := Nat.lt_of_le_of_lt (Nat.div_le_self _ _) hm
    rw [f_X10_isKnownIn_35, if_neg (nI_ge (show i < fact by omega) (by omega)), if_neg w0, pk_div hd (show 0 < k + 2 by omega) (show k + 2 < 2 ^ 31 by omega), nI_1, Nat.div_div_eq_div_mul, ← Nat.pow_succ]
    exact ih (i + 1) q (by omega) (by omega)
theorem known_t {k m s fact : Nat} (hk : k < 4) (hm : m < 2 ^ 31) (hs : s < 3) (hf : fact < 4) : f_X10_isKnownIn (nI k) (nI m) (nI s) (nI fact) f = some (if knB k m s fact = true then 1 else 0) := by
  obtain ⟨q, hq⟩ := FU_1000
  have h := known_35 (f := f) hk hm hs hf fact 0 FU (by omega) (by omega)
  rw [Nat.pow_zero, Nat.div_one] at h
  rcases k4 hk with rfl | rfl | rfl | rfl <;> exact h
theorem fact_6 {k s w fact : Nat} (hk : k < 4) (hs : s < 3) (hw : w < 20) (hf : fact < 4) : ∀ (n i q X : Nat), i + n = 32 → n < q → X < 2 ^ 32 → (∀ j, X.testBit j = true → j < i) → (∀ j, j < i → X.testBit j = (decide (32 * w + j < kM k) && knB k (32 * w + j) s fact)) → ∃ Y, Y < 2 ^ 32 ∧ f_X10_factWord_6 f q (nI k) (nI s) (nI w) (nI fact) (nI X) (nI i) = some (nI Y) ∧ ∀ j, j < 32 → Y.testBit j = (decide (32 * w + j < kM k) && knB k (32 * w + j) s fact) := by
  have hM : kM k ≤ 625 := by rcases k4 hk with rfl | rfl | rfl | rfl <;> decide
  intro n
  induction n with
  | zero =>
    intro i q X hi hq hX h1 h2
    obtain ⟨q, rfl⟩ : ∃ k, q = k + 1 := ⟨q - 1, by omega⟩
    have e : i = 32 := by omega
    subst e
    refine ⟨X, hX, ?_, h2⟩
    rw [f_X10_factWord_6, if_pos (show (32 : Int32) ≤ nI 32 by decide)]
  | succ n ih =>
    intro i q X hi hq hX h1 h2
    obtain ⟨q, rfl⟩ : ∃ k, q = k + 1 := ⟨q - 1, by omega⟩
    have hi32 : i < 32 := by omega
    have em : (32 : Int32) * nI w + nI i = nI (32 * w + i) := by rw [show (32 : Int32) = nI 32 from rfl, pk_mul, nI_add]
    have hXi : X.testBit i = false := by
      cases h : X.testBit i with
      | false => rfl
      | true => exact absurd (h1 i h) (Nat.lt_irrefl _)
    have no : (decide (32 * w + i < kM k) && knB k (32 * w + i) s fact) = false → ∃ Y, Y < 2 ^ 32 ∧ f_X10_factWord_52 (fun a0 a1 a2 a3 a4 a5 => f_X10_factWord_6 f q a0 a1 a2 a3 a4 a5) f (nI k) (nI s) (nI w) (nI fact) (nI i) (nI X) = some (nI Y) ∧ ∀ j, j < 32 → Y.testBit j = (decide (32 * w + j < kM k) && knB k (32 * w + j) s fact) := by
      intro hb
      unfold f_X10_factWord_52 f_X10_factWord_53
      rw [show (0 : Int32) = nI 0 from rfl, fa_or, Nat.or_zero, nI_1]
      refine ih (i + 1) q X (by omega) (by omega) hX (fun j hj => Nat.lt_succ_of_lt (h1 j hj)) (fun j hj => ?_)
      by_cases e : j = i
      · subst e; rw [hXi, hb]
      · exact h2 j (by omega)
    rw [f_X10_factWord_6, if_neg (show ¬ (32 : Int32) ≤ nI i from nI_ge (b := 32) hi32 (by decide)), models_t hk]
    simp only [Option.bind_some, em]
    by_cases hlt : 32 * w + i < kM k
    · rw [if_neg (nI_ge hlt (by omega)), known_t hk (by omega) hs hf]
      simp only [Option.bind_some]
      cases hb : knB k (32 * w + i) s fact with
      | false =>
        rw [if_neg (show ¬ (false = true) by decide), if_pos rfl]
        exact no (by rw [hb, Bool.and_false])
      | true =>
        rw [if_pos rfl, if_neg (by decide)]
        unfold f_X10_factWord_53
        rw [bt_shl hi32, fa_or, nI_1]
        refine ih (i + 1) q (X ||| 2 ^ i) (by omega) (by omega) (or_lt hX (Nat.pow_lt_pow_right (by decide) hi32)) (fun j hj => ?_) (fun j hj => ?_)
        · rw [Nat.testBit_or, Nat.testBit_two_pow, Bool.or_eq_true, decide_eq_true_eq] at hj
          rcases hj with hj | hj
          · exact Nat.lt_succ_of_lt (h1 j hj)
          · omega
        · rw [Nat.testBit_or, Nat.testBit_two_pow]
          by_cases e : j = i
          · subst e; rw [hb, decide_eq_true hlt]; simp
          · rw [decide_eq_false (fun h => e h.symm), Bool.or_false]; exact h2 j (by omega)
    · rw [if_pos (nI_le (by omega) (by omega))]
      exact no (by rw [decide_eq_false hlt, Bool.false_and])
theorem fword_t {k s w fact : Nat} (hk : k < 4) (hs : s < 3) (hw : w < 20) (hf : fact < 4) : ∃ Y, Y < 2 ^ 32 ∧ f_X10_factWord (nI k) (nI s) (nI w) (nI fact) f = some (nI Y) ∧ ∀ j, j < 32 → Y.testBit j = (decide (32 * w + j < kM k) && knB k (32 * w + j) s fact) := by
  obtain ⟨q, hq⟩ := FU_1000
  exact fact_6 hk hs hw hf 32 0 FU 0 (by omega) (by omega) (by decide) (fun j h => by rw [Nat.zero_testBit] at h; cases h) (fun j h => absurd h (Nat.not_lt_zero _))
end CELLS
