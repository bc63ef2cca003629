/-! BITS OF SMALL NUMBERS (fa_and, fa_or began as rows of the kit's laws) -/
theorem fa_and (a b : Nat) : nI a &&& nI b = nI (a &&& b) := by
  apply Int32.toBitVec_inj.1
  show BitVec.ofNat 32 a &&& BitVec.ofNat 32 b = BitVec.ofNat 32 (a &&& b)
  apply BitVec.eq_of_getLsbD_eq
  intro i hi
  simp [hi]
theorem fa_or (a b : Nat) : nI a ||| nI b = nI (a ||| b) := by
  apply Int32.toBitVec_inj.1
  show BitVec.ofNat 32 a ||| BitVec.ofNat 32 b = BitVec.ofNat 32 (a ||| b)
  apply BitVec.eq_of_getLsbD_eq
  intro i hi
  simp [hi]
theorem bt_31 {k : Nat} (h : k < 32) : nI k &&& 31 = nI k := by
  have e := pk_andN (n := k) (m := 31) (by omega) 5 (by decide)
  rw [e, Nat.mod_eq_of_lt (by omega)]
theorem bt_sm : ∀ k, k < 32 → ((nI k).toBitVec.smod 32).toNat = k := by decide +kernel
theorem bt_shr {a k : Nat} (ha : a < 2 ^ 31) (hk : k < 32) : nI a >>> (nI k &&& 31) = nI (a / 2 ^ k) := by
  rw [bt_31 hk]
  exact pk_shrN ha _ k (bt_sm k hk)
theorem bt_shl {k : Nat} (hk : k < 32) : (1 : Int32) <<< (nI k &&& 31) = nI (2 ^ k) := by
  rw [bt_31 hk]
  have := pk_shlN (n := 1) (nI k) k (bt_sm k hk) (by rw [Nat.one_mul]; exact Nat.pow_lt_pow_right (by decide) hk)
  rw [Nat.one_mul] at this
  exact this
theorem bt_one (a : Nat) (ha : a < 2 ^ 32) : nI a &&& 1 = nI (a % 2) := pk_andN (n := a) (m := 1) ha 1 (by decide)
/-- the bit k of a -/
theorem bt_get {a k : Nat} (ha : a < 2 ^ 31) (hk : k < 32) : (nI a >>> (nI k &&& 31)) &&& 1 = if a.testBit k then 1 else 0 := by
  rw [bt_shr ha hk, bt_one _ (by have := Nat.div_le_self a (2 ^ k); omega), Nat.testBit_eq_decide_div_mod_eq]
  have h2 : a / 2 ^ k % 2 < 2 := Nat.mod_lt _ (by decide)
  by_cases h : a / 2 ^ k % 2 = 1
  · simp only [h, decide_true, if_true]; rfl
  · have h0 : a / 2 ^ k % 2 = 0 := by omega
    simp only [h0]
    rfl
theorem bt_0 {a k : Nat} (ha : a < 2 ^ 31) (hk : k < 32) : ((nI a >>> (nI k &&& 31)) &&& 1 = 0) ↔ a.testBit k = false := by
  rw [bt_get ha hk]
  cases a.testBit k
  · simp
  · simp
theorem bt_1 {a k : Nat} (ha : a < 2 ^ 31) (hk : k < 32) : ((nI a >>> (nI k &&& 31)) &&& 1 = 1) ↔ a.testBit k = true := by
  rw [bt_get ha hk]
  cases a.testBit k
  · simp
  · simp
theorem bt_lt {a n : Nat} (h : a < 2 ^ n) {i : Nat} (hi : n ≤ i) : a.testBit i = false := Nat.testBit_lt_two_pow (Nat.lt_of_lt_of_le h (Nat.pow_le_pow_right (by decide) hi))
theorem bt_lim {a n : Nat} (h : ∀ i, n ≤ i → a.testBit i = false) : a < 2 ^ n := Nat.lt_pow_two_of_testBit a h
theorem bt_pow {k i : Nat} : (2 ^ k).testBit i = decide (k = i) := Nat.testBit_two_pow
theorem or_lt {a c n : Nat} (ha : a < 2 ^ n) (hc : c < 2 ^ n) : a ||| c < 2 ^ n := Nat.or_lt_two_pow ha hc
/-- the i below n whose number has the bit v -/
def colN (G : Nat → Nat) (v : Nat) (n : Nat) : Nat := fo (fun i x => x ||| (if (G i).testBit v then 2 ^ i else 0)) n 0
theorem colN_bit (G : Nat → Nat) (v i : Nat) : ∀ n : Nat, (colN G v n).testBit i = (decide (i < n) && (G i).testBit v) := by
  intro n
  induction n with
  | zero => simp [colN, fo]
  | succ n ih =>
    show ((colN G v n) ||| (if (G n).testBit v then 2 ^ n else 0)).testBit i = _
    rw [Nat.testBit_or, ih]
    by_cases hi : i = n
    · subst hi
      cases h : (G i).testBit v <;> simp [bt_pow]
    · have h1 : decide (i < n + 1) = decide (i < n) := by
        by_cases h : i < n
        · simp [h, Nat.lt_succ_of_lt h]
        · have : ¬ i < n + 1 := by omega
          simp [h, this]
      rw [h1]
      cases h : (G n).testBit v
      · simp
      · simp [bt_pow, Ne.symm hi]
theorem colN_lt (G : Nat → Nat) (v n : Nat) : colN G v n < 2 ^ n := by
  apply bt_lim
  intro i hi
  rw [colN_bit]
  have : ¬ i < n := by omega
  simp [this]
theorem colF_N {g : Nat → Int32} {G : Nat → Nat} {v : Nat} (hv : v < 32) : ∀ n : Nat, n ≤ 31 → (∀ i, i < n → g i = nI (G i) ∧ G i < 2 ^ 31) → colF g (nI v) n = nI (colN G v n) := by
  intro n
  induction n with
  | zero => intro _ _; rfl
  | succ n ih =>
    intro hn hg
    show colF g (nI v) n ||| (((g n >>> (nI v &&& 31)) &&& 1) <<< (nI n &&& 31)) = nI (colN G v n ||| (if (G n).testBit v then 2 ^ n else 0))
    rw [ih (by omega) (fun i hi => hg i (by omega)), (hg n (by omega)).1, bt_get (hg n (by omega)).2 hv, ← fa_or]
    congr 1
    cases (G n).testBit v
    · simp only [Bool.false_eq_true, if_false]
      rw [bt_31 (by omega)]
      have := pk_shlN (n := 0) (nI n) n (bt_sm n (by omega)) (by rw [Nat.zero_mul]; decide)
      rw [Nat.zero_mul] at this
      exact this
    · simp only [if_true]
      exact bt_shl (by omega)
/-- how many bits below k -/
def bcN (a : Nat) : Nat → Nat
  | 0 => 0
  | k + 1 => bcN a k + (if a.testBit k then 1 else 0)
theorem bcN_le (a : Nat) : ∀ k : Nat, bcN a k ≤ k
  | 0 => Nat.le_refl 0
  | k + 1 => by
    have := bcN_le a k
    show bcN a k + _ ≤ k + 1
    split <;> omega
theorem bcN_more {a n : Nat} (h : a < 2 ^ n) : ∀ m : Nat, bcN a (n + m) = bcN a n := by
  intro m
  induction m with
  | zero => rfl
  | succ m ih =>
    show bcN a (n + m) + (if a.testBit (n + m) then 1 else 0) = _
    rw [ih, bt_lt h (by omega)]
    simp
theorem bits_4 {a : Nat} (ha : a < 2 ^ 31) (f : mmF) : ∀ (m i q : Nat), i + m = 16 → m < q → f_X10_bits_4 f q (nI a) (nI (bcN a i)) (nI i) = some (nI (bcN a 16)) := by
  intro m
  induction m with
  | zero =>
    intro i q hi hq
    obtain ⟨q, rfl⟩ : ∃ j, q = j + 1 := ⟨q - 1, by omega⟩
    have : i = 16 := by omega
    subst this
    rw [f_X10_bits_4, if_pos (show (16 : Int32) ≤ nI 16 by decide)]
  | succ m ih =>
    intro i q hi hq
    obtain ⟨q, rfl⟩ : ∃ j, q = j + 1 := ⟨q - 1, by omega⟩
    have hlt : ¬ (16 : Int32) ≤ nI i := nI_ge (a := i) (b := 16) (by omega) (by decide)
    rw [f_X10_bits_4, if_neg hlt, bt_get ha (by omega), nI_1, ← ih (i + 1) q (by omega) (by omega)]
    congr 1
    show _ = nI (bcN a i + (if a.testBit i then 1 else 0))
    rw [← nI_add]
    congr 1
    cases a.testBit i <;> rfl
theorem bits_eq {a : Nat} (ha : a < 2 ^ 31) (f : mmF) : f_X10_bits (nI a) f = some (nI (bcN a 16)) := by
  obtain ⟨q, hq⟩ := FU_1000
  exact bits_4 ha f 16 0 FU rfl (by omega)
