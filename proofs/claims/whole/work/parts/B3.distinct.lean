/-! claim 3: how many different parts, counted both ways -/
def mN (Pn : Nat → Nat) : Nat → Nat := fun n => fo (fun j x => x ||| 2 ^ Pn j) n 0
def cnD (Pn : Nat → Nat) : Nat → Nat
  | 0 => 0
  | i + 1 => cnD Pn i + (if (mN Pn i).testBit (Pn i) then 0 else 1)
theorem mN_bit (Pn : Nat → Nat) (r : Nat) : ∀ n, (mN Pn n).testBit r = true ↔ ∃ j, j < n ∧ Pn j = r := by
  intro n
  induction n with
  | zero =>
    constructor
    · intro h
      rw [show mN Pn 0 = 0 from rfl, Nat.zero_testBit] at h
      cases h
    · intro ⟨j, h, _⟩; exact absurd h (Nat.not_lt_zero _)
  | succ n ih =>
    rw [show mN Pn (n + 1) = mN Pn n ||| 2 ^ Pn n from rfl, Nat.testBit_or, Bool.or_eq_true, ih, Nat.testBit_two_pow]
    constructor
    · intro h
      rcases h with ⟨j, h1, h2⟩ | h
      · exact ⟨j, by omega, h2⟩
      · exact ⟨n, by omega, of_decide_eq_true h⟩
    · intro ⟨j, h1, h2⟩
      by_cases hj : j = n
      · subst hj; exact Or.inr (decide_eq_true h2)
      · exact Or.inl ⟨j, by omega, h2⟩
theorem bcN_or (a p : Nat) : ∀ n, bcN (a ||| 2 ^ p) n = bcN a n + (if p < n then (if a.testBit p then 0 else 1) else 0) := by
  intro n
  induction n with
  | zero => rfl
  | succ n ih =>
    show bcN (a ||| 2 ^ p) n + (if (a ||| 2 ^ p).testBit n then 1 else 0) = bcN a n + (if a.testBit n then 1 else 0) + _
    rw [ih, Nat.testBit_or, Nat.testBit_two_pow]
    by_cases hp : p = n
    · subst hp
      rw [if_neg (Nat.lt_irrefl p), if_pos (Nat.lt_succ_self p), decide_eq_true rfl, Bool.or_true]
      cases a.testBit p <;> rfl
    · rw [decide_eq_false hp, Bool.or_false]
      by_cases hl : p < n
      · rw [if_pos hl, if_pos (show p < n + 1 by omega)]; omega
      · rw [if_neg hl, if_neg (show ¬ p < n + 1 by omega)]; omega
theorem cnD_bc {Pn : Nat → Nat} {S k : Nat} (h : ∀ j, j < k → Pn j < S) : ∀ i, i ≤ k → cnD Pn i = bcN (mN Pn i) S := by
  intro i
  induction i with
  | zero =>
    intro _
    show 0 = bcN 0 S
    induction S with
    | zero => rfl
    | succ S ih2 => 
      show 0 = bcN 0 S + (if Nat.testBit 0 S then 1 else 0)
      rw [Nat.zero_testBit]
      have : ∀ n, bcN 0 n = 0 := fun n => by
        induction n with
        | zero => rfl
        | succ n ih => show bcN 0 n + (if Nat.testBit 0 n then 1 else 0) = 0; rw [ih, Nat.zero_testBit]; rfl
      rw [this]; rfl
  | succ i ih =>
    intro hi
    rw [cnD, ih (by omega), show mN Pn (i + 1) = mN Pn i ||| 2 ^ Pn i from rfl, bcN_or, if_pos (h i (by omega))]
theorem bcN_hi {a : Nat} : ∀ m, (∀ r, 6 ≤ r → r < 6 + m → a.testBit r = true) → bcN a (6 + m) = bcN a 6 + m := by
  intro m
  induction m with
  | zero => intro _; rfl
  | succ m ih =>
    intro h
    show bcN a (6 + m) + (if a.testBit (6 + m) then 1 else 0) = _
    rw [ih (fun r h1 h2 => h r h1 (by omega)), h (6 + m) (by omega) (by omega)]
    rfl
theorem bcN_cg {a c : Nat} : ∀ n, (∀ r, r < n → a.testBit r = c.testBit r) → bcN a n = bcN c n := by
  intro n
  induction n with
  | zero => intro _; rfl
  | succ n ih =>
    intro h
    show bcN a n + (if a.testBit n then 1 else 0) = bcN c n + (if c.testBit n then 1 else 0)
    rw [ih (fun r hr => h r (by omega)), h n (by omega)]
theorem uLf_bit (g : Nat → Nat) (r : Nat) : ∀ n, (uLf g 0 n).testBit r = true ↔ ∃ j, j < n ∧ g j = r ∧ r < 6 := by
  intro n
  induction n with
  | zero =>
    constructor
    · intro h
      rw [show uLf g 0 0 = 0 from rfl, Nat.zero_testBit] at h
      cases h
    · intro ⟨j, h, _⟩; exact absurd h (Nat.not_lt_zero _)
  | succ n ih =>
    rw [show uLf g 0 (n + 1) = uLf g 0 n ||| (if g n < 6 then 2 ^ g n else 0) from rfl, Nat.testBit_or, Bool.or_eq_true, ih]
    constructor
    · intro h
      rcases h with ⟨j, h1, h2⟩ | h
      · exact ⟨j, by omega, h2⟩
      · by_cases h6 : g n < 6
        · rw [if_pos h6, Nat.testBit_two_pow] at h
          have := of_decide_eq_true h
          exact ⟨n, by omega, this, by omega⟩
        · rw [if_neg h6, Nat.zero_testBit] at h
          cases h
    · intro ⟨j, h1, h2, h3⟩
      by_cases hj : j = n
      · subst hj
        refine Or.inr ?_
        rw [if_pos (by omega), Nat.testBit_two_pow]
        exact decide_eq_true h2
      · exact Or.inl ⟨j, by omega, h2, h3⟩
theorem uLf_lt (g : Nat → Nat) (n : Nat) : uLf g 0 n < 2 ^ 6 := bt_lim fun i hi => by
  cases hb : (uLf g 0 n).testBit i with
  | false => rfl
  | true =>
    obtain ⟨j, _, _, h⟩ := (uLf_bit g i n).mp hb
    omega
theorem cnD_all {g Pn kd lf rt : Nat → Nat} {S k : Nat} (h6 : 6 ≤ S) (hn : NP g S kd lf rt Pn k) (hs : ∀ r, 6 ≤ r → r < S → ∃ j, j < k ∧ Pn j = r) (hg : ∀ j, j < k → g j < 10) : cnD Pn k = S - 6 + bcN (uLf g 0 k) 8 := by
  have e8 : bcN (uLf g 0 k) 8 = bcN (uLf g 0 k) 6 := bcN_more (uLf_lt g k) 2
  obtain ⟨m, rfl⟩ : ∃ m, S = 6 + m := ⟨S - 6, by omega⟩
  rw [cnD_bc (fun j hj => (hn j hj).1) k (Nat.le_refl _), bcN_hi m (fun r h1 h2 => (mN_bit Pn r k).mpr (hs r h1 h2)), e8]
  have : bcN (mN Pn k) 6 = bcN (uLf g 0 k) 6 := bcN_cg 6 fun r hr => by
    have hh : (mN Pn k).testBit r = true ↔ (uLf g 0 k).testBit r = true := by
      rw [mN_bit, uLf_bit]
      constructor
      · intro ⟨j, h1, h2⟩
        obtain ⟨n1, n2, n3, n4⟩ := hn j h1
        refine ⟨j, h1, ?_, hr⟩
        by_cases c6 : g j < 6
        · rw [← n2 c6]; exact h2
        · by_cases c7 : g j = 6
          · have := (n3 c7).1; omega
          · have := (n4 (by omega)).1; omega
      · intro ⟨j, h1, h2, _⟩
        exact ⟨j, h1, by rw [(hn j h1).2.1 (by omega)]; exact h2⟩
    cases h1 : (mN Pn k).testBit r <;> cases h2 : (uLf g 0 k).testBit r
    · rfl
    · rw [h1, h2] at hh; exact absurd (hh.mpr rfl) (by decide)
    · rw [h1, h2] at hh; exact absurd (hh.mp rfl) (by decide)
    · rfl
  rw [this]
  omega
