/-! THE TABLE ITSELF AS A GOOD ALGEBRA: what the reference's search makes, by its structure -/
/-- the part that is made so, before n; J if none is -/
def ixT (op lf rt : Nat → Nat) (k x y J : Nat) : Nat → Nat
  | 0 => J
  | i + 1 => if op i = k ∧ lf i = x ∧ rt i = y then i else ixT op lf rt k x y J i
def ixL (P : Nat) (op lf rt : Nat → Nat) (k : Nat) : Nat := if k = 4 then 0 else if k = 5 then 1 else ixT op lf rt k 0 0 P P
def ixB (P : Nat) (op lf rt : Nat → Nat) (k x y : Nat) : Nat :=
  if k = 7 then (if x = 0 ∨ x = y then y else if y = 0 then x else if x = 1 ∨ y = 1 then 1 else ixT op lf rt 7 x y P P)
  else if k = 8 then (if x = 1 ∨ x = y then y else if y = 1 then x else if x = 0 ∨ y = 0 then 0 else ixT op lf rt 8 x y P P)
  else if x = 0 then y else if x = 1 ∨ y = 0 ∨ x = y then 0 else ixT op lf rt 9 x y P P
section IX
variable {P : Nat} {op lf rt : Nat → Nat}
theorem ixT_or (k x y J : Nat) : ∀ n, ixT op lf rt k x y J n = J ∨ (ixT op lf rt k x y J n < n ∧ op (ixT op lf rt k x y J n) = k ∧ lf (ixT op lf rt k x y J n) = x ∧ rt (ixT op lf rt k x y J n) = y)
  | 0 => Or.inl rfl
  | n + 1 => by
    by_cases h : op n = k ∧ lf n = x ∧ rt n = y
    · have e : ixT op lf rt k x y J (n + 1) = n := if_pos h
      rw [e]
      exact Or.inr ⟨Nat.lt_succ_self _, h⟩
    · have e : ixT op lf rt k x y J (n + 1) = ixT op lf rt k x y J n := if_neg h
      rw [e]
      rcases ixT_or k x y J n with h1 | h1
      · exact Or.inl h1
      · exact Or.inr ⟨Nat.lt_succ_of_lt h1.1, h1.2⟩
theorem ixT_in (ho : RPo P op lf rt) {k x y J p : Nat} (hp : p < P) (h : op p = k ∧ lf p = x ∧ rt p = y) : ∀ n, n ≤ P → p < n → ixT op lf rt k x y J n = p
  | 0, _, h0 => absurd h0 (Nat.not_lt_zero _)
  | n + 1, hn, h0 => by
    by_cases c : op n = k ∧ lf n = x ∧ rt n = y
    · have e : ixT op lf rt k x y J (n + 1) = n := if_pos c
      rw [e]
      exact ho.2 n p (by omega) hp (c.1.trans h.1.symm) (c.2.1.trans h.2.1.symm) (c.2.2.trans h.2.2.symm)
    · have e : ixT op lf rt k x y J (n + 1) = ixT op lf rt k x y J n := if_neg c
      rw [e]
      refine ixT_in ho hp h n (by omega) ?_
      by_cases e2 : p = n
      · subst e2; exact absurd h c
      · omega
theorem ix9 (x y : Nat) : ixB P op lf rt 9 x y = if x = 0 then y else if x = 1 ∨ y = 0 ∨ x = y then 0 else ixT op lf rt 9 x y P P := by
  unfold ixB
  rw [if_neg (by decide), if_neg (by decide)]
theorem ix7 (x y : Nat) : ixB P op lf rt 7 x y = if x = 0 ∨ x = y then y else if y = 0 then x else if x = 1 ∨ y = 1 then 1 else ixT op lf rt 7 x y P P := if_pos rfl
theorem ix8 (x y : Nat) : ixB P op lf rt 8 x y = if x = 1 ∨ x = y then y else if y = 1 then x else if x = 0 ∨ y = 0 then 0 else ixT op lf rt 8 x y P P := by
  unfold ixB
  rw [if_neg (by decide), if_pos rfl]
theorem ix_GA : GA (ixL P op lf rt) (fun x => ixB P op lf rt 9 x 1) (ixB P op lf rt) (fun _ => True) := by
  have l4 : ixL P op lf rt 4 = 0 := if_pos rfl
  have l5 : ixL P op lf rt 5 = 1 := by
    unfold ixL
    rw [if_neg (by decide), if_pos rfl]
  refine ⟨fun _ _ => trivial, fun _ _ _ _ _ _ _ => trivial, fun x _ => by rw [l5], fun x _ => ?_, fun x _ => ?_, fun x _ => ?_⟩
  · rw [l4, l5, ix7, ix7, ix7, ix7, ix7]
    refine ⟨if_pos (Or.inl rfl), if_pos (Or.inr rfl), ?_, ?_, ?_⟩
    · by_cases c : x = 0 ∨ x = 0
      · rw [if_pos c]; omega
      · rw [if_neg c, if_pos rfl]
    · by_cases c : 1 = 0 ∨ 1 = x
      · rw [if_pos c]; omega
      · rw [if_neg c]
        by_cases c2 : x = 0
        · rw [if_pos c2]
        · rw [if_neg c2, if_pos (Or.inl rfl)]
    · by_cases c : x = 0 ∨ x = 1
      · rw [if_pos c]
      · rw [if_neg c, if_neg (by decide), if_pos (Or.inr rfl)]
  · rw [l4, l5, ix8, ix8, ix8, ix8, ix8]
    refine ⟨if_pos (Or.inl rfl), if_pos (Or.inr rfl), ?_, ?_, ?_⟩
    · by_cases c : x = 1 ∨ x = 1
      · rw [if_pos c]; omega
      · rw [if_neg c, if_pos rfl]
    · by_cases c : 0 = 1 ∨ 0 = x
      · rw [if_pos c]; omega
      · rw [if_neg c]
        by_cases c2 : x = 1
        · rw [if_pos c2]
        · rw [if_neg c2, if_pos (Or.inl rfl)]
    · by_cases c : x = 1 ∨ x = 0
      · rw [if_pos c]
      · rw [if_neg c, if_neg (by decide), if_pos (Or.inr rfl)]
  · rw [l4, l5, ix9, ix9, ix9, ix9]
    refine ⟨if_pos rfl, by rw [if_neg (by decide), if_pos (Or.inl rfl)], ?_, ?_⟩
    · by_cases c : x = 0
      · rw [if_pos c]
      · rw [if_neg c, if_pos (Or.inr (Or.inl rfl))]
    · by_cases c : x = 0
      · rw [if_pos c]; exact c
      · rw [if_neg c, if_pos (Or.inr (Or.inr rfl))]
/-- a part's value is its number -/
theorem ix_qv (ho : RPo P op lf rt) : ∀ p, p < P → qv (ixL P op lf rt) (ixB P op lf rt) op lf rt P p = p := by
  intro p
  induction p using Nat.strongRecOn with
  | _ p ih =>
    intro hp
    rcases ho.1 p hp with h | h | h
    · rw [qv_lf (by omega)]
      unfold ixL
      by_cases e : p = 0
      · subst e; rw [if_pos (by omega)]
      · rw [if_neg (by omega), if_pos (by omega)]; omega
    · rw [qv_lf (by omega)]
      unfold ixL
      rw [if_neg (by omega), if_neg (by omega)]
      exact ixT_in ho hp ⟨rfl, h.2.2.1, h.2.2.2⟩ P (Nat.le_refl _) hp
    · obtain ⟨o1, o2, o3, o4, o5, o6, o7, o8, o9⟩ := h
      rw [qv_op (by omega) o5 o7, ih _ o5 (by omega), ih _ o7 (by omega)]
      have hin : ∀ k, op p = k → ixT op lf rt k (lf p) (rt p) P P = p := fun k hk => ixT_in ho hp ⟨hk, rfl, rfl⟩ P (Nat.le_refl _) hp
      obtain e | e | e : op p = 7 ∨ op p = 8 ∨ op p = 9 := by omega
      · have : rt p ≠ 1 := fun h1 => by have := o9 h1; omega
        rw [e, ix7, if_neg (by omega), if_neg (by omega), if_neg (by omega), hin 7 e]
      · have : rt p ≠ 1 := fun h1 => by have := o9 h1; omega
        rw [e, ix8, if_neg (by omega), if_neg (by omega), if_neg (by omega), hin 8 e]
      · rw [e, ix9, if_neg (by omega), if_neg (by omega), hin 9 e]
/-- what 'implies' makes -/
def impS (op lf rt : Nat → Nat) (r x y : Nat) : Prop := (x = 0 ∧ r = y) ∨ ((x = 1 ∨ y = 0 ∨ x = y) ∧ r = 0) ∨ (x ≠ 0 ∧ x ≠ 1 ∧ y ≠ 0 ∧ x ≠ y ∧ op r = 9 ∧ lf r = x ∧ rt r = y)
theorem gI_str (ho : RPo P op lf rt) {r x y : Nat} (hr : r < P) (hx : x < P) (hy : y < P) (h : gI op lf rt r x y) : impS op lf rt r x y := by
  have e := h Nat (ixL P op lf rt) (fun x => ixB P op lf rt 9 x 1) (ixB P op lf rt) (fun _ => True) P ix_GA
  rw [ix_qv ho r hr, ix_qv ho x hx, ix_qv ho y hy, ix9] at e
  by_cases c1 : x = 0
  · rw [if_pos c1] at e; exact Or.inl ⟨c1, e⟩
  rw [if_neg c1] at e
  by_cases c2 : x = 1 ∨ y = 0 ∨ x = y
  · rw [if_pos c2] at e; exact Or.inr (Or.inl ⟨c2, e⟩)
  rw [if_neg c2] at e
  rcases ixT_or (op := op) (lf := lf) (rt := rt) 9 x y P P with h1 | ⟨_, h2, h3, h4⟩
  · omega
  · rw [← e] at h2 h3 h4
    exact Or.inr (Or.inr ⟨c1, by omega, by omega, by omega, h2, h3, h4⟩)
/-- the part of a node -/
def ndP (P : Nat) (op lf rt : Nat → Nat) (g : Nat → Nat) (i : Nat) : Nat := nv (ixL P op lf rt) (fun x => ixB P op lf rt 9 x 1) (ixB P op lf rt) g P i
theorem isPN.nd {g : Nat → Nat} {i r : Nat} (ho : RPo P op lf rt) (h : isPN P op lf rt g i r) : ndP P op lf rt g i = r := by
  have e := h.2 Nat (ixL P op lf rt) (fun x => ixB P op lf rt 9 x 1) (ixB P op lf rt) (fun _ => True) P P ix_GA
  rw [ix_qv ho r h.1] at e
  exact e.symm
end IX
