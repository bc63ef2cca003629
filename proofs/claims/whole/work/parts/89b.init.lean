/-! WHAT THE CONSTRUCTORS LAY -/
theorem stF_of {f : mmF} {a c j : Nat} {l : List Value} {v : Value} (h : f a = some (.inr (c, l))) (hj : j < l.length) : stF f a c j v = some (va_up f a (some (.inr (c, l.set j v)))) := by
  simp only [stF, h]
  rw [if_pos ⟨trivial, hj⟩]
theorem ldR_of {f : mmF} {a c j v : Nat} {l : List Value} (h : f a = some (.inr (c, l))) (hl : l[j]? = some (.ref v)) : ldR f a c j = some v := by
  simp only [ldR, ldF, h, if_pos, hl]
theorem ldI_of {f : mmF} {a c j : Nat} {v : Int32} {l : List Value} (h : f a = some (.inr (c, l))) (hl : l[j]? = some (.int v)) : ldI f a c j = some v := by
  simp only [ldI, ldF, h, if_pos, hl]
theorem stA_of {f : mmF} {a t n i : Nat} {g : Nat → Int32} {x : Int32} (h : f a = some (.inl (t, n, .inl g))) (hi : i < n) (hn : n < 2 ^ 31) : stA t f a (nI i) x = some (va_up f a (some (.inl (t, n, .inl (upd g i x))))) := by
  simp only [stA, h]
  rw [if_pos ⟨trivial, nI_in hi hn⟩, nI_clamp (by omega)]
theorem stQ_of {f : mmF} {a t n i ci v : Nat} {l : List Value} {g : Nat → Option Nat} (h : f a = some (.inl (t, n, .inr (.inr (.inr (.inr g)))))) (hi : i < n) (hn : n < 2 ^ 31) (ho : f v = some (.inr (ci, l))) : stQ t ci f a (nI i) (some v) = some (va_up f a (some (.inl (t, n, .inr (.inr (.inr (.inr (va_up g i (some v))))))))) := by
  have hk : okQ f ci (some v) = true := by simp only [okQ, ho, beq_self_eq_true]
  simp only [stQ, h]
  rw [if_pos ⟨⟨trivial, nI_in hi hn⟩, hk⟩, nI_clamp (by omega)]
theorem lenA_of {f : mmF} {a t n : Nat} {y : (Nat → Int32) ⊕ (Nat → Int64) ⊕ (Nat → UInt32) ⊕ (Nat → UInt64) ⊕ (Nat → Option Nat)} (h : f a = some (.inl (t, n, y))) (ht : t ≤ 9) : lenA f a = some (nI n) := by
  simp only [lenA, h]
  rw [if_pos ht]
  rfl
theorem up_same {f : mmF} {a : Nat} {v : Option va_E} (h : f a = v) : va_up f a v = f := by
  funext q
  by_cases hq : q = a
  · subst hq; rw [va_up_self, h]
  · rw [va_up_ne _ _ hq]
abbrev z3 : va_E := .inr (3, [.long 0, .long 0, .long 0])
theorem i_X3 {f : mmF} {a : Nat} (h : f a = some z3) : f_X3_init a f = some f := by
  unfold f_X3_init
  rw [stF_of h (by decide)]
  show (stF (va_up f a (some z3)) a 3 1 (.long 0)).bind _ = _
  rw [up_same h, stF_of h (by decide)]
  show (stF (va_up f a (some z3)) a 3 2 (.long 0)).bind _ = _
  rw [up_same h, stF_of h (by decide)]
  show some (va_up f a (some z3)) = _
  rw [up_same h]
abbrev zI (t n : Nat) (g : Nat → Int32) : Option va_E := some (.inl (t, n, .inl g))
abbrev zQ (t n : Nat) (g : Nat → Option Nat) : Option va_E := some (.inl (t, n, .inr (.inr (.inr (.inr g)))))
theorem i_X7 {f : mmF} {a : Nat} (h : f a = some (.inr (7, [.int 0, .null, .null, .null, .null, .null, .null]))) : ∃ f1 : mmF, f_X7_init a f (a + 1) = some (f1, a + 7) ∧ f1 a = some (.inr (7, [.int 1, .ref (a + 1), .ref (a + 2), .ref (a + 3), .ref (a + 4), .ref (a + 5), .ref (a + 6)])) ∧ f1 (a + 1) = zI 0 8 (upd (fun _ => 0) 0 1) ∧ f1 (a + 2) = zI 0 8 (fun _ => 0) ∧ f1 (a + 3) = zQ 3 5 (fun _ => none) ∧ f1 (a + 4) = zI 0 8 (fun _ => 0) ∧ f1 (a + 5) = zI 0 8 (fun _ => 0) ∧ f1 (a + 6) = zI 0 151 (fun _ => 0) ∧ ∀ q : Nat, q < a ∨ a + 7 ≤ q → f1 q = f q := by
  have e : ∀ (g : mmF) (x : Nat) (v : Option va_E), x ≠ a → va_up g x v a = g a := fun g x v hx => va_up_ne _ _ (Ne.symm hx)
  unfold f_X7_init
  rw [stF_of h (by decide)]
  simp only [Option.bind_some, List.set_cons_zero, List.set_cons_succ]
  rw [stF_of (l := [.int 1, .null, .null, .null, .null, .null, .null]) (by rw [e _ _ _ (by omega), va_up_self]) (by decide)]
  simp only [Option.bind_some, List.set_cons_zero, List.set_cons_succ]
  rw [stF_of (l := [.int 1, .ref (a + 1), .null, .null, .null, .null, .null]) (by rw [e _ _ _ (by omega), va_up_self]) (by simp)]
  simp only [Option.bind_some, List.set_cons_zero, List.set_cons_succ]
  rw [stF_of (l := [.int 1, .ref (a + 1), .ref (a + 1 + 1), .null, .null, .null, .null]) (by rw [e _ _ _ (by omega), va_up_self]) (by simp)]
  simp only [Option.bind_some, List.set_cons_zero, List.set_cons_succ]
  rw [stF_of (l := [.int 1, .ref (a + 1), .ref (a + 1 + 1), .ref (a + 1 + 1 + 1), .null, .null, .null]) (by rw [e _ _ _ (by omega), va_up_self]) (by simp)]
  simp only [Option.bind_some, List.set_cons_zero, List.set_cons_succ]
  rw [stF_of (l := [.int 1, .ref (a + 1), .ref (a + 1 + 1), .ref (a + 1 + 1 + 1), .ref (a + 1 + 1 + 1 + 1), .null, .null]) (by rw [e _ _ _ (by omega), va_up_self]) (by simp)]
  simp only [Option.bind_some, List.set_cons_zero, List.set_cons_succ]
  rw [stF_of (l := [.int 1, .ref (a + 1), .ref (a + 1 + 1), .ref (a + 1 + 1 + 1), .ref (a + 1 + 1 + 1 + 1), .ref (a + 1 + 1 + 1 + 1 + 1), .null]) (by rw [e _ _ _ (by omega), va_up_self]) (by simp)]
  simp only [Option.bind_some, List.set_cons_zero, List.set_cons_succ]
  rw [ldR_of (l := [.int 1, .ref (a + 1), .ref (a + 1 + 1), .ref (a + 1 + 1 + 1), .ref (a + 1 + 1 + 1 + 1), .ref (a + 1 + 1 + 1 + 1 + 1), .ref (a + 1 + 1 + 1 + 1 + 1 + 1)]) (v := a + 1) (va_up_self _ _ _) rfl]
  simp only [Option.bind_some]
  rw [show (0 : Int32) = nI 0 from rfl, stA_of (n := 8) (g := fun _ => nI 0) (by simp [va_up]) (by decide) (by decide)]
  simp only [Option.bind_some]
  refine ⟨_, rfl, ?_, ?_, ?_, ?_, ?_, ?_, ?_, ?_⟩
  · simp [va_up]
  · simp [va_up]
  · simp [va_up]
  · simp [va_up]
  · simp [va_up]
  · simp [va_up]
  · simp [va_up]
  · intro q hq
    have h0 : q ≠ a := by omega
    have h1 : q ≠ a + 1 := by omega
    have h2 : q ≠ a + 1 + 1 := by omega
    have h3 : q ≠ a + 1 + 1 + 1 := by omega
    have h4 : q ≠ a + 1 + 1 + 1 + 1 := by omega
    have h5 : q ≠ a + 1 + 1 + 1 + 1 + 1 := by omega
    have h6 : q ≠ a + 1 + 1 + 1 + 1 + 1 + 1 := by omega
    simp only [va_up, if_neg h0, if_neg h1, if_neg h2, if_neg h3, if_neg h4, if_neg h5, if_neg h6]
theorem i_X8 {f : mmF} {a : Nat} (h : f a = some (.inr (8, [.int 0, .null, .null, .int 0, .null, .int 0, .int 0]))) : ∃ f1 : mmF, f_X8_init a f (a + 1) = some (f1, a + 4) ∧ f1 a = some (.inr (8, [.int 0, .ref (a + 1), .ref (a + 2), .int 0, .ref (a + 3), .int 0, .int 0])) ∧ f1 (a + 1) = zI 0 30 (fun _ => 0) ∧ f1 (a + 2) = zI 0 30 (fun _ => 0) ∧ f1 (a + 3) = zI 0 30 (fun _ => 0) ∧ ∀ q : Nat, q < a ∨ a + 4 ≤ q → f1 q = f q := by
  have e : ∀ (g : mmF) (x : Nat) (v : Option va_E), x ≠ a → va_up g x v a = g a := fun g x v hx => va_up_ne _ _ (Ne.symm hx)
  unfold f_X8_init
  rw [stF_of h (by decide)]
  simp only [Option.bind_some, List.set_cons_zero, List.set_cons_succ]
  rw [stF_of (l := [.int 0, .null, .null, .int 0, .null, .int 0, .int 0]) (by rw [e _ _ _ (by omega), va_up_self]) (by decide)]
  simp only [Option.bind_some, List.set_cons_zero, List.set_cons_succ]
  rw [stF_of (l := [.int 0, .ref (a + 1), .null, .int 0, .null, .int 0, .int 0]) (by rw [e _ _ _ (by omega), va_up_self]) (by simp)]
  simp only [Option.bind_some, List.set_cons_zero, List.set_cons_succ]
  rw [stF_of (l := [.int 0, .ref (a + 1), .ref (a + 1 + 1), .int 0, .null, .int 0, .int 0]) (va_up_self _ _ _) (by simp)]
  simp only [Option.bind_some, List.set_cons_zero, List.set_cons_succ]
  rw [stF_of (l := [.int 0, .ref (a + 1), .ref (a + 1 + 1), .int 0, .null, .int 0, .int 0]) (by rw [e _ _ _ (by omega), va_up_self]) (by simp)]
  simp only [Option.bind_some, List.set_cons_zero, List.set_cons_succ]
  rw [stF_of (l := [.int 0, .ref (a + 1), .ref (a + 1 + 1), .int 0, .ref (a + 1 + 1 + 1), .int 0, .int 0]) (va_up_self _ _ _) (by simp)]
  simp only [Option.bind_some, List.set_cons_zero, List.set_cons_succ]
  rw [stF_of (l := [.int 0, .ref (a + 1), .ref (a + 1 + 1), .int 0, .ref (a + 1 + 1 + 1), .int 0, .int 0]) (va_up_self _ _ _) (by simp)]
  simp only [Option.bind_some, List.set_cons_zero, List.set_cons_succ]
  refine ⟨_, rfl, ?_, ?_, ?_, ?_, ?_⟩
  · simp [va_up]
  · simp [va_up]
  · simp [va_up]
  · simp [va_up]
  · intro q hq
    have h0 : q ≠ a := by omega
    have h1 : q ≠ a + 1 := by omega
    have h2 : q ≠ a + 1 + 1 := by omega
    have h3 : q ≠ a + 1 + 1 + 1 := by omega
    simp only [va_up, if_neg h0, if_neg h1, if_neg h2, if_neg h3]
theorem i_X2 {f : mmF} {a : Nat} (h : f a = some (.inr (2, [.null, .null, .null, .null, .int 0]))) : ∃ f1 : mmF, f_X2_init a f (a + 1) = some (f1, a + 5) ∧ f1 a = some (.inr (2, [.ref (a + 1), .ref (a + 2), .ref (a + 3), .ref (a + 4), .int 0])) ∧ f1 (a + 1) = some z3 ∧ f1 (a + 2) = some z3 ∧ f1 (a + 3) = some z3 ∧ f1 (a + 4) = some z3 ∧ ∀ q : Nat, q < a ∨ a + 5 ≤ q → f1 q = f q := by
  have e : ∀ (g : mmF) (x : Nat) (v : Option va_E), x ≠ a → va_up g x v a = g a := fun g x v hx => va_up_ne _ _ (Ne.symm hx)
  unfold f_X2_init
  simp only [Option.bind_some]
  rw [i_X3 (va_up_self _ _ _)]
  simp only [Option.bind_some]
  rw [stF_of (l := [.null, .null, .null, .null, .int 0]) (by rw [e _ _ _ (by omega), h]) (by decide)]
  simp only [Option.bind_some, List.set_cons_zero, List.set_cons_succ]
  rw [i_X3 (va_up_self _ _ _)]
  simp only [Option.bind_some]
  rw [stF_of (l := [.ref (a + 1), .null, .null, .null, .int 0]) (by rw [e _ _ _ (by omega), va_up_self]) (by simp)]
  simp only [Option.bind_some, List.set_cons_zero, List.set_cons_succ]
  rw [i_X3 (va_up_self _ _ _)]
  simp only [Option.bind_some]
  rw [stF_of (l := [.ref (a + 1), .ref (a + 1 + 1), .null, .null, .int 0]) (by rw [e _ _ _ (by omega), va_up_self]) (by simp)]
  simp only [Option.bind_some, List.set_cons_zero, List.set_cons_succ]
  rw [i_X3 (va_up_self _ _ _)]
  simp only [Option.bind_some]
  rw [stF_of (l := [.ref (a + 1), .ref (a + 1 + 1), .ref (a + 1 + 1 + 1), .null, .int 0]) (by rw [e _ _ _ (by omega), va_up_self]) (by simp)]
  simp only [Option.bind_some, List.set_cons_zero, List.set_cons_succ]
  rw [stF_of (l := [.ref (a + 1), .ref (a + 1 + 1), .ref (a + 1 + 1 + 1), .ref (a + 1 + 1 + 1 + 1), .int 0]) (va_up_self _ _ _) (by simp)]
  simp only [Option.bind_some, List.set_cons_zero, List.set_cons_succ]
  refine ⟨_, rfl, ?_, ?_, ?_, ?_, ?_, ?_⟩
  · simp [va_up]
  · simp [va_up]
  · simp [va_up]
  · simp [va_up]
  · simp [va_up]
  · intro q hq
    have h0 : q ≠ a := by omega
    have h1 : q ≠ a + 1 := by omega
    have h2 : q ≠ a + 1 + 1 := by omega
    have h3 : q ≠ a + 1 + 1 + 1 := by omega
    have h4 : q ≠ a + 1 + 1 + 1 + 1 := by omega
    simp only [va_up, if_neg h0, if_neg h1, if_neg h2, if_neg h3, if_neg h4]
theorem FU_k (k : Nat) (hk : k ≤ 2 ^ 7000) : ∃ n : Nat, FU = n + k := ⟨FU - k, by have := FU_ge; omega⟩
theorem FU_1000 : ∃ n : Nat, FU = n + 1000 := FU_k 1000 (Nat.le_trans (show 1000 ≤ 2 ^ 10 by decide) (Nat.pow_le_pow_right (by decide) (by decide)))
theorem gen1 {m : mmF} {g : mmF → Option (mmF × Nat)} {z : Nat} {P : mmF → Prop} (h : ∀ G : mmF, G = m → ∃ f1 : mmF, g G = some (f1, z) ∧ P f1) : ∃ f1 : mmF, g m = some (f1, z) ∧ P f1 := h m rfl
theorem stF_ex {f : mmF} {a c j : Nat} {l : List Value} {v : Value} (h : f a = some (.inr (c, l))) (hj : j < l.length) : ∃ g : mmF, stF f a c j v = some g ∧ g a = some (.inr (c, l.set j v)) ∧ ∀ q : Nat, q ≠ a → g q = f q := ⟨_, stF_of h hj, va_up_self _ _ _, fun _ hq => va_up_ne _ _ hq⟩
/-- kinds: the first six name themselves -/
theorem i_X4_68 {a s : Nat} : ∀ (m i : Nat) (n : Nat) (f : mmF) (g : Nat → Int32), i + m = 6 → m < n → f a = some (.inr (4, [.int 6, .ref (a + 1), .ref (a + 2), .ref (a + 3), .ref (a + 4), .int 0, .ref (a + 5), .ref (a + 6)])) → f (a + 1) = zI 0 151 g → (∀ j, g j = if j < i then nI j else 0) → ∃ f1 : mmF, f_X4_init_68 n a (nI i) f s = some (f1, s) ∧ f1 (a + 1) = zI 0 151 (fun j => if j < 6 then nI j else 0) ∧ ∀ q : Nat, q ≠ a + 1 → f1 q = f q := by
  intro m
  induction m with
  | zero =>
    intro i n f g hi hn h0 h1 hg
    obtain ⟨n, rfl⟩ : ∃ k, n = k + 1 := ⟨n - 1, by omega⟩
    have hi6 : i = 6 := by omega
    subst hi6
    rw [f_X4_init_68, if_pos (show (6 : Int32) ≤ nI 6 by decide)]
    refine ⟨f, rfl, ?_, fun _ _ => rfl⟩
    rw [h1]
    have : g = fun j => if j < 6 then nI j else 0 := funext hg
    rw [this]
  | succ m ih =>
    intro i n f g hi hn h0 h1 hg
    obtain ⟨n, rfl⟩ : ∃ k, n = k + 1 := ⟨n - 1, by omega⟩
    have hlt : ¬ (6 : Int32) ≤ nI i := nI_ge (a := i) (b := 6) (by omega) (by decide)
    rw [f_X4_init_68, if_neg hlt, ldR_of h0 (v := a + 1) rfl]
    simp only [Option.bind_some]
    rw [stA_of h1 (by omega) (by decide)]
    simp only [Option.bind_some]
    rw [nI_1]
    obtain ⟨f1, e1, e2, e3⟩ := ih (i + 1) n (va_up f (a + 1) (zI 0 151 (upd g i (nI i)))) (upd g i (nI i)) (by omega) (by omega) (by rw [va_up_ne _ _ (by omega)]; exact h0) (va_up_self _ _ _) (fun j => by
      by_cases hj : j = i
      · subst hj; rw [pk_us, if_pos (by omega)]
      · rw [pk_un hj, hg]
        by_cases hj2 : j < i
        · rw [if_pos hj2, if_pos (by omega)]
        · rw [if_neg hj2, if_neg (by omega)])
    exact ⟨f1, e1, e2, fun q hq => by rw [e3 q hq, va_up_ne _ _ hq]⟩
theorem i_X4 {f : mmF} {a : Nat} (h : f a = some (.inr (4, [.int 0, .null, .null, .null, .null, .int 0, .null, .null]))) : ∃ f1 : mmF, f_X4_init a f (a + 1) = some (f1, a + 7) ∧ f1 a = some (.inr (4, [.int 6, .ref (a + 1), .ref (a + 2), .ref (a + 3), .ref (a + 4), .int 0, .ref (a + 5), .ref (a + 6)])) ∧ f1 (a + 1) = zI 0 151 (fun j => if j < 6 then nI j else 0) ∧ f1 (a + 2) = zI 0 151 (fun _ => 0) ∧ f1 (a + 3) = zI 0 151 (fun _ => 0) ∧ f1 (a + 4) = zI 0 5 (fun _ => 0) ∧ f1 (a + 5) = zI 0 30 (fun _ => 0) ∧ f1 (a + 6) = zI 0 151 (fun _ => 0) ∧ ∀ q : Nat, q < a ∨ a + 7 ≤ q → f1 q = f q := by
  have e : ∀ (g : mmF) (x : Nat) (v : Option va_E), x ≠ a → va_up g x v a = g a := fun g x v hx => va_up_ne _ _ (Ne.symm hx)
  unfold f_X4_init
  rw [stF_of h (by decide)]
  simp only [Option.bind_some, List.set_cons_zero, List.set_cons_succ]
  rw [stF_of (l := [.int 6, .null, .null, .null, .null, .int 0, .null, .null]) (by rw [e _ _ _ (by omega), va_up_self]) (by decide)]
  simp only [Option.bind_some, List.set_cons_zero, List.set_cons_succ]
  rw [stF_of (l := [.int 6, .ref (a + 1), .null, .null, .null, .int 0, .null, .null]) (by rw [e _ _ _ (by omega), va_up_self]) (by simp)]
  simp only [Option.bind_some, List.set_cons_zero, List.set_cons_succ]
  rw [stF_of (l := [.int 6, .ref (a + 1), .ref (a + 1 + 1), .null, .null, .int 0, .null, .null]) (by rw [e _ _ _ (by omega), va_up_self]) (by simp)]
  simp only [Option.bind_some, List.set_cons_zero, List.set_cons_succ]
  rw [stF_of (l := [.int 6, .ref (a + 1), .ref (a + 1 + 1), .ref (a + 1 + 1 + 1), .null, .int 0, .null, .null]) (by rw [e _ _ _ (by omega), va_up_self]) (by simp)]
  simp only [Option.bind_some, List.set_cons_zero, List.set_cons_succ]
  rw [stF_of (l := [.int 6, .ref (a + 1), .ref (a + 1 + 1), .ref (a + 1 + 1 + 1), .ref (a + 1 + 1 + 1 + 1), .int 0, .null, .null]) (va_up_self _ _ _) (by simp)]
  simp only [Option.bind_some, List.set_cons_zero, List.set_cons_succ]
  rw [stF_of (l := [.int 6, .ref (a + 1), .ref (a + 1 + 1), .ref (a + 1 + 1 + 1), .ref (a + 1 + 1 + 1 + 1), .int 0, .null, .null]) (by rw [e _ _ _ (by omega), va_up_self]) (by simp)]
  simp only [Option.bind_some, List.set_cons_zero, List.set_cons_succ]
  rw [stF_of (l := [.int 6, .ref (a + 1), .ref (a + 1 + 1), .ref (a + 1 + 1 + 1), .ref (a + 1 + 1 + 1 + 1), .int 0, .ref (a + 1 + 1 + 1 + 1 + 1), .null]) (by rw [e _ _ _ (by omega), va_up_self]) (by simp)]
  simp only [Option.bind_some, List.set_cons_zero, List.set_cons_succ]
  obtain ⟨n, hn⟩ := FU_1000
  rw [hn]
  refine gen1 (g := fun G => f_X4_init_68 (n + 1000) a (0 : Int32) G (a + 1 + 1 + 1 + 1 + 1 + 1 + 1)) (fun G hG => ?_)
  have Ga : G a = some (.inr (4, [.int 6, .ref (a + 1), .ref (a + 2), .ref (a + 3), .ref (a + 4), .int 0, .ref (a + 5), .ref (a + 6)])) := by rw [hG]; exact va_up_self _ _ _
  have G1 : G (a + 1) = zI 0 151 (fun _ => 0) := by rw [hG]; simp [va_up]
  have G2 : G (a + 2) = zI 0 151 (fun _ => 0) := by rw [hG]; simp [va_up]
  have G3 : G (a + 3) = zI 0 151 (fun _ => 0) := by rw [hG]; simp [va_up]
  have G4 : G (a + 4) = zI 0 5 (fun _ => 0) := by rw [hG]; simp [va_up]
  have G5 : G (a + 5) = zI 0 30 (fun _ => 0) := by rw [hG]; simp [va_up]
  have G6 : G (a + 6) = zI 0 151 (fun _ => 0) := by rw [hG]; simp [va_up]
  have Go : ∀ q : Nat, q < a ∨ a + 7 ≤ q → G q = f q := by
    intro q hq
    rw [hG]
    simp only [va_up]
    repeat rw [if_neg (by omega)]
  clear hG
  obtain ⟨f1, e1, e2, e3⟩ := i_X4_68 (a := a) (s := a + 1 + 1 + 1 + 1 + 1 + 1 + 1) 6 0 (n + 1000) G (fun _ => 0) rfl (by omega) Ga G1 (fun j => rfl)
  exact ⟨f1, e1, (e3 _ (by omega)).trans Ga, e2, (e3 _ (by omega)).trans G2, (e3 _ (by omega)).trans G3, (e3 _ (by omega)).trans G4, (e3 _ (by omega)).trans G5, (e3 _ (by omega)).trans G6, fun q hq => (e3 q (by omega)).trans (Go q hq)⟩
theorem i_X6_53 {a s : Nat} {l : List Value} (hl : l[1]? = some (.ref s)) {w : Nat} : ∀ (m i : Nat) (n : Nat) (f : mmF) (g : Nat → Int32), i + m = 151 → m < n → f a = some (.inr (6, l)) → a ≠ s → f s = zI 0 151 g → (∀ j, g j = if j < i then 65535 else 0) → ∃ f1 : mmF, f_X6_init_53 n a (nI i) f w = some (f1, w) ∧ f1 s = zI 0 151 (fun j => if j < 151 then 65535 else 0) ∧ ∀ q : Nat, q ≠ s → f1 q = f q := by
  intro m
  induction m with
  | zero =>
    intro i n f g hi hn h0 has h1 hg
    obtain ⟨n, rfl⟩ : ∃ k, n = k + 1 := ⟨n - 1, by omega⟩
    have hi6 : i = 151 := by omega
    subst hi6
    rw [f_X6_init_53, ldR_of h0 hl]
    simp only [Option.bind_some]
    rw [lenA_of h1 (by decide)]
    simp only [Option.bind_some]
    rw [if_pos (show nI 151 ≤ nI 151 by decide)]
    refine ⟨f, rfl, ?_, fun _ _ => rfl⟩
    rw [h1]
    have : g = fun j => if j < 151 then 65535 else 0 := funext hg
    rw [this]
  | succ m ih =>
    intro i n f g hi hn h0 has h1 hg
    obtain ⟨n, rfl⟩ : ∃ k, n = k + 1 := ⟨n - 1, by omega⟩
    have hlt : ¬ nI 151 ≤ nI i := nI_ge (a := i) (b := 151) (by omega) (by decide)
    rw [f_X6_init_53, ldR_of h0 hl]
    simp only [Option.bind_some]
    rw [lenA_of h1 (by decide)]
    simp only [Option.bind_some]
    rw [if_neg hlt, stA_of h1 (by omega) (by decide)]
    simp only [Option.bind_some]
    rw [nI_1]
    obtain ⟨f1, e1, e2, e3⟩ := ih (i + 1) n (va_up f s (zI 0 151 (upd g i 65535))) (upd g i 65535) (by omega) (by omega) (by rw [va_up_ne _ _ has]; exact h0) has (va_up_self _ _ _) (fun j => by
      by_cases hj : j = i
      · subst hj; rw [pk_us, if_pos (by omega)]
      · rw [pk_un hj, hg]
        by_cases hj2 : j < i
        · rw [if_pos hj2, if_pos (by omega)]
        · rw [if_neg hj2, if_neg (by omega)])
    exact ⟨f1, e1, e2, fun q hq => by rw [e3 q hq, va_up_ne _ _ hq]⟩
/-- SmallModels at a, Parts at a + 1 -/
theorem i_X6 {f : mmF} {a : Nat} (h : f a = some (.inr (6, [.null, .null, .null, .null, .null]))) : ∃ f1 : mmF, f_X6_init a f (a + 1) = some (f1, a + 12) ∧ f1 a = some (.inr (6, [.ref (a + 1), .ref (a + 8), .ref (a + 9), .ref (a + 10), .ref (a + 11)])) ∧ f1 (a + 1) = some (.inr (4, [.int 6, .ref (a + 2), .ref (a + 3), .ref (a + 4), .ref (a + 5), .int 0, .ref (a + 6), .ref (a + 7)])) ∧ f1 (a + 2) = zI 0 151 (fun j => if j < 6 then nI j else 0) ∧ f1 (a + 3) = zI 0 151 (fun _ => 0) ∧ f1 (a + 4) = zI 0 151 (fun _ => 0) ∧ f1 (a + 5) = zI 0 5 (fun _ => 0) ∧ f1 (a + 6) = zI 0 30 (fun _ => 0) ∧ f1 (a + 7) = zI 0 151 (fun _ => 0) ∧ f1 (a + 8) = zI 0 151 (fun j => if j < 151 then 65535 else 0) ∧ f1 (a + 9) = zI 0 151 (fun _ => 0) ∧ f1 (a + 10) = zI 0 151 (fun _ => 0) ∧ f1 (a + 11) = zI 0 151 (fun _ => 0) ∧ ∀ q : Nat, q < a ∨ a + 12 ≤ q → f1 q = f q := by
  have e : ∀ (g : mmF) (x : Nat) (v : Option va_E), x ≠ a → va_up g x v a = g a := fun g x v hx => va_up_ne _ _ (Ne.symm hx)
  unfold f_X6_init
  simp only [Option.bind_some]
  obtain ⟨g, x0, x1, x2, x3, x4, x5, x6, x7, x8⟩ := i_X4 (f := va_up f (a + 1) (some (.inr (4, [.int 0, .null, .null, .null, .null, .int 0, .null, .null])))) (a := a + 1) (va_up_self _ _ _)
  rw [x0]
  have xa : g a = some (.inr (6, [.null, .null, .null, .null, .null])) := by rw [x8 a (by omega), e _ _ _ (by omega), h]
  simp only [Option.bind_some]
  rw [stF_of xa (by decide)]
  simp only [Option.bind_some, List.set_cons_zero, List.set_cons_succ]
  rw [stF_of (l := [.ref (a + 1), .null, .null, .null, .null]) (by rw [e _ _ _ (by omega), va_up_self]) (by simp)]
  simp only [Option.bind_some, List.set_cons_zero, List.set_cons_succ]
  rw [stF_of (l := [.ref (a + 1), .ref (a + 1 + 7), .null, .null, .null]) (by rw [e _ _ _ (by omega), va_up_self]) (by simp)]
  simp only [Option.bind_some, List.set_cons_zero, List.set_cons_succ]
  rw [stF_of (l := [.ref (a + 1), .ref (a + 1 + 7), .ref (a + 1 + 7 + 1), .null, .null]) (by rw [e _ _ _ (by omega), va_up_self]) (by simp)]
  simp only [Option.bind_some, List.set_cons_zero, List.set_cons_succ]
  rw [stF_of (l := [.ref (a + 1), .ref (a + 1 + 7), .ref (a + 1 + 7 + 1), .ref (a + 1 + 7 + 1 + 1), .null]) (by rw [e _ _ _ (by omega), va_up_self]) (by simp)]
  simp only [Option.bind_some, List.set_cons_zero, List.set_cons_succ]
  obtain ⟨n, hn⟩ := FU_1000
  rw [hn]
  refine gen1 (g := fun G => f_X6_init_53 (n + 1000) a (0 : Int32) G (a + 1 + 7 + 1 + 1 + 1 + 1)) (fun G hG => ?_)
  have Ga : G a = some (.inr (6, [.ref (a + 1), .ref (a + 8), .ref (a + 9), .ref (a + 10), .ref (a + 11)])) := by rw [hG]; exact va_up_self _ _ _
  have G8 : G (a + 8) = zI 0 151 (fun _ => 0) := by rw [hG]; simp [va_up]
  have G9 : G (a + 9) = zI 0 151 (fun _ => 0) := by rw [hG]; simp [va_up]
  have G10 : G (a + 10) = zI 0 151 (fun _ => 0) := by rw [hG]; simp [va_up]
  have G11 : G (a + 11) = zI 0 151 (fun _ => 0) := by rw [hG]; simp [va_up]
  have Go : ∀ q : Nat, (q ≠ a ∧ q < a + 8) ∨ a + 12 ≤ q → G q = g q := by
    intro q hq
    rw [hG]
    simp only [va_up]
    repeat rw [if_neg (by omega)]
  clear hG
  obtain ⟨f1, e1, e2, e3⟩ := i_X6_53 (a := a) (s := a + 8) (l := [.ref (a + 1), .ref (a + 8), .ref (a + 9), .ref (a + 10), .ref (a + 11)]) rfl (w := a + 12) 151 0 (n + 1000) G (fun _ => 0) rfl (by omega) Ga (by omega) G8 (fun j => rfl)
  have fr : ∀ q : Nat, a < q → q < a + 8 → f1 q = g q := fun q h1 h2 => (e3 q (by omega)).trans (Go q (Or.inl ⟨by omega, h2⟩))
  exact ⟨f1, e1, (e3 _ (by omega)).trans Ga, (fr _ (by omega) (by omega)).trans x1, (fr _ (by omega) (by omega)).trans x2, (fr _ (by omega) (by omega)).trans x3, (fr _ (by omega) (by omega)).trans x4, (fr _ (by omega) (by omega)).trans x5, (fr _ (by omega) (by omega)).trans x6, (fr _ (by omega) (by omega)).trans x7, e2, (e3 _ (by omega)).trans G9, (e3 _ (by omega)).trans G10, (e3 _ (by omega)).trans G11, fun q hq => by rw [e3 q (by omega), Go q (by omega), x8 q (by omega), va_up_ne _ _ (by omega)]⟩
theorem i_X1_35 {a : Nat} : ∀ (m i : Nat) (n : Nat) (f : mmF) (g : Nat → Option Nat), i + m = 128 → m < n → f a = some (.inr (1, [.int 0, .ref (a + 1), .ref (a + 2), .int 0])) → f (a + 1) = zQ 5 128 g → (∀ j, g j = if j < i then some (a + 3 + j) else none) → (∀ j, j < i → f (a + 3 + j) = some z3) → ∃ f1 : mmF, f_X1_init_35 n a (nI i) f (a + 3 + i) (2 + i) (256 + 3 * i) = some (f1, a + 131) ∧ f1 (a + 1) = zQ 5 128 (fun j => if j < 128 then some (a + 3 + j) else none) ∧ (∀ j, j < 128 → f1 (a + 3 + j) = some z3) ∧ ∀ q : Nat, q ≠ a + 1 → (q < a + 3 ∨ a + 131 ≤ q) → f1 q = f q := by
  intro m
  induction m with
  | zero =>
    intro i n f g hi hn h0 h1 hg hs
    obtain ⟨n, rfl⟩ : ∃ k, n = k + 1 := ⟨n - 1, by omega⟩
    have hi6 : i = 128 := by omega
    subst hi6
    rw [f_X1_init_35, if_pos (show (128 : Int32) ≤ nI 128 by decide), if_neg (not_not_intro ⟨by omega, by omega⟩)]
    refine ⟨f, rfl, ?_, hs, fun _ _ _ => rfl⟩
    rw [h1]
    have : g = fun j => if j < 128 then some (a + 3 + j) else none := funext hg
    rw [this]
  | succ m ih =>
    intro i n f g hi hn h0 h1 hg hs
    obtain ⟨n, rfl⟩ : ∃ k, n = k + 1 := ⟨n - 1, by omega⟩
    have hlt : ¬ (128 : Int32) ≤ nI i := nI_ge (a := i) (b := 128) (by omega) (by decide)
    rw [f_X1_init_35, if_neg hlt, ldR_of h0 (v := a + 1) rfl]
    simp only [Option.bind_some]
    rw [if_neg (not_not_intro ⟨by omega, by omega⟩), if_neg (not_not_intro ⟨by omega, by omega⟩), i_X3 (va_up_self _ _ _)]
    simp only [Option.bind_some]
    rw [stQ_of (n := 128) (g := g) (l := [.long 0, .long 0, .long 0]) (by rw [va_up_ne _ _ (by omega)]; exact h1) (by omega) (by decide) (va_up_self _ _ _)]
    simp only [Option.bind_some]
    rw [nI_1]
    obtain ⟨f1, e1, e2, e3, e4⟩ := ih (i + 1) n (va_up (va_up f (a + 3 + i) (some z3)) (a + 1) (zQ 5 128 (va_up g i (some (a + 3 + i))))) (va_up g i (some (a + 3 + i))) (by omega) (by omega) (by rw [va_up_ne _ _ (by omega), va_up_ne _ _ (by omega)]; exact h0) (va_up_self _ _ _) (fun j => by
      by_cases hj : j = i
      · subst hj; rw [va_up_self, if_pos (by omega)]
      · rw [va_up_ne _ _ hj, hg]
        by_cases hj2 : j < i
        · rw [if_pos hj2, if_pos (by omega)]
        · rw [if_neg hj2, if_neg (by omega)]) (fun j hj => by
      rw [va_up_ne _ _ (by omega)]
      by_cases hj2 : j = i
      · subst hj2; rw [va_up_self]
      · rw [va_up_ne _ _ (by omega), hs j (by omega)])
    exact ⟨f1, e1, e2, e3, fun q hq hr => by rw [e4 q hq hr, va_up_ne _ _ hq, va_up_ne _ _ (by omega)]⟩
theorem i_X1 {f : mmF} {a : Nat} (h : f a = some (.inr (1, [.int 0, .null, .null, .int 0]))) : ∃ f1 : mmF, f_X1_init a f (a + 1) = some (f1, a + 131) ∧ f1 a = some (.inr (1, [.int 0, .ref (a + 1), .ref (a + 2), .int 0])) ∧ f1 (a + 1) = zQ 5 128 (fun j => if j < 128 then some (a + 3 + j) else none) ∧ f1 (a + 2) = zI 0 128 (fun _ => 0) ∧ (∀ j, j < 128 → f1 (a + 3 + j) = some z3) ∧ ∀ q : Nat, q < a ∨ a + 131 ≤ q → f1 q = f q := by
  have e : ∀ (g : mmF) (x : Nat) (v : Option va_E), x ≠ a → va_up g x v a = g a := fun g x v hx => va_up_ne _ _ (Ne.symm hx)
  unfold f_X1_init
  rw [stF_of h (by decide)]
  simp only [Option.bind_some, List.set_cons_zero, List.set_cons_succ]
  rw [if_neg (by decide), stF_of (l := [.int 0, .null, .null, .int 0]) (by rw [e _ _ _ (by omega), va_up_self]) (by decide)]
  simp only [Option.bind_some, List.set_cons_zero, List.set_cons_succ]
  rw [if_neg (by decide), stF_of (l := [.int 0, .ref (a + 1), .null, .int 0]) (by rw [e _ _ _ (by omega), va_up_self]) (by simp)]
  simp only [Option.bind_some, List.set_cons_zero, List.set_cons_succ]
  rw [stF_of (l := [.int 0, .ref (a + 1), .ref (a + 1 + 1), .int 0]) (va_up_self _ _ _) (by simp)]
  simp only [Option.bind_some, List.set_cons_zero, List.set_cons_succ]
  obtain ⟨n, hn⟩ := FU_1000
  rw [hn]
  refine gen1 (g := fun G => f_X1_init_35 (n + 1000) a (0 : Int32) G (a + 1 + 1 + 1) (0 + 1 + 1) (0 + 128 + 128)) (fun G hG => ?_)
  have Ga : G a = some (.inr (1, [.int 0, .ref (a + 1), .ref (a + 2), .int 0])) := by rw [hG]; exact va_up_self _ _ _
  have G1 : G (a + 1) = zQ 5 128 (fun _ => none) := by rw [hG]; simp [va_up]
  have G2 : G (a + 2) = zI 0 128 (fun _ => 0) := by rw [hG]; simp [va_up]
  have Go : ∀ q : Nat, q < a ∨ a + 3 ≤ q → G q = f q := by
    intro q hq
    rw [hG]
    simp only [va_up]
    repeat rw [if_neg (by omega)]
  clear hG
  obtain ⟨f1, e1, e2, e3, e4⟩ := i_X1_35 (a := a) 128 0 (n + 1000) G (fun _ => none) rfl (by omega) Ga G1 (fun j => rfl) (fun j hj => absurd hj (Nat.not_lt_zero j))
  exact ⟨f1, e1, (e4 _ (by omega) (by omega)).trans Ga, e2, (e4 _ (by omega) (by omega)).trans G2, e3, fun q hq => (e4 q (by omega) (by omega)).trans (Go q (by omega))⟩
def zLv (s : Nat) : Option va_E := some (.inr (2, [.ref (s + 1), .ref (s + 2), .ref (s + 3), .ref (s + 4), .int 0]))
theorem i_X5_60 {a : Nat} {l : List Value} (hl : l[2]? = some (.ref (a + 13))) : ∀ (m i : Nat) (n : Nat) (f : mmF) (g : Nat → Option Nat), i + m = 153 → m < n → f a = some (.inr (5, l)) → f (a + 13) = zQ 4 153 g → (∀ j, g j = if j < i then some (a + 276 + 5 * j) else none) → (∀ j, j < i → f (a + 276 + 5 * j) = zLv (a + 276 + 5 * j)) → (∀ j k, j < i → 1 ≤ k → k ≤ 4 → f (a + 276 + 5 * j + k) = some z3) → ∃ f1 : mmF, f_X5_init_60 n a (nI i) f (a + 276 + 5 * i) (275 + 5 * i) (2697 + 17 * i) = some (f1, a + 1041) ∧ f1 (a + 13) = zQ 4 153 (fun j => if j < 153 then some (a + 276 + 5 * j) else none) ∧ (∀ j, j < 153 → f1 (a + 276 + 5 * j) = zLv (a + 276 + 5 * j)) ∧ (∀ j k, j < 153 → 1 ≤ k → k ≤ 4 → f1 (a + 276 + 5 * j + k) = some z3) ∧ ∀ q : Nat, q ≠ a + 13 → (q < a + 276 ∨ a + 1041 ≤ q) → f1 q = f q := by
  intro m
  induction m with
  | zero =>
    intro i n f g hi hn h0 h1 hg hs hz
    obtain ⟨n, rfl⟩ : ∃ k, n = k + 1 := ⟨n - 1, by omega⟩
    have hi6 : i = 153 := by omega
    subst hi6
    rw [f_X5_init_60, if_pos (show (153 : Int32) ≤ nI 153 by decide), if_neg (not_not_intro ⟨by omega, by omega⟩)]
    refine ⟨f, rfl, ?_, hs, hz, fun _ _ _ => rfl⟩
    rw [h1]
    have : g = fun j => if j < 153 then some (a + 276 + 5 * j) else none := funext hg
    rw [this]
  | succ m ih =>
    intro i n f g hi hn h0 h1 hg hs hz
    obtain ⟨n, rfl⟩ : ∃ k, n = k + 1 := ⟨n - 1, by omega⟩
    have hlt : ¬ (153 : Int32) ≤ nI i := nI_ge (a := i) (b := 153) (by omega) (by decide)
    rw [f_X5_init_60, if_neg hlt, ldR_of h0 hl]
    simp only [Option.bind_some]
    rw [if_neg (not_not_intro ⟨by omega, by omega⟩), if_neg (not_not_intro ⟨by omega, by omega⟩)]
    obtain ⟨h, x0, x1, x2, x3, x4, x5, x6⟩ := i_X2 (f := va_up f (a + 276 + 5 * i) (some (.inr (2, [.null, .null, .null, .null, .int 0])))) (a := a + 276 + 5 * i) (va_up_self _ _ _)
    rw [x0]
    simp only [Option.bind_some]
    rw [stQ_of (n := 153) (g := g) (by rw [x6 _ (by omega), va_up_ne _ _ (by omega)]; exact h1) (by omega) (by decide) x1]
    simp only [Option.bind_some]
    rw [nI_1]
    obtain ⟨f1, e1, e2, e3, e4, e5⟩ := ih (i + 1) n (va_up h (a + 13) (zQ 4 153 (va_up g i (some (a + 276 + 5 * i))))) (va_up g i (some (a + 276 + 5 * i))) (by omega) (by omega) (by rw [va_up_ne _ _ (by omega), x6 _ (by omega), va_up_ne _ _ (by omega)]; exact h0) (va_up_self _ _ _) (fun j => by
      by_cases hj : j = i
      · subst hj; rw [va_up_self, if_pos (by omega)]
      · rw [va_up_ne _ _ hj, hg]
        by_cases hj2 : j < i
        · rw [if_pos hj2, if_pos (by omega)]
        · rw [if_neg hj2, if_neg (by omega)]) (fun j hj => by
      rw [va_up_ne _ _ (by omega)]
      by_cases hj2 : j = i
      · subst hj2; exact x1
      · rw [x6 _ (by omega), va_up_ne _ _ (by omega), hs j (by omega)]) (fun j k hj hk1 hk2 => by
      rw [va_up_ne _ _ (by omega)]
      by_cases hj2 : j = i
      · subst hj2
        obtain rfl | rfl | rfl | rfl : k = 1 ∨ k = 2 ∨ k = 3 ∨ k = 4 := by omega
        · exact x2
        · exact x3
        · exact x4
        · exact x5
      · rw [x6 _ (by omega), va_up_ne _ _ (by omega), hz j k (by omega) hk1 hk2])
    refine ⟨f1, ?_, e2, e3, e4, fun q hq hr => by rw [e5 q hq hr, va_up_ne _ _ hq, x6 _ (by omega), va_up_ne _ _ (by omega)]⟩
    rw [← e1]
    rfl
/-- the proof at a, its models at a + 1, the parts at a + 2 -/
theorem i_X5 {f : mmF} {a : Nat} (h : f a = some (.inr (5, [.null, .null, .null, .null, .null]))) : ∃ f1 : mmF, f_X5_init a f (a + 1) = some (f1, a + 1041) ∧ f1 a = some (.inr (5, [.ref (a + 1), .ref (a + 2), .ref (a + 13), .ref (a + 14), .ref (a + 145)])) ∧ f1 (a + 1) = some (.inr (6, [.ref (a + 2), .ref (a + 9), .ref (a + 10), .ref (a + 11), .ref (a + 12)])) ∧ f1 (a + 2) = some (.inr (4, [.int 6, .ref (a + 3), .ref (a + 4), .ref (a + 5), .ref (a + 6), .int 0, .ref (a + 7), .ref (a + 8)])) ∧ f1 (a + 3) = zI 0 151 (fun j => if j < 6 then nI j else 0) ∧ f1 (a + 4) = zI 0 151 (fun _ => 0) ∧ f1 (a + 5) = zI 0 151 (fun _ => 0) ∧ f1 (a + 6) = zI 0 5 (fun _ => 0) ∧ f1 (a + 7) = zI 0 30 (fun _ => 0) ∧ f1 (a + 8) = zI 0 151 (fun _ => 0) ∧ f1 (a + 9) = zI 0 151 (fun j => if j < 151 then 65535 else 0) ∧ f1 (a + 10) = zI 0 151 (fun _ => 0) ∧ f1 (a + 11) = zI 0 151 (fun _ => 0) ∧ f1 (a + 12) = zI 0 151 (fun _ => 0)
    ∧ f1 (a + 13) = zQ 4 153 (fun j => if j < 153 then some (a + 276 + 5 * j) else none)
    ∧ f1 (a + 14) = some (.inr (1, [.int 0, .ref (a + 15), .ref (a + 16), .int 0])) ∧ f1 (a + 15) = zQ 5 128 (fun j => if j < 128 then some (a + 17 + j) else none) ∧ f1 (a + 16) = zI 0 128 (fun _ => 0) ∧ (∀ j, j < 128 → f1 (a + 17 + j) = some z3)
    ∧ f1 (a + 145) = some (.inr (1, [.int 0, .ref (a + 146), .ref (a + 147), .int 0])) ∧ f1 (a + 146) = zQ 5 128 (fun j => if j < 128 then some (a + 148 + j) else none) ∧ f1 (a + 147) = zI 0 128 (fun _ => 0) ∧ (∀ j, j < 128 → f1 (a + 148 + j) = some z3)
    ∧ (∀ j, j < 153 → f1 (a + 276 + 5 * j) = zLv (a + 276 + 5 * j)) ∧ (∀ j k, j < 153 → 1 ≤ k → k ≤ 4 → f1 (a + 276 + 5 * j + k) = some z3)
    ∧ ∀ q : Nat, q < a ∨ a + 1041 ≤ q → f1 q = f q := by
  have e : ∀ (g : mmF) (x : Nat) (v : Option va_E), x ≠ a → va_up g x v a = g a := fun g x v hx => va_up_ne _ _ (Ne.symm hx)
  unfold f_X5_init
  rw [if_neg (by decide)]
  simp only [Option.bind_some]
  rw [if_neg (by decide)]
  obtain ⟨g, x0, x1, x2, x3, x4, x5, x6, x7, x8, x9, x10, x11, x12, x13⟩ := i_X6 (f := va_up f (a + 1) (some (.inr (6, [.null, .null, .null, .null, .null])))) (a := a + 1) (va_up_self _ _ _)
  rw [x0]
  simp only [Option.bind_some]
  have ga : g a = some (.inr (5, [.null, .null, .null, .null, .null])) := by rw [x13 a (by omega), e _ _ _ (by omega), h]
  rw [stF_of ga (by decide)]
  simp only [Option.bind_some, List.set_cons_zero, List.set_cons_succ]
  rw [ldR_of (v := a + 1) (va_up_self _ _ _) rfl]
  simp only [Option.bind_some]
  rw [ldR_of (v := a + 1 + 1) (by rw [va_up_ne _ _ (by omega)]; exact x1) rfl]
  simp only [Option.bind_some]
  rw [stF_of (l := [.ref (a + 1), .null, .null, .null, .null]) (va_up_self _ _ _) (by simp)]
  simp only [Option.bind_some, List.set_cons_zero, List.set_cons_succ]
  rw [if_neg (by decide)]
  rw [stF_of (l := [.ref (a + 1), .ref (a + 1 + 1), .null, .null, .null]) (by rw [e _ _ _ (by omega), va_up_self]) (by simp)]
  simp only [Option.bind_some, List.set_cons_zero, List.set_cons_succ]
  rw [if_neg (by decide), if_neg (by decide)]
  generalize hg1 : va_up (va_up (va_up (va_up g a (some (Sum.inr (5, [Value.ref (a + 1), Value.null, Value.null, Value.null, Value.null])))) a (some (Sum.inr (5, [Value.ref (a + 1), Value.ref (a + 1 + 1), Value.null, Value.null, Value.null])))) (a + 1 + 12) (some (Sum.inl (4, 153, Sum.inr (Sum.inr (Sum.inr (Sum.inr fun _ => none))))))) a (some (Sum.inr (5, [Value.ref (a + 1), Value.ref (a + 1 + 1), Value.ref (a + 1 + 12), Value.null, Value.null]))) = g1
  have g1a : g1 a = some (.inr (5, [.ref (a + 1), .ref (a + 1 + 1), .ref (a + 1 + 12), .null, .null])) := by rw [← hg1, va_up_self]
  have g1o : ∀ q : Nat, q ≠ a → q ≠ a + 13 → g1 q = g q := fun q h1 h2 => by rw [← hg1, va_up_ne _ _ h1, va_up_ne _ _ h2, va_up_ne _ _ h1, va_up_ne _ _ h1]
  have g1l : g1 (a + 13) = zQ 4 153 (fun _ => none) := by rw [← hg1, va_up_ne _ _ (by omega)]; exact va_up_self _ _ _
  obtain ⟨g2, y0, y1, y2, y3, y4, y5⟩ := i_X1 (f := va_up g1 (a + 14) (some (.inr (1, [.int 0, .null, .null, .int 0])))) (a := a + 14) (va_up_self _ _ _)
  have y0' : f_X1_init (a + 1 + 12 + 1) (va_up g1 (a + 1 + 12 + 1) (some (Sum.inr (1, [Value.int 0, Value.null, Value.null, Value.int 0])))) (a + 1 + 12 + 1 + 1) = some (g2, a + 145) := y0
  rw [y0']
  simp only [Option.bind_some]
  have g2a : g2 a = some (.inr (5, [.ref (a + 1), .ref (a + 1 + 1), .ref (a + 1 + 12), .null, .null])) := by rw [y5 a (by omega), e _ _ _ (by omega), g1a]
  rw [stF_of g2a (by simp)]
  simp only [Option.bind_some, List.set_cons_zero, List.set_cons_succ]
  rw [if_neg (by decide), if_neg (by decide)]
  obtain ⟨g3, z0, z1, z2, z3', z4, z5⟩ := i_X1 (f := va_up (va_up g2 a (some (.inr (5, [.ref (a + 1), .ref (a + 1 + 1), .ref (a + 1 + 12), .ref (a + 1 + 12 + 1), .null])))) (a + 145) (some (.inr (1, [.int 0, .null, .null, .int 0])))) (a := a + 145) (va_up_self _ _ _)
  rw [z0]
  simp only [Option.bind_some]
  have g3a : g3 a = some (.inr (5, [.ref (a + 1), .ref (a + 1 + 1), .ref (a + 1 + 12), .ref (a + 1 + 12 + 1), .null])) := by rw [z5 a (by omega), e _ _ _ (by omega), va_up_self]
  rw [stF_of g3a (by simp)]
  simp only [Option.bind_some, List.set_cons_zero, List.set_cons_succ]
  obtain ⟨n, hn⟩ := FU_1000
  rw [hn]
  have g3o : ∀ q : Nat, q ≠ a → q < a + 14 → g3 q = g1 q := fun q h1 h2 => by rw [z5 q (by omega), va_up_ne _ _ (by omega), va_up_ne _ _ h1, y5 q (by omega), va_up_ne _ _ (by omega)]
  have g3m : ∀ q : Nat, a + 14 ≤ q → q < a + 145 → g3 q = g2 q := fun q h1 h2 => by rw [z5 q (by omega), va_up_ne _ _ (by omega), va_up_ne _ _ (by omega)]
  obtain ⟨f1, e1, e2, e3, e4, e5⟩ := i_X5_60 (a := a) (l := [.ref (a + 1), .ref (a + 1 + 1), .ref (a + 1 + 12), .ref (a + 1 + 12 + 1), .ref (a + 145)]) rfl 153 0 (n + 1000) (va_up g3 a (some (.inr (5, [.ref (a + 1), .ref (a + 1 + 1), .ref (a + 1 + 12), .ref (a + 1 + 12 + 1), .ref (a + 145)])))) (fun _ => none) rfl (by omega) (va_up_self _ _ _) (by rw [va_up_ne _ _ (by omega), g3o _ (by omega) (by omega)]; exact g1l) (fun j => rfl) (fun j hj => absurd hj (Nat.not_lt_zero j)) (fun j k hj => absurd hj (Nat.not_lt_zero j))
  have fg : ∀ q : Nat, a < q → q < a + 13 → f1 q = g q := fun q h1 h2 => by rw [e5 q (by omega) (by omega), va_up_ne _ _ (by omega), g3o q (by omega) (by omega), g1o q (by omega) (by omega)]
  have fg2 : ∀ q : Nat, a + 14 ≤ q → q < a + 145 → f1 q = g2 q := fun q h1 h2 => by rw [e5 q (by omega) (by omega), va_up_ne _ _ (by omega), g3m q h1 h2]
  have fg3 : ∀ q : Nat, a + 145 ≤ q → q < a + 276 → f1 q = g3 q := fun q h1 h2 => by rw [e5 q (by omega) (by omega), va_up_ne _ _ (by omega)]
  refine ⟨f1, e1, ?_, ?_, ?_, ?_, ?_, ?_, ?_, ?_, ?_, ?_, ?_, ?_, ?_, e2, ?_, ?_, ?_, ?_, ?_, ?_, ?_, ?_, e3, e4, ?_⟩
  · rw [e5 a (by omega) (by omega), va_up_self]
  · rw [fg _ (by omega) (by omega), x1]
  · rw [fg _ (by omega) (by omega)]; exact x2
  · rw [fg _ (by omega) (by omega)]; exact x3
  · rw [fg _ (by omega) (by omega)]; exact x4
  · rw [fg _ (by omega) (by omega)]; exact x5
  · rw [fg _ (by omega) (by omega)]; exact x6
  · rw [fg _ (by omega) (by omega)]; exact x7
  · rw [fg _ (by omega) (by omega)]; exact x8
  · rw [fg _ (by omega) (by omega)]; exact x9
  · rw [fg _ (by omega) (by omega)]; exact x10
  · rw [fg _ (by omega) (by omega)]; exact x11
  · rw [fg _ (by omega) (by omega)]; exact x12
  · rw [fg2 _ (by omega) (by omega)]; exact y1
  · rw [fg2 _ (by omega) (by omega)]; exact y2
  · rw [fg2 _ (by omega) (by omega)]; exact y3
  · intro j hj; rw [fg2 _ (by omega) (by omega)]; exact y4 j hj
  · rw [fg3 _ (by omega) (by omega)]; exact z1
  · rw [fg3 _ (by omega) (by omega)]; exact z2
  · rw [fg3 _ (by omega) (by omega)]; exact z3'
  · intro j hj; rw [fg3 _ (by omega) (by omega)]; exact z4 j hj
  · intro q hq
    rw [e5 q (by omega) (by omega), va_up_ne _ _ (by omega), z5 q (by omega), va_up_ne _ _ (by omega), va_up_ne _ _ (by omega), y5 q (by omega), va_up_ne _ _ (by omega), g1o q (by omega) (by omega), x13 q (by omega), va_up_ne _ _ (by omega)]
def zSt (s : Nat) (i : Nat) : Option va_E := match i with
  | 0 => some (.inr (7, [.int 1, .ref (s + 1), .ref (s + 2), .ref (s + 3), .ref (s + 4), .ref (s + 5), .ref (s + 6)]))
  | 1 => zI 0 8 (upd (fun _ => 0) 0 1)
  | 3 => zQ 3 5 (fun _ => none)
  | 6 => zI 0 151 (fun _ => 0)
  | _ => zI 0 8 (fun _ => 0)
theorem i_X7z {f : mmF} {a : Nat} (h : f a = some (.inr (7, [.int 0, .null, .null, .null, .null, .null, .null]))) : ∃ f1 : mmF, f_X7_init a f (a + 1) = some (f1, a + 7) ∧ (∀ i, i < 7 → f1 (a + i) = zSt a i) ∧ ∀ q : Nat, q < a ∨ a + 7 ≤ q → f1 q = f q := by
  obtain ⟨f1, e0, e1, e2, e3, e4, e5, e6, e7, e8⟩ := i_X7 h
  refine ⟨f1, e0, fun i hi => ?_, e8⟩
  obtain rfl | rfl | rfl | rfl | rfl | rfl | rfl : i = 0 ∨ i = 1 ∨ i = 2 ∨ i = 3 ∨ i = 4 ∨ i = 5 ∨ i = 6 := by omega
  · exact e1
  · exact e2
  · exact e3
  · exact e4
  · exact e5
  · exact e6
  · exact e7
theorem i_X9_90 {b : Nat} {l : List Value} (hl : l[1]? = some (.ref (b + 8))) : ∀ (m i : Nat) (n : Nat) (f : mmF) (g : Nat → Option Nat), i + m = 4 → m < n → f b = some (.inr (9, l)) → f (b + 8) = zQ 2 4 g → (∀ j, g j = if j < i then some (b + (1061 + 7 * j)) else none) → (∀ j k, j < i → k < 7 → f (b + (1061 + 7 * j) + k) = zSt (b + (1061 + 7 * j)) k) → ∃ f1 : mmF, f_X9_init_90 n b (nI i) f (b + (1061 + 7 * i)) (1060 + 7 * i) (5794 + 195 * i) = some (f1, b + 1089) ∧ f1 (b + 8) = zQ 2 4 (fun j => if j < 4 then some (b + (1061 + 7 * j)) else none) ∧ (∀ j k, j < 4 → k < 7 → f1 (b + (1061 + 7 * j) + k) = zSt (b + (1061 + 7 * j)) k) ∧ ∀ q : Nat, q ≠ b + 8 → (q < b + 1061 ∨ b + 1089 ≤ q) → f1 q = f q := by
  intro m
  induction m with
  | zero =>
    intro i n f g hi hn h0 h1 hg hs
    obtain ⟨n, rfl⟩ : ∃ k, n = k + 1 := ⟨n - 1, by omega⟩
    have hi6 : i = 4 := by omega
    subst hi6
    rw [f_X9_init_90, if_pos (show (4 : Int32) ≤ nI 4 by decide), if_neg (not_not_intro ⟨by omega, by omega⟩)]
    refine ⟨f, rfl, ?_, hs, fun _ _ _ => rfl⟩
    rw [h1]
    have : g = fun j => if j < 4 then some (b + (1061 + 7 * j)) else none := funext hg
    rw [this]
  | succ m ih =>
    intro i n f g hi hn h0 h1 hg hs
    obtain ⟨n, rfl⟩ : ∃ k, n = k + 1 := ⟨n - 1, by omega⟩
    have hlt : ¬ (4 : Int32) ≤ nI i := nI_ge (a := i) (b := 4) (by omega) (by decide)
    rw [f_X9_init_90, if_neg hlt, ldR_of h0 hl]
    simp only [Option.bind_some]
    rw [if_neg (not_not_intro ⟨by omega, by omega⟩), if_neg (not_not_intro ⟨by omega, by omega⟩)]
    obtain ⟨h, x0, x1, x2⟩ := i_X7z (f := va_up f (b + (1061 + 7 * i)) (some (.inr (7, [.int 0, .null, .null, .null, .null, .null, .null])))) (a := b + (1061 + 7 * i)) (va_up_self _ _ _)
    rw [x0]
    simp only [Option.bind_some]
    rw [stQ_of (a := b + 8) (n := 4) (i := i) (g := g) (v := b + (1061 + 7 * i)) (by rw [x2 _ (by omega), va_up_ne _ _ (by omega)]; exact h1) (by omega) (by decide) (show h (b + (1061 + 7 * i)) = some (.inr (7, _)) from x1 0 (by omega))]
    simp only [Option.bind_some]
    rw [nI_1]
    obtain ⟨f1, e1, e2, e3, e4⟩ := ih (i + 1) n (va_up h (b + 8) (zQ 2 4 (va_up g i (some (b + (1061 + 7 * i)))))) (va_up g i (some (b + (1061 + 7 * i)))) (by omega) (by omega) (by rw [va_up_ne _ _ (by omega), x2 _ (by omega), va_up_ne _ _ (by omega)]; exact h0) (va_up_self _ _ _) (fun j => by
      by_cases hj : j = i
      · subst hj; rw [va_up_self, if_pos (by omega)]
      · rw [va_up_ne _ _ hj, hg]
        by_cases hj2 : j < i
        · rw [if_pos hj2, if_pos (by omega)]
        · rw [if_neg hj2, if_neg (by omega)]) (fun j k hj hk => by
      rw [va_up_ne _ _ (by omega)]
      by_cases hj2 : j = i
      · subst hj2; exact x1 k hk
      · rw [x2 _ (by omega), va_up_ne _ _ (by omega), hs j k (by omega) hk])
    refine ⟨f1, ?_, e2, e3, fun q hq hr => by rw [e4 q hq hr, va_up_ne _ _ hq, x2 _ (by omega), va_up_ne _ _ (by omega)]⟩
    rw [show b + (1061 + 7 * i) + 7 = b + (1061 + 7 * (i + 1)) by omega, show 1060 + 7 * i + 1 + 6 = 1060 + 7 * (i + 1) by omega, show 5794 + 195 * i + 7 + 188 = 5794 + 195 * (i + 1) by omega]
    exact e1
/-- the new object's contents -/
def ia0 (b : Nat) : Nat → Nat → Int32 := fun a j =>
  if a = b + 2 ∨ a = b + 10 ∨ (b + 1061 ≤ a ∧ a < b + 1089 ∧ (a - b - 1061) % 7 = 1) then (if j = 0 then 1 else 0)
  else if a = b + 23 then (if j < 6 then nI j else 0)
  else if a = b + 29 then (if j < 151 then 65535 else 0)
  else if a = b + 1090 then (if j = 0 ∨ j = 16 then 1 else 0) else 0
def fi0 (b : Nat) : Nat → Nat → Int32 := fun a j =>
  if (a = b + 1 ∨ a = b + 9 ∨ (b + 1061 ≤ a ∧ a < b + 1089 ∧ (a - b - 1061) % 7 = 0)) ∧ j = 0 then 1 else if a = b + 22 ∧ j = 0 then 6 else 0
def fl0 : Nat → Nat → Int64 := fun _ _ => 0
def qa0 (b : Nat) : Nat → Nat → Option Nat := fun a j =>
  if a = b + 8 then (if j < 4 then some (b + (1061 + 7 * j)) else none)
  else if a = b + 33 then (if j < 153 then some (b + (296 + 5 * j)) else none)
  else if a = b + 35 then (if j < 128 then some (b + (37 + j)) else none)
  else if a = b + 166 then (if j < 128 then some (b + (168 + j)) else none) else none
theorem fin_i {b a t n : Nat} {g : Nat → Int32} (ht : ¬ (2 ≤ t ∧ t ≤ 5)) (h : ia0 b a = g) : (some (Sum.inl (t, n, Sum.inl g)) : Option va_E) = some (mCell (ia0 b) (fi0 b) fl0 (qa0 b) a (.inl (t, n))) := by
  subst h
  simp only [mCell, if_neg ht]
theorem fin_q {b a t n : Nat} {g : Nat → Option Nat} (ht : 2 ≤ t ∧ t ≤ 5) (h : qa0 b a = g) : (some (Sum.inl (t, n, Sum.inr (Sum.inr (Sum.inr (Sum.inr g))))) : Option va_E) = some (mCell (ia0 b) (fi0 b) fl0 (qa0 b) a (.inl (t, n))) := by
  subst h
  simp only [mCell, if_pos ht]
theorem ia0_z {b k : Nat} (h : k ≠ 2 ∧ k ≠ 10 ∧ k ≠ 23 ∧ k ≠ 29 ∧ k ≠ 1090 ∧ (k < 1061 ∨ 1089 ≤ k)) : ia0 b (b + k) = fun _ => 0 := by
  funext j
  unfold ia0
  rw [if_neg (show ¬ (b + k = b + 2 ∨ b + k = b + 10 ∨ (b + 1061 ≤ b + k ∧ b + k < b + 1089 ∧ (b + k - b - 1061) % 7 = 1)) by omega)]
  rw [if_neg (show ¬ (b + k = b + 23) by omega)]
  rw [if_neg (show ¬ (b + k = b + 29) by omega)]
  rw [if_neg (show ¬ (b + k = b + 1090) by omega)]
theorem ia0_l {b k : Nat} (h : k = 2 ∨ k = 10) : ia0 b (b + k) = upd (fun _ => 0) 0 1 := by
  funext j
  unfold ia0
  rw [if_pos (show b + k = b + 2 ∨ b + k = b + 10 ∨ (b + 1061 ≤ b + k ∧ b + k < b + 1089 ∧ (b + k - b - 1061) % 7 = 1) by omega)]
  rfl
theorem ia0_23 {b : Nat} : ia0 b (b + 23) = fun j => if j < 6 then nI j else 0 := by
  funext j
  unfold ia0
  rw [if_neg (show ¬ (b + 23 = b + 2 ∨ b + 23 = b + 10 ∨ (b + 1061 ≤ b + 23 ∧ b + 23 < b + 1089 ∧ (b + 23 - b - 1061) % 7 = 1)) by omega)]
  rw [if_pos (show b + 23 = b + 23 by omega)]
theorem ia0_29 {b : Nat} : ia0 b (b + 29) = fun j => if j < 151 then 65535 else 0 := by
  funext j
  unfold ia0
  rw [if_neg (show ¬ (b + 29 = b + 2 ∨ b + 29 = b + 10 ∨ (b + 1061 ≤ b + 29 ∧ b + 29 < b + 1089 ∧ (b + 29 - b - 1061) % 7 = 1)) by omega)]
  rw [if_neg (show ¬ (b + 29 = b + 23) by omega)]
  rw [if_pos (show b + 29 = b + 29 by omega)]
theorem ia0_1090 {b : Nat} : ia0 b (b + 1090) = fun j => if j = 0 ∨ j = 16 then 1 else 0 := by
  funext j
  unfold ia0
  rw [if_neg (show ¬ (b + 1090 = b + 2 ∨ b + 1090 = b + 10 ∨ (b + 1061 ≤ b + 1090 ∧ b + 1090 < b + 1089 ∧ (b + 1090 - b - 1061) % 7 = 1)) by omega)]
  rw [if_neg (show ¬ (b + 1090 = b + 23) by omega)]
  rw [if_neg (show ¬ (b + 1090 = b + 29) by omega)]
  rw [if_pos (show b + 1090 = b + 1090 by omega)]
theorem qa0_8 {b : Nat} : qa0 b (b + 8) = fun j => if j < 4 then some (b + (1061 + 7 * j)) else none := by
  funext j
  unfold qa0
  rw [if_pos (show b + 8 = b + 8 by omega)]
theorem qa0_33 {b : Nat} : qa0 b (b + 33) = fun j => if j < 153 then some (b + (296 + 5 * j)) else none := by
  funext j
  unfold qa0
  rw [if_neg (show ¬ (b + 33 = b + 8) by omega)]
  rw [if_pos (show b + 33 = b + 33 by omega)]
theorem qa0_35 {b : Nat} : qa0 b (b + 35) = fun j => if j < 128 then some (b + (37 + j)) else none := by
  funext j
  unfold qa0
  rw [if_neg (show ¬ (b + 35 = b + 8) by omega)]
  rw [if_neg (show ¬ (b + 35 = b + 33) by omega)]
  rw [if_pos (show b + 35 = b + 35 by omega)]
theorem qa0_166 {b : Nat} : qa0 b (b + 166) = fun j => if j < 128 then some (b + (168 + j)) else none := by
  funext j
  unfold qa0
  rw [if_neg (show ¬ (b + 166 = b + 8) by omega)]
  rw [if_neg (show ¬ (b + 166 = b + 33) by omega)]
  rw [if_neg (show ¬ (b + 166 = b + 35) by omega)]
  rw [if_pos (show b + 166 = b + 166 by omega)]
theorem qa0_z {b k : Nat} (h : k ≠ 8 ∧ k ≠ 33 ∧ k ≠ 35 ∧ k ≠ 166) : qa0 b (b + k) = fun _ => none := by
  funext j
  unfold qa0
  rw [if_neg (show ¬ (b + k = b + 8) by omega)]
  rw [if_neg (show ¬ (b + k = b + 33) by omega)]
  rw [if_neg (show ¬ (b + k = b + 35) by omega)]
  rw [if_neg (show ¬ (b + k = b + 166) by omega)]
theorem fi0_z {b k j : Nat} (h : (k ≠ 1 ∧ k ≠ 9 ∧ k ≠ 22 ∧ (k < 1061 ∨ 1089 ≤ k)) ∨ j ≠ 0) : fi0 b (b + k) j = 0 := by
  unfold fi0
  rw [if_neg (show ¬ ((b + k = b + 1 ∨ b + k = b + 9 ∨ (b + 1061 ≤ b + k ∧ b + k < b + 1089 ∧ (b + k - b - 1061) % 7 = 0)) ∧ j = 0) by omega)]
  rw [if_neg (show ¬ (b + k = b + 22 ∧ j = 0) by omega)]
theorem fi0_1 {b k : Nat} (h : k = 1 ∨ k = 9) : fi0 b (b + k) 0 = 1 := by
  unfold fi0
  rw [if_pos (show (b + k = b + 1 ∨ b + k = b + 9 ∨ (b + 1061 ≤ b + k ∧ b + k < b + 1089 ∧ (b + k - b - 1061) % 7 = 0)) ∧ 0 = 0 by omega)]
theorem fi0_22 {b : Nat} : fi0 b (b + 22) 0 = 6 := by
  unfold fi0
  rw [if_neg (show ¬ ((b + 22 = b + 1 ∨ b + 22 = b + 9 ∨ (b + 1061 ≤ b + 22 ∧ b + 22 < b + 1089 ∧ (b + 22 - b - 1061) % 7 = 0)) ∧ 0 = 0) by omega)]
  rw [if_pos (show b + 22 = b + 22 ∧ 0 = 0 by omega)]
theorem i_X9 {f : mmF} {b : Nat} (h : f b = some (.inr (9, [.null, .null, .int 0, .null, .int 0, .null, .null, .null, .null]))) : ∃ f1 : mmF, f_X9_init b f (b + 1) = some (f1, b + 1089) ∧ (∀ k c, k < 1089 → tb b k = some c → f1 (b + k) = some (mCell (ia0 b) (fi0 b) fl0 (qa0 b) (b + k) c)) ∧ ∀ q : Nat, q < b ∨ b + 1089 ≤ q → f1 q = f q := by
  have e : ∀ (g : mmF) (x : Nat) (v : Option va_E), x ≠ b → va_up g x v b = g b := fun g x v hx => va_up_ne _ _ (Ne.symm hx)
  unfold f_X9_init
  rw [if_neg (by decide)]
  simp only [Option.bind_some]
  rw [if_neg (by decide)]
  obtain ⟨g1, a0, a1, a2⟩ := i_X7z (f := va_up f (b + 1) (some (.inr (7, [.int 0, .null, .null, .null, .null, .null, .null])))) (a := b + 1) (va_up_self _ _ _)
  rw [a0]
  simp only [Option.bind_some]
  rw [stF_of (l := [.null, .null, .int 0, .null, .int 0, .null, .null, .null, .null]) (by rw [a2 _ (by omega), e _ _ _ (by omega), h]) (by decide)]
  simp only [Option.bind_some, List.set_cons_zero, List.set_cons_succ]
  rw [if_neg (by decide), stF_of (l := [.ref (b + 1), .null, .int 0, .null, .int 0, .null, .null, .null, .null]) (by rw [e _ _ _ (by omega), va_up_self]) (by simp)]
  simp only [Option.bind_some, List.set_cons_zero, List.set_cons_succ]
  rw [stF_of (l := [.ref (b + 1), .ref (b + 1 + 7), .int 0, .null, .int 0, .null, .null, .null, .null]) (va_up_self _ _ _) (by simp)]
  simp only [Option.bind_some, List.set_cons_zero, List.set_cons_succ]
  rw [if_neg (by decide), if_neg (by decide)]
  obtain ⟨h1, hh1⟩ : ∃ h1 : mmF, h1 = va_up (va_up (va_up (va_up g1 b (some (Sum.inr (9, [Value.ref (b + 1), Value.null, Value.int 0, Value.null, Value.int 0, Value.null, Value.null, Value.null, Value.null])))) (b + 1 + 7) (some (Sum.inl (2, 4, Sum.inr (Sum.inr (Sum.inr (Sum.inr fun _ => none))))))) b (some (Sum.inr (9, [Value.ref (b + 1), Value.ref (b + 1 + 7), Value.int 0, Value.null, Value.int 0, Value.null, Value.null, Value.null, Value.null])))) b (some (Sum.inr (9, [Value.ref (b + 1), Value.ref (b + 1 + 7), Value.int 0, Value.null, Value.int 0, Value.null, Value.null, Value.null, Value.null]))) := ⟨_, rfl⟩
  rw [← hh1]
  have h1b : h1 b = some (.inr (9, [.ref (b + 1), .ref (b + 1 + 7), .int 0, .null, .int 0, .null, .null, .null, .null])) := by rw [hh1, va_up_self]
  have h18 : h1 (b + 8) = zQ 2 4 (fun _ => none) := by rw [hh1, va_up_ne _ _ (by omega), va_up_ne _ _ (by omega)]; exact va_up_self _ _ _
  have h1o : ∀ q : Nat, q ≠ b → q ≠ b + 8 → h1 q = g1 q := fun q n1 n2 => by rw [hh1, va_up_ne _ _ n1, va_up_ne _ _ n1, va_up_ne _ _ n2, va_up_ne _ _ n1]
  obtain ⟨g2, b0, b1, b2⟩ := i_X7z (f := va_up h1 (b + 9) (some (.inr (7, [.int 0, .null, .null, .null, .null, .null, .null])))) (a := b + 9) (va_up_self _ _ _)
  have b0' : f_X7_init (b + 1 + 7 + 1) (va_up h1 (b + 1 + 7 + 1) (some (Sum.inr (7, [Value.int 0, Value.null, Value.null, Value.null, Value.null, Value.null, Value.null])))) (b + 1 + 7 + 1 + 1) = some (g2, b + 16) := b0
  rw [b0']
  simp only [Option.bind_some]
  rw [stF_of (l := [.ref (b + 1), .ref (b + 1 + 7), .int 0, .null, .int 0, .null, .null, .null, .null]) (by rw [b2 _ (by omega), e _ _ _ (by omega), h1b]) (by simp)]
  simp only [Option.bind_some, List.set_cons_zero, List.set_cons_succ]
  rw [stF_of (l := [.ref (b + 1), .ref (b + 1 + 7), .int 0, .ref (b + 1 + 7 + 1), .int 0, .null, .null, .null, .null]) (va_up_self _ _ _) (by simp)]
  simp only [Option.bind_some, List.set_cons_zero, List.set_cons_succ]
  rw [if_neg (by decide), if_neg (by decide)]
  obtain ⟨h2, hh2⟩ : ∃ h2 : mmF, h2 = va_up (va_up g2 b (some (Sum.inr (9, [Value.ref (b + 1), Value.ref (b + 1 + 7), Value.int 0, Value.ref (b + 1 + 7 + 1), Value.int 0, Value.null, Value.null, Value.null, Value.null])))) b (some (Sum.inr (9, [Value.ref (b + 1), Value.ref (b + 1 + 7), Value.int 0, Value.ref (b + 1 + 7 + 1), Value.int 0, Value.null, Value.null, Value.null, Value.null]))) := ⟨_, rfl⟩
  rw [← hh2]
  have h2b : h2 b = some (.inr (9, [.ref (b + 1), .ref (b + 1 + 7), .int 0, .ref (b + 1 + 7 + 1), .int 0, .null, .null, .null, .null])) := by rw [hh2, va_up_self]
  have h2o : ∀ q : Nat, q ≠ b → h2 q = g2 q := fun q n1 => by rw [hh2, va_up_ne _ _ n1, va_up_ne _ _ n1]
  obtain ⟨g3, c0, c1, c2, c3, c4, c5⟩ := i_X8 (f := va_up h2 (b + 16) (some (.inr (8, [.int 0, .null, .null, .int 0, .null, .int 0, .int 0])))) (a := b + 16) (va_up_self _ _ _)
  rw [c0]
  simp only [Option.bind_some]
  rw [stF_of (l := [.ref (b + 1), .ref (b + 1 + 7), .int 0, .ref (b + 1 + 7 + 1), .int 0, .null, .null, .null, .null]) (by rw [c5 _ (by omega), e _ _ _ (by omega), h2b]) (by simp)]
  simp only [Option.bind_some, List.set_cons_zero, List.set_cons_succ]
  rw [if_neg (by decide), if_neg (by decide)]
  obtain ⟨h3, hh3⟩ : ∃ h3 : mmF, h3 = va_up g3 b (some (Sum.inr (9, [Value.ref (b + 1), Value.ref (b + 1 + 7), Value.int 0, Value.ref (b + 1 + 7 + 1), Value.int 0, Value.ref (b + 16), Value.null, Value.null, Value.null]))) := ⟨_, rfl⟩
  rw [← hh3]
  have h3b : h3 b = some (.inr (9, [.ref (b + 1), .ref (b + 1 + 7), .int 0, .ref (b + 1 + 7 + 1), .int 0, .ref (b + 16), .null, .null, .null])) := by rw [hh3, va_up_self]
  have h3o : ∀ q : Nat, q ≠ b → h3 q = g3 q := fun q n1 => by rw [hh3, va_up_ne _ _ n1]
  obtain ⟨g4, d0, d⟩ := i_X5 (f := va_up h3 (b + 20) (some (.inr (5, [.null, .null, .null, .null, .null])))) (a := b + 20) (va_up_self _ _ _)
  have d0' : f_X5_init (b + 16 + 4) (va_up h3 (b + 16 + 4) (some (Sum.inr (5, [Value.null, Value.null, Value.null, Value.null, Value.null])))) (b + 16 + 4 + 1) = some (g4, b + 1061) := d0
  rw [d0']
  obtain ⟨d1, d2, d3, d4, d5, d6, d7, d8, d9, d10, d11, d12, d13, d14, d15, d16, d17, d18, d19, d20, d21, d22, d23, d24, d25⟩ := d
  simp only [Option.bind_some]
  rw [stF_of (l := [.ref (b + 1), .ref (b + 1 + 7), .int 0, .ref (b + 1 + 7 + 1), .int 0, .ref (b + 16), .null, .null, .null]) (by rw [d25 _ (by omega), e _ _ _ (by omega), h3b]) (by simp)]
  simp only [Option.bind_some, List.set_cons_zero, List.set_cons_succ]
  rw [ldR_of (v := b + 16 + 4) (va_up_self _ _ _) rfl]
  simp only [Option.bind_some]
  rw [ldR_of (v := b + 20 + 1) (by rw [va_up_ne _ _ (by omega)]; exact d1) rfl]
  simp only [Option.bind_some]
  rw [stF_of (l := [.ref (b + 1), .ref (b + 1 + 7), .int 0, .ref (b + 1 + 7 + 1), .int 0, .ref (b + 16), .ref (b + 16 + 4), .null, .null]) (va_up_self _ _ _) (by simp)]
  simp only [Option.bind_some, List.set_cons_zero, List.set_cons_succ]
  rw [ldR_of (v := b + 20 + 1) (va_up_self _ _ _) rfl]
  simp only [Option.bind_some]
  rw [ldR_of (v := b + 20 + 2) (by rw [va_up_ne _ _ (by omega), va_up_ne _ _ (by omega)]; exact d2) rfl]
  simp only [Option.bind_some]
  rw [stF_of (l := [.ref (b + 1), .ref (b + 1 + 7), .int 0, .ref (b + 1 + 7 + 1), .int 0, .ref (b + 16), .ref (b + 16 + 4), .ref (b + 20 + 1), .null]) (va_up_self _ _ _) (by simp)]
  simp only [Option.bind_some, List.set_cons_zero, List.set_cons_succ]
  obtain ⟨h4, hh4⟩ : ∃ h4 : mmF, h4 = va_up (va_up (va_up g4 b (some (Sum.inr (9, [Value.ref (b + 1), Value.ref (b + 1 + 7), Value.int 0, Value.ref (b + 1 + 7 + 1), Value.int 0, Value.ref (b + 16), Value.ref (b + 16 + 4), Value.null, Value.null])))) b (some (Sum.inr (9, [Value.ref (b + 1), Value.ref (b + 1 + 7), Value.int 0, Value.ref (b + 1 + 7 + 1), Value.int 0, Value.ref (b + 16), Value.ref (b + 16 + 4), Value.ref (b + 20 + 1), Value.null])))) b (some (Sum.inr (9, [Value.ref (b + 1), Value.ref (b + 1 + 7), Value.int 0, Value.ref (b + 1 + 7 + 1), Value.int 0, Value.ref (b + 16), Value.ref (b + 16 + 4), Value.ref (b + 20 + 1), Value.ref (b + 20 + 2)]))) := ⟨_, rfl⟩
  rw [← hh4]
  have h4b : h4 b = some (.inr (9, [.ref (b + 1), .ref (b + 1 + 7), .int 0, .ref (b + 1 + 7 + 1), .int 0, .ref (b + 16), .ref (b + 16 + 4), .ref (b + 20 + 1), .ref (b + 20 + 2)])) := by rw [hh4, va_up_self]
  have h4o : ∀ q : Nat, q ≠ b → h4 q = g4 q := fun q n1 => by rw [hh4, va_up_ne _ _ n1, va_up_ne _ _ n1, va_up_ne _ _ n1]
  have r20 : ∀ q : Nat, q < b + 20 → q ≠ b → h4 q = g3 q := fun q q1 q2 => by rw [h4o q q2, d25 q (by omega), va_up_ne _ _ (by omega), h3o q q2]
  have r16 : ∀ q : Nat, q < b + 16 → q ≠ b → h4 q = g2 q := fun q q1 q2 => by rw [r20 q (by omega) q2, c5 q (by omega), va_up_ne _ _ (by omega), h2o q q2]
  have r9 : ∀ q : Nat, q < b + 9 → q ≠ b → h4 q = h1 q := fun q q1 q2 => by rw [r16 q (by omega) q2, b2 q (by omega), va_up_ne _ _ (by omega)]
  obtain ⟨n, hn⟩ := FU_1000
  rw [hn]
  obtain ⟨f1, e1, e2, e3, e4⟩ := i_X9_90 (b := b) (l := [.ref (b + 1), .ref (b + 1 + 7), .int 0, .ref (b + 1 + 7 + 1), .int 0, .ref (b + 16), .ref (b + 16 + 4), .ref (b + 20 + 1), .ref (b + 20 + 2)]) rfl 4 0 (n + 1000) h4 (fun _ => none) rfl (by omega) h4b (by rw [r9 _ (by omega) (by omega)]; exact h18) (fun j => rfl) (fun j k hj => absurd hj (Nat.not_lt_zero j))
  refine ⟨f1, e1, ?_, ?_⟩
  · intro k c hk hc
    have hcase : k < 37 ∨ (37 ≤ k ∧ k < 165) ∨ (165 ≤ k ∧ k < 168) ∨ (168 ≤ k ∧ k < 296) ∨ (296 ≤ k ∧ k < 1061) ∨ (1061 ≤ k ∧ k < 1089) := by omega
    rcases hcase with hk1 | ⟨hk1, hk2⟩ | ⟨hk1, hk2⟩ | ⟨hk1, hk2⟩ | ⟨hk1, hk2⟩ | ⟨hk1, hk2⟩
    · obtain rfl | rfl | rfl | rfl | rfl | rfl | rfl | rfl | rfl | rfl | rfl | rfl | rfl | rfl | rfl | rfl | rfl | rfl | rfl | rfl | rfl | rfl | rfl | rfl | rfl | rfl | rfl | rfl | rfl | rfl | rfl | rfl | rfl | rfl | rfl | rfl | rfl : k = 0 ∨ k = 1 ∨ k = 2 ∨ k = 3 ∨ k = 4 ∨ k = 5 ∨ k = 6 ∨ k = 7 ∨ k = 8 ∨ k = 9 ∨ k = 10 ∨ k = 11 ∨ k = 12 ∨ k = 13 ∨ k = 14 ∨ k = 15 ∨ k = 16 ∨ k = 17 ∨ k = 18 ∨ k = 19 ∨ k = 20 ∨ k = 21 ∨ k = 22 ∨ k = 23 ∨ k = 24 ∨ k = 25 ∨ k = 26 ∨ k = 27 ∨ k = 28 ∨ k = 29 ∨ k = 30 ∨ k = 31 ∨ k = 32 ∨ k = 33 ∨ k = 34 ∨ k = 35 ∨ k = 36 := by omega
      · cases hc; refine ((e4 b (by omega) (by omega)).trans h4b).trans ?_; have hf2 : fi0 b b 2 = 0 := fi0_z (b := b) (k := 0) (by omega); have hf4 : fi0 b b 4 = 0 := fi0_z (b := b) (k := 0) (by omega); simp only [mCell, mFlds, mFld, Nat.zero_add, Nat.reduceAdd, Nat.add_zero, hf2, hf4]
      · cases hc; refine ((e4 (b + 1) (by omega) (by omega)).trans ((r9 (b + 1) (by omega) (by omega)).trans ((h1o (b + 1) (by omega) (by omega)).trans (a1 0 (by omega))))).trans ?_; simp only [zSt]; have hf0 : fi0 b (b + 1) 0 = _ := fi0_1 (by omega); simp only [mCell, mFlds, mFld, Nat.zero_add, Nat.reduceAdd, hf0]
      · cases hc; exact ((e4 (b + 2) (by omega) (by omega)).trans ((r9 (b + 2) (by omega) (by omega)).trans ((h1o (b + 2) (by omega) (by omega)).trans (a1 1 (by omega))))).trans (fin_i (by decide) (ia0_l (by omega)))
      · cases hc; exact ((e4 (b + 3) (by omega) (by omega)).trans ((r9 (b + 3) (by omega) (by omega)).trans ((h1o (b + 3) (by omega) (by omega)).trans (a1 2 (by omega))))).trans (fin_i (by decide) (ia0_z (by omega)))
      · cases hc; exact ((e4 (b + 4) (by omega) (by omega)).trans ((r9 (b + 4) (by omega) (by omega)).trans ((h1o (b + 4) (by omega) (by omega)).trans (a1 3 (by omega))))).trans (fin_q (by decide) (qa0_z (by omega)))
      · cases hc; exact ((e4 (b + 5) (by omega) (by omega)).trans ((r9 (b + 5) (by omega) (by omega)).trans ((h1o (b + 5) (by omega) (by omega)).trans (a1 4 (by omega))))).trans (fin_i (by decide) (ia0_z (by omega)))
      · cases hc; exact ((e4 (b + 6) (by omega) (by omega)).trans ((r9 (b + 6) (by omega) (by omega)).trans ((h1o (b + 6) (by omega) (by omega)).trans (a1 5 (by omega))))).trans (fin_i (by decide) (ia0_z (by omega)))
      · cases hc; exact ((e4 (b + 7) (by omega) (by omega)).trans ((r9 (b + 7) (by omega) (by omega)).trans ((h1o (b + 7) (by omega) (by omega)).trans (a1 6 (by omega))))).trans (fin_i (by decide) (ia0_z (by omega)))
      · cases hc; exact e2.trans (fin_q (by decide) qa0_8)
      · cases hc; refine ((e4 (b + 9) (by omega) (by omega)).trans ((r16 (b + 9) (by omega) (by omega)).trans (b1 0 (by omega)))).trans ?_; simp only [zSt]; have hf0 : fi0 b (b + 9) 0 = _ := fi0_1 (by omega); simp only [mCell, mFlds, mFld, Nat.zero_add, Nat.reduceAdd, hf0]
      · cases hc; exact ((e4 (b + 10) (by omega) (by omega)).trans ((r16 (b + 10) (by omega) (by omega)).trans (b1 1 (by omega)))).trans (fin_i (by decide) (ia0_l (by omega)))
      · cases hc; exact ((e4 (b + 11) (by omega) (by omega)).trans ((r16 (b + 11) (by omega) (by omega)).trans (b1 2 (by omega)))).trans (fin_i (by decide) (ia0_z (by omega)))
      · cases hc; exact ((e4 (b + 12) (by omega) (by omega)).trans ((r16 (b + 12) (by omega) (by omega)).trans (b1 3 (by omega)))).trans (fin_q (by decide) (qa0_z (by omega)))
      · cases hc; exact ((e4 (b + 13) (by omega) (by omega)).trans ((r16 (b + 13) (by omega) (by omega)).trans (b1 4 (by omega)))).trans (fin_i (by decide) (ia0_z (by omega)))
      · cases hc; exact ((e4 (b + 14) (by omega) (by omega)).trans ((r16 (b + 14) (by omega) (by omega)).trans (b1 5 (by omega)))).trans (fin_i (by decide) (ia0_z (by omega)))
      · cases hc; exact ((e4 (b + 15) (by omega) (by omega)).trans ((r16 (b + 15) (by omega) (by omega)).trans (b1 6 (by omega)))).trans (fin_i (by decide) (ia0_z (by omega)))
      · cases hc; refine ((e4 (b + 16) (by omega) (by omega)).trans ((r20 (b + 16) (by omega) (by omega)).trans c1)).trans ?_; have hf0 : fi0 b (b + 16) 0 = _ := fi0_z (by omega); have hf3 : fi0 b (b + 16) 3 = _ := fi0_z (by omega); have hf5 : fi0 b (b + 16) 5 = _ := fi0_z (by omega); have hf6 : fi0 b (b + 16) 6 = _ := fi0_z (by omega); simp only [mCell, mFlds, mFld, Nat.zero_add, Nat.reduceAdd, hf0, hf3, hf5, hf6]
      · cases hc; exact ((e4 (b + 17) (by omega) (by omega)).trans ((r20 (b + 17) (by omega) (by omega)).trans c2)).trans (fin_i (by decide) (ia0_z (by omega)))
      · cases hc; exact ((e4 (b + 18) (by omega) (by omega)).trans ((r20 (b + 18) (by omega) (by omega)).trans c3)).trans (fin_i (by decide) (ia0_z (by omega)))
      · cases hc; exact ((e4 (b + 19) (by omega) (by omega)).trans ((r20 (b + 19) (by omega) (by omega)).trans c4)).trans (fin_i (by decide) (ia0_z (by omega)))
      · cases hc; refine ((e4 (b + 20) (by omega) (by omega)).trans ((h4o (b + 20) (by omega)).trans d1)).trans ?_; simp only [mCell, mFlds, mFld]
      · cases hc; refine ((e4 (b + 21) (by omega) (by omega)).trans ((h4o (b + 21) (by omega)).trans d2)).trans ?_; simp only [mCell, mFlds, mFld]
      · cases hc; refine ((e4 (b + 22) (by omega) (by omega)).trans ((h4o (b + 22) (by omega)).trans d3)).trans ?_; have hf0 : fi0 b (b + 22) 0 = _ := fi0_22; have hf5 : fi0 b (b + 22) 5 = _ := fi0_z (by omega); simp only [mCell, mFlds, mFld, Nat.zero_add, Nat.reduceAdd, hf0, hf5]
      · cases hc; exact ((e4 (b + 23) (by omega) (by omega)).trans ((h4o (b + 23) (by omega)).trans d4)).trans (fin_i (by decide) ia0_23)
      · cases hc; exact ((e4 (b + 24) (by omega) (by omega)).trans ((h4o (b + 24) (by omega)).trans d5)).trans (fin_i (by decide) (ia0_z (by omega)))
      · cases hc; exact ((e4 (b + 25) (by omega) (by omega)).trans ((h4o (b + 25) (by omega)).trans d6)).trans (fin_i (by decide) (ia0_z (by omega)))
      · cases hc; exact ((e4 (b + 26) (by omega) (by omega)).trans ((h4o (b + 26) (by omega)).trans d7)).trans (fin_i (by decide) (ia0_z (by omega)))
      · cases hc; exact ((e4 (b + 27) (by omega) (by omega)).trans ((h4o (b + 27) (by omega)).trans d8)).trans (fin_i (by decide) (ia0_z (by omega)))
      · cases hc; exact ((e4 (b + 28) (by omega) (by omega)).trans ((h4o (b + 28) (by omega)).trans d9)).trans (fin_i (by decide) (ia0_z (by omega)))
      · cases hc; exact ((e4 (b + 29) (by omega) (by omega)).trans ((h4o (b + 29) (by omega)).trans d10)).trans (fin_i (by decide) ia0_29)
      · cases hc; exact ((e4 (b + 30) (by omega) (by omega)).trans ((h4o (b + 30) (by omega)).trans d11)).trans (fin_i (by decide) (ia0_z (by omega)))
      · cases hc; exact ((e4 (b + 31) (by omega) (by omega)).trans ((h4o (b + 31) (by omega)).trans d12)).trans (fin_i (by decide) (ia0_z (by omega)))
      · cases hc; exact ((e4 (b + 32) (by omega) (by omega)).trans ((h4o (b + 32) (by omega)).trans d13)).trans (fin_i (by decide) (ia0_z (by omega)))
      · cases hc; refine ((e4 (b + 33) (by omega) (by omega)).trans ((h4o (b + 33) (by omega)).trans d14)).trans (fin_q (by decide) (qa0_33.trans ?_)); funext j; congr 2; omega
      · cases hc; refine ((e4 (b + 34) (by omega) (by omega)).trans ((h4o (b + 34) (by omega)).trans d15)).trans ?_; have hf0 : fi0 b (b + 34) 0 = _ := fi0_z (by omega); have hf3 : fi0 b (b + 34) 3 = _ := fi0_z (by omega); simp only [mCell, mFlds, mFld, Nat.zero_add, Nat.reduceAdd, hf0, hf3]
      · cases hc; refine ((e4 (b + 35) (by omega) (by omega)).trans ((h4o (b + 35) (by omega)).trans d16)).trans (fin_q (by decide) (qa0_35.trans ?_)); funext j; congr 2; omega
      · cases hc; exact ((e4 (b + 36) (by omega) (by omega)).trans ((h4o (b + 36) (by omega)).trans d17)).trans (fin_i (by decide) (ia0_z (by omega)))
    · obtain ⟨j, rfl⟩ : ∃ j, k = 37 + j := ⟨k - 37, by omega⟩
      have hj : j < 128 := by omega
      have hc2 : SK b (b + (37 + j)) = some c := by rw [SK_at]; exact hc
      rw [K_met hj] at hc2
      cases hc2
      rw [e4 _ (by omega) (by omega), h4o _ (by omega), show b + (37 + j) = b + 20 + 17 + j by omega, d18 j hj]
      rfl
    · obtain rfl | rfl | rfl : k = 165 ∨ k = 166 ∨ k = 167 := by omega
      · cases hc; refine ((e4 (b + 165) (by omega) (by omega)).trans ((h4o (b + 165) (by omega)).trans d19)).trans ?_; have hf0 : fi0 b (b + 165) 0 = _ := fi0_z (by omega); have hf3 : fi0 b (b + 165) 3 = _ := fi0_z (by omega); simp only [mCell, mFlds, mFld, Nat.zero_add, Nat.reduceAdd, hf0, hf3]
      · cases hc; refine ((e4 (b + 166) (by omega) (by omega)).trans ((h4o (b + 166) (by omega)).trans d20)).trans (fin_q (by decide) (qa0_166.trans ?_)); funext j; congr 2; omega
      · cases hc; exact ((e4 (b + 167) (by omega) (by omega)).trans ((h4o (b + 167) (by omega)).trans d21)).trans (fin_i (by decide) (ia0_z (by omega)))
    · obtain ⟨j, rfl⟩ : ∃ j, k = 168 + j := ⟨k - 168, by omega⟩
      have hj : j < 128 := by omega
      have hc2 : SK b (b + (168 + j)) = some c := by rw [SK_at]; exact hc
      rw [K_proved hj] at hc2
      cases hc2
      rw [e4 _ (by omega) (by omega), h4o _ (by omega), show b + (168 + j) = b + 20 + 148 + j by omega, d22 j hj]
      rfl
    · have hj : (k - 296) / 5 < 153 := by omega
      have hke : k = 296 + 5 * ((k - 296) / 5) + (k - 296) % 5 := by omega
      have hm : (k - 296) % 5 < 5 := Nat.mod_lt _ (by decide)
      generalize (k - 296) / 5 = j at hke hj
      generalize (k - 296) % 5 = i at hke hm
      subst hke
      have hc2 : SK b (b + (296 + 5 * j + i)) = some c := by rw [SK_at]; exact hc
      rw [e4 _ (by omega) (by omega), h4o _ (by omega)]
      by_cases hi : i = 0
      · subst hi
        rw [show b + (296 + 5 * j + 0) = b + (296 + 5 * j) from rfl, K_lev hj] at hc2
        cases hc2
        rw [show b + (296 + 5 * j + 0) = b + 20 + 276 + 5 * j by omega, d23 j hj]
        simp only [zLv, mCell, mFlds, mFld, fi0]
        have n1 : ¬ ((b + 20 + 276 + 5 * j = b + 1 ∨ b + 20 + 276 + 5 * j = b + 9 ∨ (b + 1061 ≤ b + 20 + 276 + 5 * j ∧ b + 20 + 276 + 5 * j < b + 1089 ∧ (b + 20 + 276 + 5 * j - b - 1061) % 7 = 0)) ∧ 0 + 1 + 1 + 1 + 1 = 0) := by omega
        have n2 : ¬ (b + 20 + 276 + 5 * j = b + 22 ∧ 0 + 1 + 1 + 1 + 1 = 0) := by omega
        rw [if_neg n1, if_neg n2, show b + (296 + 5 * j + 1) = b + 20 + 276 + 5 * j + 1 by omega, show b + (296 + 5 * j + 2) = b + 20 + 276 + 5 * j + 2 by omega, show b + (296 + 5 * j + 3) = b + 20 + 276 + 5 * j + 3 by omega, show b + (296 + 5 * j + 4) = b + 20 + 276 + 5 * j + 4 by omega]
      · rw [K_levS hj (by omega) (by omega)] at hc2
        cases hc2
        rw [show b + (296 + 5 * j + i) = b + 20 + 276 + 5 * j + i by omega, d24 j i hj (by omega) (by omega)]
        rfl
    · have hj : (k - 1061) / 7 < 4 := by omega
      have hke : k = 1061 + 7 * ((k - 1061) / 7) + (k - 1061) % 7 := by omega
      have hm : (k - 1061) % 7 < 7 := Nat.mod_lt _ (by decide)
      generalize (k - 1061) / 7 = j at hke hj
      generalize (k - 1061) % 7 = i at hke hm
      subst hke
      have hc2 : SK b (b + (1061 + 7 * j + i)) = some c := by rw [SK_at]; exact hc
      rw [K_his hj hm] at hc2
      have e3' := e3 j i hj hm
      rw [show b + (1061 + 7 * j + i) = b + (1061 + 7 * j) + i by omega, e3']
      have m1 : ∀ i' : Nat, i' < 7 → (b + (1061 + 7 * j) + i' - b - 1061) % 7 = i' := fun i' hi' => by omega
      obtain rfl | rfl | rfl | rfl | rfl | rfl | rfl : i = 0 ∨ i = 1 ∨ i = 2 ∨ i = 3 ∨ i = 4 ∨ i = 5 ∨ i = 6 := by omega
      · cases hc2
        simp only [zSt, mCell, mFlds, mFld, fi0]
        rw [if_pos ⟨Or.inr (Or.inr ⟨by omega, by omega, m1 0 hm⟩), trivial⟩]
      · cases hc2
        simp only [zSt, mCell]
        rw [if_neg (by decide)]
        have : ia0 b (b + (1061 + 7 * j) + 1) = upd (fun _ => 0) 0 1 := by
          funext q
          simp only [ia0, upd]
          rw [if_pos (Or.inr (Or.inr ⟨by omega, by omega, m1 1 hm⟩))]
        rw [this]
      · cases hc2
        simp only [zSt, mCell]
        rw [if_neg (by decide)]
        have : ia0 b (b + (1061 + 7 * j) + 2) = fun _ => 0 := by
          funext q
          have := m1 2 hm
          simp only [ia0]
          rw [if_neg (by omega), if_neg (by omega), if_neg (by omega), if_neg (by omega)]
        rw [this]
      · cases hc2
        simp only [zSt, mCell]
        rw [if_pos (by decide)]
        have : qa0 b (b + (1061 + 7 * j) + 3) = fun _ => none := by
          funext q
          simp only [qa0]
          rw [if_neg (by omega), if_neg (by omega), if_neg (by omega), if_neg (by omega)]
        rw [this]
      · cases hc2
        simp only [zSt, mCell]
        rw [if_neg (by decide)]
        have : ia0 b (b + (1061 + 7 * j) + 4) = fun _ => 0 := by
          funext q
          have := m1 4 hm
          simp only [ia0]
          rw [if_neg (by omega), if_neg (by omega), if_neg (by omega), if_neg (by omega)]
        rw [this]
      · cases hc2
        simp only [zSt, mCell]
        rw [if_neg (by decide)]
        have : ia0 b (b + (1061 + 7 * j) + 5) = fun _ => 0 := by
          funext q
          have := m1 5 hm
          simp only [ia0]
          rw [if_neg (by omega), if_neg (by omega), if_neg (by omega), if_neg (by omega)]
        rw [this]
      · cases hc2
        simp only [zSt, mCell]
        rw [if_neg (by decide)]
        have : ia0 b (b + (1061 + 7 * j) + 6) = fun _ => 0 := by
          funext q
          have := m1 6 hm
          simp only [ia0]
          rw [if_neg (by omega), if_neg (by omega), if_neg (by omega), if_neg (by omega)]
        rw [this]
  · intro q hq
    rw [e4 q (by omega) (by omega), h4o q (by omega), d25 q (by omega), va_up_ne _ _ (by omega), h3o q (by omega), c5 q (by omega), va_up_ne _ _ (by omega), h2o q (by omega), b2 q (by omega), va_up_ne _ _ (by omega), h1o q (by omega) (by omega), a2 q (by omega), va_up_ne _ _ (by omega)]
