/-! WHAT THE CONSTRUCTORS LAY -/
theorem stF_of {f : mmF} {a c j : Nat} {l : List Value} {v : Value} (h : f a = some (.inr (c, l))) (hj : j < l.length) : stF f a c j v = some (va_up f a (some (.inr (c, l.set j v)))) := by
  simp only [stF, h]
  rw [if_pos ⟨trivial, hj⟩]
theorem ldR_of {f : mmF} {a c j v : Nat} {l : List Value} (h : f a = some (.inr (c, l))) (hl : l[j]? = some (.ref v)) : ldR f a c j = some v := by
  simp only [ldR, ldF, h, if_pos, hl]
theorem ldI_of {f : mmF} {a c j : Nat} {v : Int32} {l : List Value} (h : f a = some (.inr (c, l))) (hl : l[j]? = some (.int v)) : ldI f a c j = some v := by
  simp only [ldI, ldF, h, if_pos, hl]
theorem stA_of {f : mmF} {a t n i : Nat} {g : Nat → Int32} {x : Int32} (h : f a = some (.inl (t, n, .inl g))) (hi : i < n) (hn : n < 2 ^ 31) : stA t f a (nI i) x = some (va_up f a (some (.inl (t, n, .inl (upd g i x))))) := by
  simp only [stA, h]
  rw [if_pos ⟨trivial, nI_in hi hn⟩, nI_clamp (by omega)]
theorem stQ_of {f : mmF} {a t n i ci v : Nat} {l : List Value} {g : Nat → Option Nat} (h : f a = some (.inl (t, n, .inr (.inr (.inr (.inr g)))))) (hi : i < n) (hn : n < 2 ^ 31) (ho : f v = some (.inr (ci, l))) : stQ t ci f a (nI i) (some v) = some (va_up f a (some (.inl (t, n, .inr (.inr (.inr (.inr (va_up g i (some v))))))))) := by
  have hk : okQ f ci (some v) = true := by simp only [okQ, ho, beq_self_eq_true]
  simp only [stQ, h]
  rw [if_pos ⟨⟨trivial, nI_in hi hn⟩, hk⟩, nI_clamp (by omega)]
theorem lenA_of {f : mmF} {a t n : Nat} {y : (Nat → Int32) ⊕ (Nat → Int64) ⊕ (Nat → UInt32) ⊕ (Nat → UInt64) ⊕ (Nat → Option Nat)} (h : f a = some (.inl (t, n, y))) (ht : t ≤ 9) : lenA f a = some (nI n) := by
  simp only [lenA, h]
  rw [if_pos ht]
  rfl
theorem up_same {f : mmF} {a : Nat} {v : Option va_E} (h : f a = v) : va_up f a v = f := by
  funext q
  by_cases hq : q = a
  · subst hq; rw [va_up_self, h]
  · rw [va_up_ne _ _ hq]
theorem bind_eq {α β : Type} {o : Option α} {x : α} (h : o = some x) (g : α → Option β) : o.bind g = g x := by rw [h]; rfl
abbrev zI (t n : Nat) (g : Nat → Int32) : Option va_E := some (.inl (t, n, .inl g))
abbrev zQ (t n : Nat) (g : Nat → Option Nat) : Option va_E := some (.inl (t, n, .inr (.inr (.inr (.inr g)))))
theorem i_X7 {f : mmF} {a : Nat} (h : f a = some (.inr (7, [.int 0, .null, .null, .null, .null, .null, .null]))) : ∃ f1 : mmF, f_X7_init a f (a + 1) = some (f1, a + 7) ∧ f1 a = some (.inr (7, [.int 1, .ref (a + 1), .ref (a + 2), .ref (a + 3), .ref (a + 4), .ref (a + 5), .ref (a + 6)])) ∧ f1 (a + 1) = zI 0 8 (upd (fun _ => 0) 0 1) ∧ f1 (a + 2) = zI 0 8 (fun _ => 0) ∧ f1 (a + 3) = zQ 3 5 (fun _ => none) ∧ f1 (a + 4) = zI 0 8 (fun _ => 0) ∧ f1 (a + 5) = zI 0 8 (fun _ => 0) ∧ f1 (a + 6) = zI 0 151 (fun _ => 0) ∧ ∀ q : Nat, q < a ∨ a + 7 ≤ q → f1 q = f q := by
  have e : ∀ (g : mmF) (x : Nat) (v : Option va_E), x ≠ a → va_up g x v a = g a := fun g x v hx => va_up_ne _ _ (Ne.symm hx)
  unfold f_X7_init
  rw [stF_of h (by decide)]
  simp only [Option.bind_some, List.set_cons_zero, List.set_cons_succ]
  rw [stF_of (l := [.int 1, .null, .null, .null, .null, .null, .null]) (by rw [e _ _ _ (by omega), va_up_self]) (by decide)]
  simp only [Option.bind_some, List.set_cons_zero, List.set_cons_succ]
  rw [stF_of (l := [.int 1, .ref (a + 1), .null, .null, .null, .null, .null]) (by rw [e _ _ _ (by omega), va_up_self]) (by simp)]
  simp only [Option.bind_some, List.set_cons_zero, List.set_cons_succ]
  rw [stF_of (l := [.int 1, .ref (a + 1), .ref (a + 1 + 1), .null, .null, .null, .null]) (by rw [e _ _ _ (by omega), va_up_self]) (by simp)]
  simp only [Option.bind_some, List.set_cons_zero, List.set_cons_succ]
  rw [stF_of (l := [.int 1, .ref (a + 1), .ref (a + 1 + 1), .ref (a + 1 + 1 + 1), .null, .null, .null]) (by rw [e _ _ _ (by omega), va_up_self]) (by simp)]
  simp only [Option.bind_some, List.set_cons_zero, List.set_cons_succ]
  rw [stF_of (l := [.int 1, .ref (a + 1), .ref (a + 1 + 1), .ref (a + 1 + 1 + 1), .ref (a + 1 + 1 + 1 + 1), .null, .null]) (by rw [e _ _ _ (by omega), va_up_self]) (by simp)]
  simp only [Option.bind_some, List.set_cons_zero, List.set_cons_succ]
  rw [stF_of (l := [.int 1, .ref (a + 1), .ref (a + 1 + 1), .ref (a + 1 + 1 + 1), .ref (a + 1 + 1 + 1 + 1), .ref (a + 1 + 1 + 1 + 1 + 1), .null]) (by rw [e _ _ _ (by omega), va_up_self]) (by simp)]
  simp only [Option.bind_some, List.set_cons_zero, List.set_cons_succ]
  rw [ldR_of (l := [.int 1, .ref (a + 1), .ref (a + 1 + 1), .ref (a + 1 + 1 + 1), .ref (a + 1 + 1 + 1 + 1), .ref (a + 1 + 1 + 1 + 1 + 1), .ref (a + 1 + 1 + 1 + 1 + 1 + 1)]) (v := a + 1) (va_up_self _ _ _) rfl]
  simp only [Option.bind_some]
  rw [show (0 : Int32) = nI 0 from rfl, stA_of (n := 8) (g := fun _ => nI 0) (by simp [va_up]) (by decide) (by decide)]
  simp only [Option.bind_some]
  refine ⟨_, rfl, ?_, ?_, ?_, ?_, ?_, ?_, ?_, ?_⟩
  · simp [va_up]
  · simp [va_up]
  · simp [va_up]
  · simp [va_up]
  · simp [va_up]
  · simp [va_up]
  · simp [va_up]
  · intro q hq
    have h0 : q ≠ a := by omega
    have h1 : q ≠ a + 1 := by omega
    have h2 : q ≠ a + 1 + 1 := by omega
    have h3 : q ≠ a + 1 + 1 + 1 := by omega
    have h4 : q ≠ a + 1 + 1 + 1 + 1 := by omega
    have h5 : q ≠ a + 1 + 1 + 1 + 1 + 1 := by omega
    have h6 : q ≠ a + 1 + 1 + 1 + 1 + 1 + 1 := by omega
    simp only [va_up, if_neg h0, if_neg h1, if_neg h2, if_neg h3, if_neg h4, if_neg h5, if_neg h6]
theorem i_X8 {f : mmF} {a : Nat} (h : f a = some (.inr (8, [.int 0, .null, .null, .int 0, .null, .int 0, .int 0]))) : ∃ f1 : mmF, f_X8_init a f (a + 1) = some (f1, a + 4) ∧ f1 a = some (.inr (8, [.int 0, .ref (a + 1), .ref (a + 2), .int 0, .ref (a + 3), .int 0, .int 0])) ∧ f1 (a + 1) = zI 0 30 (fun _ => 0) ∧ f1 (a + 2) = zI 0 30 (fun _ => 0) ∧ f1 (a + 3) = zI 0 30 (fun _ => 0) ∧ ∀ q : Nat, q < a ∨ a + 4 ≤ q → f1 q = f q := by
  have e : ∀ (g : mmF) (x : Nat) (v : Option va_E), x ≠ a → va_up g x v a = g a := fun g x v hx => va_up_ne _ _ (Ne.symm hx)
  unfold f_X8_init
  rw [stF_of h (by decide)]
  simp only [Option.bind_some, List.set_cons_zero, List.set_cons_succ]
  rw [stF_of (l := [.int 0, .null, .null, .int 0, .null, .int 0, .int 0]) (by rw [e _ _ _ (by omega), va_up_self]) (by decide)]
  simp only [Option.bind_some, List.set_cons_zero, List.set_cons_succ]
  rw [stF_of (l := [.int 0, .ref (a + 1), .null, .int 0, .null, .int 0, .int 0]) (by rw [e _ _ _ (by omega), va_up_self]) (by simp)]
  simp only [Option.bind_some, List.set_cons_zero, List.set_cons_succ]
  rw [stF_of (l := [.int 0, .ref (a + 1), .ref (a + 1 + 1), .int 0, .null, .int 0, .int 0]) (va_up_self _ _ _) (by simp)]
  simp only [Option.bind_some, List.set_cons_zero, List.set_cons_succ]
  rw [stF_of (l := [.int 0, .ref (a + 1), .ref (a + 1 + 1), .int 0, .null, .int 0, .int 0]) (by rw [e _ _ _ (by omega), va_up_self]) (by simp)]
  simp only [Option.bind_some, List.set_cons_zero, List.set_cons_succ]
  rw [stF_of (l := [.int 0, .ref (a + 1), .ref (a + 1 + 1), .int 0, .ref (a + 1 + 1 + 1), .int 0, .int 0]) (va_up_self _ _ _) (by simp)]
  simp only [Option.bind_some, List.set_cons_zero, List.set_cons_succ]
  rw [stF_of (l := [.int 0, .ref (a + 1), .ref (a + 1 + 1), .int 0, .ref (a + 1 + 1 + 1), .int 0, .int 0]) (va_up_self _ _ _) (by simp)]
  simp only [Option.bind_some, List.set_cons_zero, List.set_cons_succ]
  refine ⟨_, rfl, ?_, ?_, ?_, ?_, ?_⟩
  · simp [va_up]
  · simp [va_up]
  · simp [va_up]
  · simp [va_up]
  · intro q hq
    have h0 : q ≠ a := by omega
    have h1 : q ≠ a + 1 := by omega
    have h2 : q ≠ a + 1 + 1 := by omega
    have h3 : q ≠ a + 1 + 1 + 1 := by omega
    simp only [va_up, if_neg h0, if_neg h1, if_neg h2, if_neg h3]
theorem FU_k (k : Nat) (hk : k ≤ 2 ^ 7000) : ∃ n : Nat, FU = n + k := ⟨FU - k, by have := FU_ge; omega⟩
theorem FU_1000 : ∃ n : Nat, FU = n + 1000 := FU_k 1000 (Nat.le_trans (show 1000 ≤ 2 ^ 10 by decide) (Nat.pow_le_pow_right (by decide) (by decide)))
theorem gen1 {m : mmF} {g : mmF → Option (mmF × Nat)} {z : Nat} {P : mmF → Prop} (h : ∀ G : mmF, G = m → ∃ f1 : mmF, g G = some (f1, z) ∧ P f1) : ∃ f1 : mmF, g m = some (f1, z) ∧ P f1 := h m rfl
theorem stF_ex {f : mmF} {a c j : Nat} {l : List Value} {v : Value} (h : f a = some (.inr (c, l))) (hj : j < l.length) : ∃ g : mmF, stF f a c j v = some g ∧ g a = some (.inr (c, l.set j v)) ∧ ∀ q : Nat, q ≠ a → g q = f q := ⟨_, stF_of h hj, va_up_self _ _ _, fun _ hq => va_up_ne _ _ hq⟩
/-- kinds: the first six name themselves -/
theorem i_X4_68 {a s : Nat} : ∀ (m i : Nat) (n : Nat) (f : mmF) (g : Nat → Int32), i + m = 6 → m < n → f a = some (.inr (4, [.int 6, .ref (a + 1), .ref (a + 2), .ref (a + 3), .ref (a + 4), .int 0, .ref (a + 5), .ref (a + 6)])) → f (a + 1) = zI 0 151 g → (∀ j, g j = if j < i then nI j else 0) → ∃ f1 : mmF, f_X4_init_68 n a (nI i) f s = some (f1, s) ∧ f1 (a + 1) = zI 0 151 (fun j => if j < 6 then nI j else 0) ∧ ∀ q : Nat, q ≠ a + 1 → f1 q = f q := by
  intro m
  induction m with
  | zero =>
    intro i n f g hi hn h0 h1 hg
    obtain ⟨n, rfl⟩ : ∃ k, n = k + 1 := ⟨n - 1, by omega⟩
    have hi6 : i = 6 := by omega
    subst hi6
    rw [f_X4_init_68, if_pos (show (6 : Int32) ≤ nI 6 by decide)]
    refine ⟨f, rfl, ?_, fun _ _ => rfl⟩
    rw [h1]
    have : g = fun j => if j < 6 then nI j else 0 := funext hg
    rw [this]
  | succ m ih =>
    intro i n f g hi hn h0 h1 hg
    obtain ⟨n, rfl⟩ : ∃ k, n = k + 1 := ⟨n - 1, by omega⟩
    have hlt : ¬ (6 : Int32) ≤ nI i := nI_ge (a := i) (b := 6) (by omega) (by decide)
    rw [f_X4_init_68, if_neg hlt, ldR_of h0 (v := a + 1) rfl]
    simp only [Option.bind_some]
    rw [stA_of h1 (by omega) (by decide)]
    simp only [Option.bind_some]
    rw [nI_1]
    obtain ⟨f1, e1, e2, e3⟩ := ih (i + 1) n (va_up f (a + 1) (zI 0 151 (upd g i (nI i)))) (upd g i (nI i)) (by omega) (by omega) (by rw [va_up_ne _ _ (by omega)]; exact h0) (va_up_self _ _ _) (fun j => by
      by_cases hj : j = i
      · subst hj; rw [pk_us, if_pos (by omega)]
      · rw [pk_un hj, hg]
        by_cases hj2 : j < i
        · rw [if_pos hj2, if_pos (by omega)]
        · rw [if_neg hj2, if_neg (by omega)])
    exact ⟨f1, e1, e2, fun q hq => by rw [e3 q hq, va_up_ne _ _ hq]⟩
theorem i_X4 {f : mmF} {a : Nat} (h : f a = some (.inr (4, [.int 0, .null, .null, .null, .null, .int 0, .null, .null]))) : ∃ f1 : mmF, f_X4_init a f (a + 1) = some (f1, a + 7) ∧ f1 a = some (.inr (4, [.int 6, .ref (a + 1), .ref (a + 2), .ref (a + 3), .ref (a + 4), .int 0, .ref (a + 5), .ref (a + 6)])) ∧ f1 (a + 1) = zI 0 151 (fun j => if j < 6 then nI j else 0) ∧ f1 (a + 2) = zI 0 151 (fun _ => 0) ∧ f1 (a + 3) = zI 0 151 (fun _ => 0) ∧ f1 (a + 4) = zI 0 5 (fun _ => 0) ∧ f1 (a + 5) = zI 0 30 (fun _ => 0) ∧ f1 (a + 6) = zI 0 151 (fun _ => 0) ∧ ∀ q : Nat, q < a ∨ a + 7 ≤ q → f1 q = f q := by
  have e : ∀ (g : mmF) (x : Nat) (v : Option va_E), x ≠ a → va_up g x v a = g a := fun g x v hx => va_up_ne _ _ (Ne.symm hx)
  unfold f_X4_init
  rw [stF_of h (by decide)]
  simp only [Option.bind_some, List.set_cons_zero, List.set_cons_succ]
  rw [stF_of (l := [.int 6, .null, .null, .null, .null, .int 0, .null, .null]) (by rw [e _ _ _ (by omega), va_up_self]) (by decide)]
  simp only [Option.bind_some, List.set_cons_zero, List.set_cons_succ]
  rw [stF_of (l := [.int 6, .ref (a + 1), .null, .null, .null, .int 0, .null, .null]) (by rw [e _ _ _ (by omega), va_up_self]) (by simp)]
  simp only [Option.bind_some, List.set_cons_zero, List.set_cons_succ]
  rw [stF_of (l := [.int 6, .ref (a + 1), .ref (a + 1 + 1), .null, .null, .int 0, .null, .null]) (by rw [e _ _ _ (by omega), va_up_self]) (by simp)]
  simp only [Option.bind_some, List.set_cons_zero, List.set_cons_succ]
  rw [stF_of (l := [.int 6, .ref (a + 1), .ref (a + 1 + 1), .ref (a + 1 + 1 + 1), .null, .int 0, .null, .null]) (by rw [e _ _ _ (by omega), va_up_self]) (by simp)]
  simp only [Option.bind_some, List.set_cons_zero, List.set_cons_succ]
  rw [stF_of (l := [.int 6, .ref (a + 1), .ref (a + 1 + 1), .ref (a + 1 + 1 + 1), .ref (a + 1 + 1 + 1 + 1), .int 0, .null, .null]) (va_up_self _ _ _) (by simp)]
  simp only [Option.bind_some, List.set_cons_zero, List.set_cons_succ]
  rw [stF_of (l := [.int 6, .ref (a + 1), .ref (a + 1 + 1), .ref (a + 1 + 1 + 1), .ref (a + 1 + 1 + 1 + 1), .int 0, .null, .null]) (by rw [e _ _ _ (by omega), va_up_self]) (by simp)]
  simp only [Option.bind_some, List.set_cons_zero, List.set_cons_succ]
  rw [stF_of (l := [.int 6, .ref (a + 1), .ref (a + 1 + 1), .ref (a + 1 + 1 + 1), .ref (a + 1 + 1 + 1 + 1), .int 0, .ref (a + 1 + 1 + 1 + 1 + 1), .null]) (by rw [e _ _ _ (by omega), va_up_self]) (by simp)]
  simp only [Option.bind_some, List.set_cons_zero, List.set_cons_succ]
  obtain ⟨n, hn⟩ := FU_1000
  rw [hn]
  refine gen1 (g := fun G => f_X4_init_68 (n + 1000) a (0 : Int32) G (a + 1 + 1 + 1 + 1 + 1 + 1 + 1)) (fun G hG => ?_)
  have Ga : G a = some (.inr (4, [.int 6, .ref (a + 1), .ref (a + 2), .ref (a + 3), .ref (a + 4), .int 0, .ref (a + 5), .ref (a + 6)])) := by rw [hG]; exact va_up_self _ _ _
  have G1 : G (a + 1) = zI 0 151 (fun _ => 0) := by rw [hG]; simp [va_up]
  have G2 : G (a + 2) = zI 0 151 (fun _ => 0) := by rw [hG]; simp [va_up]
  have G3 : G (a + 3) = zI 0 151 (fun _ => 0) := by rw [hG]; simp [va_up]
  have G4 : G (a + 4) = zI 0 5 (fun _ => 0) := by rw [hG]; simp [va_up]
  have G5 : G (a + 5) = zI 0 30 (fun _ => 0) := by rw [hG]; simp [va_up]
  have G6 : G (a + 6) = zI 0 151 (fun _ => 0) := by rw [hG]; simp [va_up]
  have Go : ∀ q : Nat, q < a ∨ a + 7 ≤ q → G q = f q := by
    intro q hq
    rw [hG]
    simp only [va_up]
    repeat rw [if_neg (by omega)]
  clear hG
  obtain ⟨f1, e1, e2, e3⟩ := i_X4_68 (a := a) (s := a + 1 + 1 + 1 + 1 + 1 + 1 + 1) 6 0 (n + 1000) G (fun _ => 0) rfl (by omega) Ga G1 (fun j => rfl)
  exact ⟨f1, e1, (e3 _ (by omega)).trans Ga, e2, (e3 _ (by omega)).trans G2, (e3 _ (by omega)).trans G3, (e3 _ (by omega)).trans G4, (e3 _ (by omega)).trans G5, (e3 _ (by omega)).trans G6, fun q hq => (e3 q (by omega)).trans (Go q hq)⟩
theorem i_X6_53 {a s : Nat} {l : List Value} (hl : l[1]? = some (.ref s)) {w : Nat} : ∀ (m i : Nat) (n : Nat) (f : mmF) (g : Nat → Int32), i + m = 151 → m < n → f a = some (.inr (6, l)) → a ≠ s → f s = zI 0 151 g → (∀ j, g j = if j < i then 65535 else 0) → ∃ f1 : mmF, f_X6_init_53 n a (nI i) f w = some (f1, w) ∧ f1 s = zI 0 151 (fun j => if j < 151 then 65535 else 0) ∧ ∀ q : Nat, q ≠ s → f1 q = f q := by
  intro m
  induction m with
  | zero =>
    intro i n f g hi hn h0 has h1 hg
    obtain ⟨n, rfl⟩ : ∃ k, n = k + 1 := ⟨n - 1, by omega⟩
    have hi6 : i = 151 := by omega
    subst hi6
    rw [f_X6_init_53, ldR_of h0 hl]
    simp only [Option.bind_some]
    rw [lenA_of h1 (by decide)]
    simp only [Option.bind_some]
    rw [if_pos (show nI 151 ≤ nI 151 by decide)]
    refine ⟨f, rfl, ?_, fun _ _ => rfl⟩
    rw [h1]
    have : g = fun j => if j < 151 then 65535 else 0 := funext hg
    rw [this]
  | succ m ih =>
    intro i n f g hi hn h0 has h1 hg
    obtain ⟨n, rfl⟩ : ∃ k, n = k + 1 := ⟨n - 1, by omega⟩
    have hlt : ¬ nI 151 ≤ nI i := nI_ge (a := i) (b := 151) (by omega) (by decide)
    rw [f_X6_init_53, ldR_of h0 hl]
    simp only [Option.bind_some]
    rw [lenA_of h1 (by decide)]
    simp only [Option.bind_some]
    rw [if_neg hlt, stA_of h1 (by omega) (by decide)]
    simp only [Option.bind_some]
    rw [nI_1]
    obtain ⟨f1, e1, e2, e3⟩ := ih (i + 1) n (va_up f s (zI 0 151 (upd g i 65535))) (upd g i 65535) (by omega) (by omega) (by rw [va_up_ne _ _ has]; exact h0) has (va_up_self _ _ _) (fun j => by
      by_cases hj : j = i
      · subst hj; rw [pk_us, if_pos (by omega)]
      · rw [pk_un hj, hg]
        by_cases hj2 : j < i
        · rw [if_pos hj2, if_pos (by omega)]
        · rw [if_neg hj2, if_neg (by omega)])
    exact ⟨f1, e1, e2, fun q hq => by rw [e3 q hq, va_up_ne _ _ hq]⟩
/-- SmallModels at a, Parts at a + 1 -/
theorem i_X6 {f : mmF} {a : Nat} (h : f a = some (.inr (6, [.null, .null, .null, .null, .null]))) : ∃ f1 : mmF, f_X6_init a f (a + 1) = some (f1, a + 12) ∧ f1 a = some (.inr (6, [.ref (a + 1), .ref (a + 8), .ref (a + 9), .ref (a + 10), .ref (a + 11)])) ∧ f1 (a + 1) = some (.inr (4, [.int 6, .ref (a + 2), .ref (a + 3), .ref (a + 4), .ref (a + 5), .int 0, .ref (a + 6), .ref (a + 7)])) ∧ f1 (a + 2) = zI 0 151 (fun j => if j < 6 then nI j else 0) ∧ f1 (a + 3) = zI 0 151 (fun _ => 0) ∧ f1 (a + 4) = zI 0 151 (fun _ => 0) ∧ f1 (a + 5) = zI 0 5 (fun _ => 0) ∧ f1 (a + 6) = zI 0 30 (fun _ => 0) ∧ f1 (a + 7) = zI 0 151 (fun _ => 0) ∧ f1 (a + 8) = zI 0 151 (fun j => if j < 151 then 65535 else 0) ∧ f1 (a + 9) = zI 0 151 (fun _ => 0) ∧ f1 (a + 10) = zI 0 151 (fun _ => 0) ∧ f1 (a + 11) = zI 0 151 (fun _ => 0) ∧ ∀ q : Nat, q < a ∨ a + 12 ≤ q → f1 q = f q := by
  have e : ∀ (g : mmF) (x : Nat) (v : Option va_E), x ≠ a → va_up g x v a = g a := fun g x v hx => va_up_ne _ _ (Ne.symm hx)
  unfold f_X6_init
  simp only [Option.bind_some]
  obtain ⟨g, x0, x1, x2, x3, x4, x5, x6, x7, x8⟩ := i_X4 (f := va_up f (a + 1) (some (.inr (4, [.int 0, .null, .null, .null, .null, .int 0, .null, .null])))) (a := a + 1) (va_up_self _ _ _)
  rw [x0]
  have xa : g a = some (.inr (6, [.null, .null, .null, .null, .null])) := by rw [x8 a (by omega), e _ _ _ (by omega), h]
  simp only [Option.bind_some]
  rw [stF_of xa (by decide)]
  simp only [Option.bind_some, List.set_cons_zero, List.set_cons_succ]
  rw [stF_of (l := [.ref (a + 1), .null, .null, .null, .null]) (by rw [e _ _ _ (by omega), va_up_self]) (by simp)]
  simp only [Option.bind_some, List.set_cons_zero, List.set_cons_succ]
  rw [stF_of (l := [.ref (a + 1), .ref (a + 1 + 7), .null, .null, .null]) (by rw [e _ _ _ (by omega), va_up_self]) (by simp)]
  simp only [Option.bind_some, List.set_cons_zero, List.set_cons_succ]
  rw [stF_of (l := [.ref (a + 1), .ref (a + 1 + 7), .ref (a + 1 + 7 + 1), .null, .null]) (by rw [e _ _ _ (by omega), va_up_self]) (by simp)]
  simp only [Option.bind_some, List.set_cons_zero, List.set_cons_succ]
  rw [stF_of (l := [.ref (a + 1), .ref (a + 1 + 7), .ref (a + 1 + 7 + 1), .ref (a + 1 + 7 + 1 + 1), .null]) (by rw [e _ _ _ (by omega), va_up_self]) (by simp)]
  simp only [Option.bind_some, List.set_cons_zero, List.set_cons_succ]
  obtain ⟨n, hn⟩ := FU_1000
  rw [hn]
  refine gen1 (g := fun G => f_X6_init_53 (n + 1000) a (0 : Int32) G (a + 1 + 7 + 1 + 1 + 1 + 1)) (fun G hG => ?_)
  have Ga : G a = some (.inr (6, [.ref (a + 1), .ref (a + 8), .ref (a + 9), .ref (a + 10), .ref (a + 11)])) := by rw [hG]; exact va_up_self _ _ _
  have G8 : G (a + 8) = zI 0 151 (fun _ => 0) := by rw [hG]; simp [va_up]
  have G9 : G (a + 9) = zI 0 151 (fun _ => 0) := by rw [hG]; simp [va_up]
  have G10 : G (a + 10) = zI 0 151 (fun _ => 0) := by rw [hG]; simp [va_up]
  have G11 : G (a + 11) = zI 0 151 (fun _ => 0) := by rw [hG]; simp [va_up]
  have Go : ∀ q : Nat, (q ≠ a ∧ q < a + 8) ∨ a + 12 ≤ q → G q = g q := by
    intro q hq
    rw [hG]
    simp only [va_up]
    repeat rw [if_neg (by omega)]
  clear hG
  obtain ⟨f1, e1, e2, e3⟩ := i_X6_53 (a := a) (s := a + 8) (l := [.ref (a + 1), .ref (a + 8), .ref (a + 9), .ref (a + 10), .ref (a + 11)]) rfl (w := a + 12) 151 0 (n + 1000) G (fun _ => 0) rfl (by omega) Ga (by omega) G8 (fun j => rfl)
  have fr : ∀ q : Nat, a < q → q < a + 8 → f1 q = g q := fun q h1 h2 => (e3 q (by omega)).trans (Go q (Or.inl ⟨by omega, h2⟩))
  exact ⟨f1, e1, (e3 _ (by omega)).trans Ga, (fr _ (by omega) (by omega)).trans x1, (fr _ (by omega) (by omega)).trans x2, (fr _ (by omega) (by omega)).trans x3, (fr _ (by omega) (by omega)).trans x4, (fr _ (by omega) (by omega)).trans x5, (fr _ (by omega) (by omega)).trans x6, (fr _ (by omega) (by omega)).trans x7, e2, (e3 _ (by omega)).trans G9, (e3 _ (by omega)).trans G10, (e3 _ (by omega)).trans G11, fun q hq => by rw [e3 q (by omega), Go q (by omega), x8 q (by omega), va_up_ne _ _ (by omega)]⟩
theorem x3n : ∀ n, n < 154 → ¬ ((((3 : Int32) * (if (0 : Int32) < nI n then nI n else (0 : Int32))) < 0 ∨ 459 < ((3 : Int32) * (if (0 : Int32) < nI n then nI n else (0 : Int32))).toNatClampNeg)) ∧ ((3 : Int32) * (if (0 : Int32) < nI n then nI n else (0 : Int32))).toNatClampNeg = 3 * n := by decide +kernel
theorem i_X3 {f : mmF} {a : Nat} (n : Nat) (hn : n < 154) (h : f a = some (.inr (3, [.null]))) : ∃ f1 : mmF, f_X3_init a (nI n) f (a + 1) = some (f1, a + 2) ∧ f1 a = some (.inr (3, [.ref (a + 1)])) ∧ f1 (a + 1) = some (.inl (4, 3 * n, .inr (.inl (fun _ => 0)))) ∧ ∀ q : Nat, q ≠ a ∧ q ≠ a + 1 → f1 q = f q := by
  unfold f_X3_init
  rw [if_neg (x3n n hn).1, (x3n n hn).2]
  simp only [Option.bind_some]
  rw [stF_of (l := [.null]) (by rw [va_up_ne _ _ (by omega)]; exact h) (by decide)]
  simp only [Option.bind_some, List.set_cons_zero]
  exact ⟨_, rfl, va_up_self _ _ _, (va_up_ne _ _ (by omega)).trans (va_up_self _ _ _), fun q hq => (va_up_ne _ _ hq.1).trans (va_up_ne _ _ hq.2)⟩
theorem i_X1 {f : mmF} {a : Nat} (h : f a = some (.inr (1, [.int 0, .null, .null, .int 0]))) : ∃ f1 : mmF, f_X1_init a f (a + 1) = some (f1, a + 4) ∧ f1 a = some (.inr (1, [.int 0, .ref (a + 1), .ref (a + 3), .int 0])) ∧ f1 (a + 1) = some (.inr (3, [.ref (a + 2)])) ∧ f1 (a + 2) = some (.inl (4, 384, .inr (.inl (fun _ => 0)))) ∧ f1 (a + 3) = some (.inl (0, 128, .inl (fun _ => 0))) ∧ ∀ q : Nat, q < a ∨ a + 4 ≤ q → f1 q = f q := by
  obtain ⟨g0, hg0⟩ : ∃ g : mmF, g = f := ⟨f, rfl⟩
  rw [← hg0] at h ⊢
  obtain ⟨g1, e1, c1, o1⟩ := stF_ex (f := g0) (a := a) (c := 1) (j := 0) (v := .int (0 : Int32)) (l := [.int 0, .null, .null, .int 0]) (h) (by simp)
  have c1 : g1 a = some (.inr (1, [.int (0 : Int32), .null, .null, .int 0])) := c1
  obtain ⟨g2, hg2⟩ : ∃ g : mmF, g = va_up g1 (a + 1) (some (.inr (3, [.null]))) := ⟨_, rfl⟩
  have c2 : g2 (a + 1) = some (.inr (3, [.null])) := by rw [hg2, va_up_self]
  have o2 : ∀ q : Nat, q ≠ (a + 1) → g2 q = g1 q := fun q hq => by rw [hg2, va_up_ne _ _ hq]
  obtain ⟨g3, e3, c3_1, c3_2, o3⟩ := i_X3 (f := g2) (a := (a + 1)) 128 (by decide) (c2)
  obtain ⟨g4, e4, c4, o4⟩ := stF_ex (f := g3) (a := a) (c := 1) (j := 1) (v := .ref (a + 1)) (l := [.int (0 : Int32), .null, .null, .int 0]) ((o3 a (by omega)).trans <| (o2 a (by omega)).trans <| c1) (by simp)
  have c4 : g4 a = some (.inr (1, [.int (0 : Int32), .ref (a + 1), .null, .int 0])) := c4
  obtain ⟨g5, hg5⟩ : ∃ g : mmF, g = va_up g4 (a + 3) (some (.inl (0, 128, .inl (fun _ => 0)))) := ⟨_, rfl⟩
  have c5 : g5 (a + 3) = some (.inl (0, 128, .inl (fun _ => 0))) := by rw [hg5, va_up_self]
  have o5 : ∀ q : Nat, q ≠ (a + 3) → g5 q = g4 q := fun q hq => by rw [hg5, va_up_ne _ _ hq]
  obtain ⟨g6, e6, c6, o6⟩ := stF_ex (f := g5) (a := a) (c := 1) (j := 2) (v := .ref (a + 3)) (l := [.int (0 : Int32), .ref (a + 1), .null, .int 0]) ((o5 a (by omega)).trans <| c4) (by simp)
  have c6 : g6 a = some (.inr (1, [.int (0 : Int32), .ref (a + 1), .ref (a + 3), .int 0])) := c6
  obtain ⟨g7, e7, c7, o7⟩ := stF_ex (f := g6) (a := a) (c := 1) (j := 3) (v := .int (0 : Int32)) (l := [.int (0 : Int32), .ref (a + 1), .ref (a + 3), .int 0]) (c6) (by simp)
  have c7 : g7 a = some (.inr (1, [.int (0 : Int32), .ref (a + 1), .ref (a + 3), .int (0 : Int32)])) := c7
  have E : f_X1_init a g0 (a + 1) = some (g7, a + 4) := by
    unfold f_X1_init
    refine (bind_eq e1 _).trans ?_
    refine (bind_eq (x := g2) (congrArg some hg2.symm) _).trans ?_
    refine (bind_eq e3 _).trans ?_
    refine (bind_eq e4 _).trans ?_
    refine (bind_eq (x := g5) (congrArg some hg5.symm) _).trans ?_
    refine (bind_eq e6 _).trans ?_
    refine (bind_eq e7 _).trans ?_
    rfl
  refine ⟨g7, E, ?_, ?_, ?_, ?_, fun q hq => ?_⟩
  · exact c7
  · exact (o7 (a + 1) (by omega)).trans <| (o6 (a + 1) (by omega)).trans <| (o5 (a + 1) (by omega)).trans <| (o4 (a + 1) (by omega)).trans <| c3_1
  · exact (o7 (a + 2) (by omega)).trans <| (o6 (a + 2) (by omega)).trans <| (o5 (a + 2) (by omega)).trans <| (o4 (a + 2) (by omega)).trans <| c3_2
  · exact (o7 (a + 3) (by omega)).trans <| (o6 (a + 3) (by omega)).trans <| c5
  · exact (o7 q (by omega)).trans <| (o6 q (by omega)).trans <| (o5 q (by omega)).trans <| (o4 q (by omega)).trans <| (o3 q (by omega)).trans <| (o2 q (by omega)).trans <| (o1 q (by omega))
theorem i_X2 {f : mmF} {a v1 : Nat} (h : f a = some (.inr (2, [.int 0, .null, .null, .null, .null]))) : ∃ f1 : mmF, f_X2_init a v1 f (a + 1) = some (f1, a + 6) ∧ f1 a = some (.inr (2, [.int 0, .ref (a + 1), .ref v1, .ref (a + 3), .ref (a + 4)])) ∧ f1 (a + 1) = some (.inr (3, [.ref (a + 2)])) ∧ f1 (a + 2) = some (.inl (4, 3, .inr (.inl (fun _ => 0)))) ∧ f1 (a + 3) = some (.inl (0, 151, .inl (fun _ => 0))) ∧ f1 (a + 4) = some (.inr (3, [.ref (a + 5)])) ∧ f1 (a + 5) = some (.inl (4, 453, .inr (.inl (fun _ => 0)))) ∧ ∀ q : Nat, q < a ∨ a + 6 ≤ q → f1 q = f q := by
  obtain ⟨g0, hg0⟩ : ∃ g : mmF, g = f := ⟨f, rfl⟩
  rw [← hg0] at h ⊢
  obtain ⟨g1, e1, c1, o1⟩ := stF_ex (f := g0) (a := a) (c := 2) (j := 0) (v := .int (0 : Int32)) (l := [.int 0, .null, .null, .null, .null]) (h) (by simp)
  have c1 : g1 a = some (.inr (2, [.int (0 : Int32), .null, .null, .null, .null])) := c1
  obtain ⟨g2, hg2⟩ : ∃ g : mmF, g = va_up g1 (a + 1) (some (.inr (3, [.null]))) := ⟨_, rfl⟩
  have c2 : g2 (a + 1) = some (.inr (3, [.null])) := by rw [hg2, va_up_self]
  have o2 : ∀ q : Nat, q ≠ (a + 1) → g2 q = g1 q := fun q hq => by rw [hg2, va_up_ne _ _ hq]
  obtain ⟨g3, e3, c3_1, c3_2, o3⟩ := i_X3 (f := g2) (a := (a + 1)) 1 (by decide) (c2)
  obtain ⟨g4, e4, c4, o4⟩ := stF_ex (f := g3) (a := a) (c := 2) (j := 1) (v := .ref (a + 1)) (l := [.int (0 : Int32), .null, .null, .null, .null]) ((o3 a (by omega)).trans <| (o2 a (by omega)).trans <| c1) (by simp)
  have c4 : g4 a = some (.inr (2, [.int (0 : Int32), .ref (a + 1), .null, .null, .null])) := c4
  obtain ⟨g5, hg5⟩ : ∃ g : mmF, g = va_up g4 (a + 3) (some (.inl (0, 151, .inl (fun _ => 0)))) := ⟨_, rfl⟩
  have c5 : g5 (a + 3) = some (.inl (0, 151, .inl (fun _ => 0))) := by rw [hg5, va_up_self]
  have o5 : ∀ q : Nat, q ≠ (a + 3) → g5 q = g4 q := fun q hq => by rw [hg5, va_up_ne _ _ hq]
  obtain ⟨g6, e6, c6, o6⟩ := stF_ex (f := g5) (a := a) (c := 2) (j := 3) (v := .ref (a + 3)) (l := [.int (0 : Int32), .ref (a + 1), .null, .null, .null]) ((o5 a (by omega)).trans <| c4) (by simp)
  have c6 : g6 a = some (.inr (2, [.int (0 : Int32), .ref (a + 1), .null, .ref (a + 3), .null])) := c6
  obtain ⟨g7, hg7⟩ : ∃ g : mmF, g = va_up g6 (a + 4) (some (.inr (3, [.null]))) := ⟨_, rfl⟩
  have c7 : g7 (a + 4) = some (.inr (3, [.null])) := by rw [hg7, va_up_self]
  have o7 : ∀ q : Nat, q ≠ (a + 4) → g7 q = g6 q := fun q hq => by rw [hg7, va_up_ne _ _ hq]
  obtain ⟨g8, e8, c8_4, c8_5, o8⟩ := i_X3 (f := g7) (a := (a + 4)) 151 (by decide) (c7)
  obtain ⟨g9, e9, c9, o9⟩ := stF_ex (f := g8) (a := a) (c := 2) (j := 4) (v := .ref (a + 4)) (l := [.int (0 : Int32), .ref (a + 1), .null, .ref (a + 3), .null]) ((o8 a (by omega)).trans <| (o7 a (by omega)).trans <| c6) (by simp)
  have c9 : g9 a = some (.inr (2, [.int (0 : Int32), .ref (a + 1), .null, .ref (a + 3), .ref (a + 4)])) := c9
  obtain ⟨g10, e10, c10, o10⟩ := stF_ex (f := g9) (a := a) (c := 2) (j := 2) (v := .ref v1) (l := [.int (0 : Int32), .ref (a + 1), .null, .ref (a + 3), .ref (a + 4)]) (c9) (by simp)
  have c10 : g10 a = some (.inr (2, [.int (0 : Int32), .ref (a + 1), .ref v1, .ref (a + 3), .ref (a + 4)])) := c10
  have E : f_X2_init a v1 g0 (a + 1) = some (g10, a + 6) := by
    unfold f_X2_init
    refine (bind_eq e1 _).trans ?_
    refine (bind_eq (x := g2) (congrArg some hg2.symm) _).trans ?_
    refine (bind_eq e3 _).trans ?_
    refine (bind_eq e4 _).trans ?_
    refine (bind_eq (x := g5) (congrArg some hg5.symm) _).trans ?_
    refine (bind_eq e6 _).trans ?_
    refine (bind_eq (x := g7) (congrArg some hg7.symm) _).trans ?_
    refine (bind_eq e8 _).trans ?_
    refine (bind_eq e9 _).trans ?_
    refine (bind_eq e10 _).trans ?_
    rfl
  refine ⟨g10, E, ?_, ?_, ?_, ?_, ?_, ?_, fun q hq => ?_⟩
  · exact c10
  · exact (o10 (a + 1) (by omega)).trans <| (o9 (a + 1) (by omega)).trans <| (o8 (a + 1) (by omega)).trans <| (o7 (a + 1) (by omega)).trans <| (o6 (a + 1) (by omega)).trans <| (o5 (a + 1) (by omega)).trans <| (o4 (a + 1) (by omega)).trans <| c3_1
  · exact (o10 (a + 2) (by omega)).trans <| (o9 (a + 2) (by omega)).trans <| (o8 (a + 2) (by omega)).trans <| (o7 (a + 2) (by omega)).trans <| (o6 (a + 2) (by omega)).trans <| (o5 (a + 2) (by omega)).trans <| (o4 (a + 2) (by omega)).trans <| c3_2
  · exact (o10 (a + 3) (by omega)).trans <| (o9 (a + 3) (by omega)).trans <| (o8 (a + 3) (by omega)).trans <| (o7 (a + 3) (by omega)).trans <| (o6 (a + 3) (by omega)).trans <| c5
  · exact (o10 (a + 4) (by omega)).trans <| (o9 (a + 4) (by omega)).trans <| c8_4
  · exact (o10 (a + 5) (by omega)).trans <| (o9 (a + 5) (by omega)).trans <| c8_5
  · exact (o10 q (by omega)).trans <| (o9 q (by omega)).trans <| (o8 q (by omega)).trans <| (o7 q (by omega)).trans <| (o6 q (by omega)).trans <| (o5 q (by omega)).trans <| (o4 q (by omega)).trans <| (o3 q (by omega)).trans <| (o2 q (by omega)).trans <| (o1 q (by omega))
theorem i_X5 {f : mmF} {a : Nat} (h : f a = some (.inr (5, [.null, .null, .null, .null, .null, .null, .null, .null, .null, .null]))) : ∃ f1 : mmF, f_X5_init a f (a + 1) = some (f1, a + 35) ∧ f1 a = some (.inr (5, [.ref (a + 1), .ref (a + 2), .ref (a + 13), .ref (a + 19), .ref (a + 20), .ref (a + 22), .ref (a + 24), .ref (a + 26), .ref (a + 27), .ref (a + 31)])) ∧ f1 (a + 1) = some (.inr (6, [.ref (a + 2), .ref (a + 9), .ref (a + 10), .ref (a + 11), .ref (a + 12)])) ∧ f1 (a + 2) = some (.inr (4, [.int 6, .ref (a + 3), .ref (a + 4), .ref (a + 5), .ref (a + 6), .int 0, .ref (a + 7), .ref (a + 8)])) ∧ f1 (a + 3) = some (.inl (0, 151, .inl (fun j => if j < 6 then nI j else 0))) ∧ f1 (a + 4) = some (.inl (0, 151, .inl (fun _ => 0))) ∧ f1 (a + 5) = some (.inl (0, 151, .inl (fun _ => 0))) ∧ f1 (a + 6) = some (.inl (0, 5, .inl (fun _ => 0))) ∧ f1 (a + 7) = some (.inl (0, 30, .inl (fun _ => 0))) ∧ f1 (a + 8) = some (.inl (0, 151, .inl (fun _ => 0))) ∧ f1 (a + 9) = some (.inl (0, 151, .inl (fun j => if j < 151 then 65535 else 0))) ∧ f1 (a + 10) = some (.inl (0, 151, .inl (fun _ => 0))) ∧ f1 (a + 11) = some (.inl (0, 151, .inl (fun _ => 0))) ∧ f1 (a + 12) = some (.inl (0, 151, .inl (fun _ => 0))) ∧ f1 (a + 13) = some (.inr (2, [.int 0, .ref (a + 14), .ref (a + 2), .ref (a + 16), .ref (a + 17)])) ∧ f1 (a + 14) = some (.inr (3, [.ref (a + 15)])) ∧ f1 (a + 15) = some (.inl (4, 3, .inr (.inl (fun _ => 0)))) ∧ f1 (a + 16) = some (.inl (0, 151, .inl (fun _ => 0))) ∧ f1 (a + 17) = some (.inr (3, [.ref (a + 18)])) ∧ f1 (a + 18) = some (.inl (4, 453, .inr (.inl (fun _ => 0)))) ∧ f1 (a + 19) = some (.inl (0, 153, .inl (fun _ => 0))) ∧ f1 (a + 20) = some (.inr (3, [.ref (a + 21)])) ∧ f1 (a + 21) = some (.inl (4, 459, .inr (.inl (fun _ => 0)))) ∧ f1 (a + 22) = some (.inr (3, [.ref (a + 23)])) ∧ f1 (a + 23) = some (.inl (4, 459, .inr (.inl (fun _ => 0)))) ∧ f1 (a + 24) = some (.inr (3, [.ref (a + 25)])) ∧ f1 (a + 25) = some (.inl (4, 459, .inr (.inl (fun _ => 0)))) ∧ f1 (a + 26) = some (.inl (0, 153, .inl (fun _ => 0))) ∧ f1 (a + 27) = some (.inr (1, [.int 0, .ref (a + 28), .ref (a + 30), .int 0])) ∧ f1 (a + 28) = some (.inr (3, [.ref (a + 29)])) ∧ f1 (a + 29) = some (.inl (4, 384, .inr (.inl (fun _ => 0)))) ∧ f1 (a + 30) = some (.inl (0, 128, .inl (fun _ => 0))) ∧ f1 (a + 31) = some (.inr (1, [.int 0, .ref (a + 32), .ref (a + 34), .int 0])) ∧ f1 (a + 32) = some (.inr (3, [.ref (a + 33)])) ∧ f1 (a + 33) = some (.inl (4, 384, .inr (.inl (fun _ => 0)))) ∧ f1 (a + 34) = some (.inl (0, 128, .inl (fun _ => 0))) ∧ ∀ q : Nat, q < a ∨ a + 35 ≤ q → f1 q = f q := by
  obtain ⟨g0, hg0⟩ : ∃ g : mmF, g = f := ⟨f, rfl⟩
  rw [← hg0] at h ⊢
  obtain ⟨g1, hg1⟩ : ∃ g : mmF, g = va_up g0 (a + 1) (some (.inr (6, [.null, .null, .null, .null, .null]))) := ⟨_, rfl⟩
  have c1 : g1 (a + 1) = some (.inr (6, [.null, .null, .null, .null, .null])) := by rw [hg1, va_up_self]
  have o1 : ∀ q : Nat, q ≠ (a + 1) → g1 q = g0 q := fun q hq => by rw [hg1, va_up_ne _ _ hq]
  obtain ⟨g2, e2, c2_1, c2_2, c2_3, c2_4, c2_5, c2_6, c2_7, c2_8, c2_9, c2_10, c2_11, c2_12, o2⟩ := i_X6 (f := g1) (a := a + 1) (c1)
  obtain ⟨g3, e3, c3, o3⟩ := stF_ex (f := g2) (a := a) (c := 5) (j := 0) (v := .ref (a + 1)) (l := [.null, .null, .null, .null, .null, .null, .null, .null, .null, .null]) ((o2 a (by omega)).trans <| (o1 a (by omega)).trans <| h) (by simp)
  have c3 : g3 a = some (.inr (5, [.ref (a + 1), .null, .null, .null, .null, .null, .null, .null, .null, .null])) := c3
  have r6 : ldR g3 a 5 0 = some (a + 1) := ldR_of (c3) rfl
  have r7 : ldR g3 (a + 1) 6 0 = some (a + 2) := ldR_of ((o3 (a + 1) (by omega)).trans <| c2_1) rfl
  obtain ⟨g4, e4, c4, o4⟩ := stF_ex (f := g3) (a := a) (c := 5) (j := 1) (v := .ref (a + 2)) (l := [.ref (a + 1), .null, .null, .null, .null, .null, .null, .null, .null, .null]) (c3) (by simp)
  have c4 : g4 a = some (.inr (5, [.ref (a + 1), .ref (a + 2), .null, .null, .null, .null, .null, .null, .null, .null])) := c4
  obtain ⟨g5, hg5⟩ : ∃ g : mmF, g = va_up g4 (a + 13) (some (.inr (2, [.int 0, .null, .null, .null, .null]))) := ⟨_, rfl⟩
  have c5 : g5 (a + 13) = some (.inr (2, [.int 0, .null, .null, .null, .null])) := by rw [hg5, va_up_self]
  have o5 : ∀ q : Nat, q ≠ (a + 13) → g5 q = g4 q := fun q hq => by rw [hg5, va_up_ne _ _ hq]
  have r13 : ldR g5 a 5 1 = some (a + 2) := ldR_of ((o5 a (by omega)).trans <| c4) rfl
  obtain ⟨g6, e6, c6_13, c6_14, c6_15, c6_16, c6_17, c6_18, o6⟩ := i_X2 (f := g5) (a := a + 13) (v1 := a + 2) (c5)
  obtain ⟨g7, e7, c7, o7⟩ := stF_ex (f := g6) (a := a) (c := 5) (j := 2) (v := .ref (a + 13)) (l := [.ref (a + 1), .ref (a + 2), .null, .null, .null, .null, .null, .null, .null, .null]) ((o6 a (by omega)).trans <| (o5 a (by omega)).trans <| c4) (by simp)
  have c7 : g7 a = some (.inr (5, [.ref (a + 1), .ref (a + 2), .ref (a + 13), .null, .null, .null, .null, .null, .null, .null])) := c7
  obtain ⟨g8, hg8⟩ : ∃ g : mmF, g = va_up g7 (a + 19) (some (.inl (0, 153, .inl (fun _ => 0)))) := ⟨_, rfl⟩
  have c8 : g8 (a + 19) = some (.inl (0, 153, .inl (fun _ => 0))) := by rw [hg8, va_up_self]
  have o8 : ∀ q : Nat, q ≠ (a + 19) → g8 q = g7 q := fun q hq => by rw [hg8, va_up_ne _ _ hq]
  obtain ⟨g9, e9, c9, o9⟩ := stF_ex (f := g8) (a := a) (c := 5) (j := 3) (v := .ref (a + 19)) (l := [.ref (a + 1), .ref (a + 2), .ref (a + 13), .null, .null, .null, .null, .null, .null, .null]) ((o8 a (by omega)).trans <| c7) (by simp)
  have c9 : g9 a = some (.inr (5, [.ref (a + 1), .ref (a + 2), .ref (a + 13), .ref (a + 19), .null, .null, .null, .null, .null, .null])) := c9
  obtain ⟨g10, hg10⟩ : ∃ g : mmF, g = va_up g9 (a + 20) (some (.inr (3, [.null]))) := ⟨_, rfl⟩
  have c10 : g10 (a + 20) = some (.inr (3, [.null])) := by rw [hg10, va_up_self]
  have o10 : ∀ q : Nat, q ≠ (a + 20) → g10 q = g9 q := fun q hq => by rw [hg10, va_up_ne _ _ hq]
  obtain ⟨g11, e11, c11_20, c11_21, o11⟩ := i_X3 (f := g10) (a := (a + 20)) 153 (by decide) (c10)
  obtain ⟨g12, e12, c12, o12⟩ := stF_ex (f := g11) (a := a) (c := 5) (j := 4) (v := .ref (a + 20)) (l := [.ref (a + 1), .ref (a + 2), .ref (a + 13), .ref (a + 19), .null, .null, .null, .null, .null, .null]) ((o11 a (by omega)).trans <| (o10 a (by omega)).trans <| c9) (by simp)
  have c12 : g12 a = some (.inr (5, [.ref (a + 1), .ref (a + 2), .ref (a + 13), .ref (a + 19), .ref (a + 20), .null, .null, .null, .null, .null])) := c12
  obtain ⟨g13, hg13⟩ : ∃ g : mmF, g = va_up g12 (a + 22) (some (.inr (3, [.null]))) := ⟨_, rfl⟩
  have c13 : g13 (a + 22) = some (.inr (3, [.null])) := by rw [hg13, va_up_self]
  have o13 : ∀ q : Nat, q ≠ (a + 22) → g13 q = g12 q := fun q hq => by rw [hg13, va_up_ne _ _ hq]
  obtain ⟨g14, e14, c14_22, c14_23, o14⟩ := i_X3 (f := g13) (a := (a + 22)) 153 (by decide) (c13)
  obtain ⟨g15, e15, c15, o15⟩ := stF_ex (f := g14) (a := a) (c := 5) (j := 5) (v := .ref (a + 22)) (l := [.ref (a + 1), .ref (a + 2), .ref (a + 13), .ref (a + 19), .ref (a + 20), .null, .null, .null, .null, .null]) ((o14 a (by omega)).trans <| (o13 a (by omega)).trans <| c12) (by simp)
  have c15 : g15 a = some (.inr (5, [.ref (a + 1), .ref (a + 2), .ref (a + 13), .ref (a + 19), .ref (a + 20), .ref (a + 22), .null, .null, .null, .null])) := c15
  obtain ⟨g16, hg16⟩ : ∃ g : mmF, g = va_up g15 (a + 24) (some (.inr (3, [.null]))) := ⟨_, rfl⟩
  have c16 : g16 (a + 24) = some (.inr (3, [.null])) := by rw [hg16, va_up_self]
  have o16 : ∀ q : Nat, q ≠ (a + 24) → g16 q = g15 q := fun q hq => by rw [hg16, va_up_ne _ _ hq]
  obtain ⟨g17, e17, c17_24, c17_25, o17⟩ := i_X3 (f := g16) (a := (a + 24)) 153 (by decide) (c16)
  obtain ⟨g18, e18, c18, o18⟩ := stF_ex (f := g17) (a := a) (c := 5) (j := 6) (v := .ref (a + 24)) (l := [.ref (a + 1), .ref (a + 2), .ref (a + 13), .ref (a + 19), .ref (a + 20), .ref (a + 22), .null, .null, .null, .null]) ((o17 a (by omega)).trans <| (o16 a (by omega)).trans <| c15) (by simp)
  have c18 : g18 a = some (.inr (5, [.ref (a + 1), .ref (a + 2), .ref (a + 13), .ref (a + 19), .ref (a + 20), .ref (a + 22), .ref (a + 24), .null, .null, .null])) := c18
  obtain ⟨g19, hg19⟩ : ∃ g : mmF, g = va_up g18 (a + 26) (some (.inl (0, 153, .inl (fun _ => 0)))) := ⟨_, rfl⟩
  have c19 : g19 (a + 26) = some (.inl (0, 153, .inl (fun _ => 0))) := by rw [hg19, va_up_self]
  have o19 : ∀ q : Nat, q ≠ (a + 26) → g19 q = g18 q := fun q hq => by rw [hg19, va_up_ne _ _ hq]
  obtain ⟨g20, e20, c20, o20⟩ := stF_ex (f := g19) (a := a) (c := 5) (j := 7) (v := .ref (a + 26)) (l := [.ref (a + 1), .ref (a + 2), .ref (a + 13), .ref (a + 19), .ref (a + 20), .ref (a + 22), .ref (a + 24), .null, .null, .null]) ((o19 a (by omega)).trans <| c18) (by simp)
  have c20 : g20 a = some (.inr (5, [.ref (a + 1), .ref (a + 2), .ref (a + 13), .ref (a + 19), .ref (a + 20), .ref (a + 22), .ref (a + 24), .ref (a + 26), .null, .null])) := c20
  obtain ⟨g21, hg21⟩ : ∃ g : mmF, g = va_up g20 (a + 27) (some (.inr (1, [.int 0, .null, .null, .int 0]))) := ⟨_, rfl⟩
  have c21 : g21 (a + 27) = some (.inr (1, [.int 0, .null, .null, .int 0])) := by rw [hg21, va_up_self]
  have o21 : ∀ q : Nat, q ≠ (a + 27) → g21 q = g20 q := fun q hq => by rw [hg21, va_up_ne _ _ hq]
  obtain ⟨g22, e22, c22_27, c22_28, c22_29, c22_30, o22⟩ := i_X1 (f := g21) (a := a + 27) (c21)
  obtain ⟨g23, e23, c23, o23⟩ := stF_ex (f := g22) (a := a) (c := 5) (j := 8) (v := .ref (a + 27)) (l := [.ref (a + 1), .ref (a + 2), .ref (a + 13), .ref (a + 19), .ref (a + 20), .ref (a + 22), .ref (a + 24), .ref (a + 26), .null, .null]) ((o22 a (by omega)).trans <| (o21 a (by omega)).trans <| c20) (by simp)
  have c23 : g23 a = some (.inr (5, [.ref (a + 1), .ref (a + 2), .ref (a + 13), .ref (a + 19), .ref (a + 20), .ref (a + 22), .ref (a + 24), .ref (a + 26), .ref (a + 27), .null])) := c23
  obtain ⟨g24, hg24⟩ : ∃ g : mmF, g = va_up g23 (a + 31) (some (.inr (1, [.int 0, .null, .null, .int 0]))) := ⟨_, rfl⟩
  have c24 : g24 (a + 31) = some (.inr (1, [.int 0, .null, .null, .int 0])) := by rw [hg24, va_up_self]
  have o24 : ∀ q : Nat, q ≠ (a + 31) → g24 q = g23 q := fun q hq => by rw [hg24, va_up_ne _ _ hq]
  obtain ⟨g25, e25, c25_31, c25_32, c25_33, c25_34, o25⟩ := i_X1 (f := g24) (a := a + 31) (c24)
  obtain ⟨g26, e26, c26, o26⟩ := stF_ex (f := g25) (a := a) (c := 5) (j := 9) (v := .ref (a + 31)) (l := [.ref (a + 1), .ref (a + 2), .ref (a + 13), .ref (a + 19), .ref (a + 20), .ref (a + 22), .ref (a + 24), .ref (a + 26), .ref (a + 27), .null]) ((o25 a (by omega)).trans <| (o24 a (by omega)).trans <| c23) (by simp)
  have c26 : g26 a = some (.inr (5, [.ref (a + 1), .ref (a + 2), .ref (a + 13), .ref (a + 19), .ref (a + 20), .ref (a + 22), .ref (a + 24), .ref (a + 26), .ref (a + 27), .ref (a + 31)])) := c26
  have E : f_X5_init a g0 (a + 1) = some (g26, a + 35) := by
    unfold f_X5_init
    refine (bind_eq (x := g1) (congrArg some hg1.symm) _).trans ?_
    refine (bind_eq e2 _).trans ?_
    refine (bind_eq e3 _).trans ?_
    refine (bind_eq r6 _).trans ?_
    refine (bind_eq r7 _).trans ?_
    refine (bind_eq e4 _).trans ?_
    refine (bind_eq (x := g5) (congrArg some hg5.symm) _).trans ?_
    refine (bind_eq r13 _).trans ?_
    refine (bind_eq e6 _).trans ?_
    refine (bind_eq e7 _).trans ?_
    refine (bind_eq (x := g8) (congrArg some hg8.symm) _).trans ?_
    refine (bind_eq e9 _).trans ?_
    refine (bind_eq (x := g10) (congrArg some hg10.symm) _).trans ?_
    refine (bind_eq e11 _).trans ?_
    refine (bind_eq e12 _).trans ?_
    refine (bind_eq (x := g13) (congrArg some hg13.symm) _).trans ?_
    refine (bind_eq e14 _).trans ?_
    refine (bind_eq e15 _).trans ?_
    refine (bind_eq (x := g16) (congrArg some hg16.symm) _).trans ?_
    refine (bind_eq e17 _).trans ?_
    refine (bind_eq e18 _).trans ?_
    refine (bind_eq (x := g19) (congrArg some hg19.symm) _).trans ?_
    refine (bind_eq e20 _).trans ?_
    refine (bind_eq (x := g21) (congrArg some hg21.symm) _).trans ?_
    refine (bind_eq e22 _).trans ?_
    refine (bind_eq e23 _).trans ?_
    refine (bind_eq (x := g24) (congrArg some hg24.symm) _).trans ?_
    refine (bind_eq e25 _).trans ?_
    refine (bind_eq e26 _).trans ?_
    rfl
  refine ⟨g26, E, ?_, ?_, ?_, ?_, ?_, ?_, ?_, ?_, ?_, ?_, ?_, ?_, ?_, ?_, ?_, ?_, ?_, ?_, ?_, ?_, ?_, ?_, ?_, ?_, ?_, ?_, ?_, ?_, ?_, ?_, ?_, ?_, ?_, ?_, ?_, fun q hq => ?_⟩
  · exact c26
  · exact (o26 (a + 1) (by omega)).trans <| (o25 (a + 1) (by omega)).trans <| (o24 (a + 1) (by omega)).trans <| (o23 (a + 1) (by omega)).trans <| (o22 (a + 1) (by omega)).trans <| (o21 (a + 1) (by omega)).trans <| (o20 (a + 1) (by omega)).trans <| (o19 (a + 1) (by omega)).trans <| (o18 (a + 1) (by omega)).trans <| (o17 (a + 1) (by omega)).trans <| (o16 (a + 1) (by omega)).trans <| (o15 (a + 1) (by omega)).trans <| (o14 (a + 1) (by omega)).trans <| (o13 (a + 1) (by omega)).trans <| (o12 (a + 1) (by omega)).trans <| (o11 (a + 1) (by omega)).trans <| (o10 (a + 1) (by omega)).trans <| (o9 (a + 1) (by omega)).trans <| (o8 (a + 1) (by omega)).trans <| (o7 (a + 1) (by omega)).trans <| (o6 (a + 1) (by omega)).trans <| (o5 (a + 1) (by omega)).trans <| (o4 (a + 1) (by omega)).trans <| (o3 (a + 1) (by omega)).trans <| c2_1
  · exact (o26 (a + 2) (by omega)).trans <| (o25 (a + 2) (by omega)).trans <| (o24 (a + 2) (by omega)).trans <| (o23 (a + 2) (by omega)).trans <| (o22 (a + 2) (by omega)).trans <| (o21 (a + 2) (by omega)).trans <| (o20 (a + 2) (by omega)).trans <| (o19 (a + 2) (by omega)).trans <| (o18 (a + 2) (by omega)).trans <| (o17 (a + 2) (by omega)).trans <| (o16 (a + 2) (by omega)).trans <| (o15 (a + 2) (by omega)).trans <| (o14 (a + 2) (by omega)).trans <| (o13 (a + 2) (by omega)).trans <| (o12 (a + 2) (by omega)).trans <| (o11 (a + 2) (by omega)).trans <| (o10 (a + 2) (by omega)).trans <| (o9 (a + 2) (by omega)).trans <| (o8 (a + 2) (by omega)).trans <| (o7 (a + 2) (by omega)).trans <| (o6 (a + 2) (by omega)).trans <| (o5 (a + 2) (by omega)).trans <| (o4 (a + 2) (by omega)).trans <| (o3 (a + 2) (by omega)).trans <| c2_2
  · exact (o26 (a + 3) (by omega)).trans <| (o25 (a + 3) (by omega)).trans <| (o24 (a + 3) (by omega)).trans <| (o23 (a + 3) (by omega)).trans <| (o22 (a + 3) (by omega)).trans <| (o21 (a + 3) (by omega)).trans <| (o20 (a + 3) (by omega)).trans <| (o19 (a + 3) (by omega)).trans <| (o18 (a + 3) (by omega)).trans <| (o17 (a + 3) (by omega)).trans <| (o16 (a + 3) (by omega)).trans <| (o15 (a + 3) (by omega)).trans <| (o14 (a + 3) (by omega)).trans <| (o13 (a + 3) (by omega)).trans <| (o12 (a + 3) (by omega)).trans <| (o11 (a + 3) (by omega)).trans <| (o10 (a + 3) (by omega)).trans <| (o9 (a + 3) (by omega)).trans <| (o8 (a + 3) (by omega)).trans <| (o7 (a + 3) (by omega)).trans <| (o6 (a + 3) (by omega)).trans <| (o5 (a + 3) (by omega)).trans <| (o4 (a + 3) (by omega)).trans <| (o3 (a + 3) (by omega)).trans <| c2_3
  · exact (o26 (a + 4) (by omega)).trans <| (o25 (a + 4) (by omega)).trans <| (o24 (a + 4) (by omega)).trans <| (o23 (a + 4) (by omega)).trans <| (o22 (a + 4) (by omega)).trans <| (o21 (a + 4) (by omega)).trans <| (o20 (a + 4) (by omega)).trans <| (o19 (a + 4) (by omega)).trans <| (o18 (a + 4) (by omega)).trans <| (o17 (a + 4) (by omega)).trans <| (o16 (a + 4) (by omega)).trans <| (o15 (a + 4) (by omega)).trans <| (o14 (a + 4) (by omega)).trans <| (o13 (a + 4) (by omega)).trans <| (o12 (a + 4) (by omega)).trans <| (o11 (a + 4) (by omega)).trans <| (o10 (a + 4) (by omega)).trans <| (o9 (a + 4) (by omega)).trans <| (o8 (a + 4) (by omega)).trans <| (o7 (a + 4) (by omega)).trans <| (o6 (a + 4) (by omega)).trans <| (o5 (a + 4) (by omega)).trans <| (o4 (a + 4) (by omega)).trans <| (o3 (a + 4) (by omega)).trans <| c2_4
  · exact (o26 (a + 5) (by omega)).trans <| (o25 (a + 5) (by omega)).trans <| (o24 (a + 5) (by omega)).trans <| (o23 (a + 5) (by omega)).trans <| (o22 (a + 5) (by omega)).trans <| (o21 (a + 5) (by omega)).trans <| (o20 (a + 5) (by omega)).trans <| (o19 (a + 5) (by omega)).trans <| (o18 (a + 5) (by omega)).trans <| (o17 (a + 5) (by omega)).trans <| (o16 (a + 5) (by omega)).trans <| (o15 (a + 5) (by omega)).trans <| (o14 (a + 5) (by omega)).trans <| (o13 (a + 5) (by omega)).trans <| (o12 (a + 5) (by omega)).trans <| (o11 (a + 5) (by omega)).trans <| (o10 (a + 5) (by omega)).trans <| (o9 (a + 5) (by omega)).trans <| (o8 (a + 5) (by omega)).trans <| (o7 (a + 5) (by omega)).trans <| (o6 (a + 5) (by omega)).trans <| (o5 (a + 5) (by omega)).trans <| (o4 (a + 5) (by omega)).trans <| (o3 (a + 5) (by omega)).trans <| c2_5
  · exact (o26 (a + 6) (by omega)).trans <| (o25 (a + 6) (by omega)).trans <| (o24 (a + 6) (by omega)).trans <| (o23 (a + 6) (by omega)).trans <| (o22 (a + 6) (by omega)).trans <| (o21 (a + 6) (by omega)).trans <| (o20 (a + 6) (by omega)).trans <| (o19 (a + 6) (by omega)).trans <| (o18 (a + 6) (by omega)).trans <| (o17 (a + 6) (by omega)).trans <| (o16 (a + 6) (by omega)).trans <| (o15 (a + 6) (by omega)).trans <| (o14 (a + 6) (by omega)).trans <| (o13 (a + 6) (by omega)).trans <| (o12 (a + 6) (by omega)).trans <| (o11 (a + 6) (by omega)).trans <| (o10 (a + 6) (by omega)).trans <| (o9 (a + 6) (by omega)).trans <| (o8 (a + 6) (by omega)).trans <| (o7 (a + 6) (by omega)).trans <| (o6 (a + 6) (by omega)).trans <| (o5 (a + 6) (by omega)).trans <| (o4 (a + 6) (by omega)).trans <| (o3 (a + 6) (by omega)).trans <| c2_6
  · exact (o26 (a + 7) (by omega)).trans <| (o25 (a + 7) (by omega)).trans <| (o24 (a + 7) (by omega)).trans <| (o23 (a + 7) (by omega)).trans <| (o22 (a + 7) (by omega)).trans <| (o21 (a + 7) (by omega)).trans <| (o20 (a + 7) (by omega)).trans <| (o19 (a + 7) (by omega)).trans <| (o18 (a + 7) (by omega)).trans <| (o17 (a + 7) (by omega)).trans <| (o16 (a + 7) (by omega)).trans <| (o15 (a + 7) (by omega)).trans <| (o14 (a + 7) (by omega)).trans <| (o13 (a + 7) (by omega)).trans <| (o12 (a + 7) (by omega)).trans <| (o11 (a + 7) (by omega)).trans <| (o10 (a + 7) (by omega)).trans <| (o9 (a + 7) (by omega)).trans <| (o8 (a + 7) (by omega)).trans <| (o7 (a + 7) (by omega)).trans <| (o6 (a + 7) (by omega)).trans <| (o5 (a + 7) (by omega)).trans <| (o4 (a + 7) (by omega)).trans <| (o3 (a + 7) (by omega)).trans <| c2_7
  · exact (o26 (a + 8) (by omega)).trans <| (o25 (a + 8) (by omega)).trans <| (o24 (a + 8) (by omega)).trans <| (o23 (a + 8) (by omega)).trans <| (o22 (a + 8) (by omega)).trans <| (o21 (a + 8) (by omega)).trans <| (o20 (a + 8) (by omega)).trans <| (o19 (a + 8) (by omega)).trans <| (o18 (a + 8) (by omega)).trans <| (o17 (a + 8) (by omega)).trans <| (o16 (a + 8) (by omega)).trans <| (o15 (a + 8) (by omega)).trans <| (o14 (a + 8) (by omega)).trans <| (o13 (a + 8) (by omega)).trans <| (o12 (a + 8) (by omega)).trans <| (o11 (a + 8) (by omega)).trans <| (o10 (a + 8) (by omega)).trans <| (o9 (a + 8) (by omega)).trans <| (o8 (a + 8) (by omega)).trans <| (o7 (a + 8) (by omega)).trans <| (o6 (a + 8) (by omega)).trans <| (o5 (a + 8) (by omega)).trans <| (o4 (a + 8) (by omega)).trans <| (o3 (a + 8) (by omega)).trans <| c2_8
  · exact (o26 (a + 9) (by omega)).trans <| (o25 (a + 9) (by omega)).trans <| (o24 (a + 9) (by omega)).trans <| (o23 (a + 9) (by omega)).trans <| (o22 (a + 9) (by omega)).trans <| (o21 (a + 9) (by omega)).trans <| (o20 (a + 9) (by omega)).trans <| (o19 (a + 9) (by omega)).trans <| (o18 (a + 9) (by omega)).trans <| (o17 (a + 9) (by omega)).trans <| (o16 (a + 9) (by omega)).trans <| (o15 (a + 9) (by omega)).trans <| (o14 (a + 9) (by omega)).trans <| (o13 (a + 9) (by omega)).trans <| (o12 (a + 9) (by omega)).trans <| (o11 (a + 9) (by omega)).trans <| (o10 (a + 9) (by omega)).trans <| (o9 (a + 9) (by omega)).trans <| (o8 (a + 9) (by omega)).trans <| (o7 (a + 9) (by omega)).trans <| (o6 (a + 9) (by omega)).trans <| (o5 (a + 9) (by omega)).trans <| (o4 (a + 9) (by omega)).trans <| (o3 (a + 9) (by omega)).trans <| c2_9
  · exact (o26 (a + 10) (by omega)).trans <| (o25 (a + 10) (by omega)).trans <| (o24 (a + 10) (by omega)).trans <| (o23 (a + 10) (by omega)).trans <| (o22 (a + 10) (by omega)).trans <| (o21 (a + 10) (by omega)).trans <| (o20 (a + 10) (by omega)).trans <| (o19 (a + 10) (by omega)).trans <| (o18 (a + 10) (by omega)).trans <| (o17 (a + 10) (by omega)).trans <| (o16 (a + 10) (by omega)).trans <| (o15 (a + 10) (by omega)).trans <| (o14 (a + 10) (by omega)).trans <| (o13 (a + 10) (by omega)).trans <| (o12 (a + 10) (by omega)).trans <| (o11 (a + 10) (by omega)).trans <| (o10 (a + 10) (by omega)).trans <| (o9 (a + 10) (by omega)).trans <| (o8 (a + 10) (by omega)).trans <| (o7 (a + 10) (by omega)).trans <| (o6 (a + 10) (by omega)).trans <| (o5 (a + 10) (by omega)).trans <| (o4 (a + 10) (by omega)).trans <| (o3 (a + 10) (by omega)).trans <| c2_10
  · exact (o26 (a + 11) (by omega)).trans <| (o25 (a + 11) (by omega)).trans <| (o24 (a + 11) (by omega)).trans <| (o23 (a + 11) (by omega)).trans <| (o22 (a + 11) (by omega)).trans <| (o21 (a + 11) (by omega)).trans <| (o20 (a + 11) (by omega)).trans <| (o19 (a + 11) (by omega)).trans <| (o18 (a + 11) (by omega)).trans <| (o17 (a + 11) (by omega)).trans <| (o16 (a + 11) (by omega)).trans <| (o15 (a + 11) (by omega)).trans <| (o14 (a + 11) (by omega)).trans <| (o13 (a + 11) (by omega)).trans <| (o12 (a + 11) (by omega)).trans <| (o11 (a + 11) (by omega)).trans <| (o10 (a + 11) (by omega)).trans <| (o9 (a + 11) (by omega)).trans <| (o8 (a + 11) (by omega)).trans <| (o7 (a + 11) (by omega)).trans <| (o6 (a + 11) (by omega)).trans <| (o5 (a + 11) (by omega)).trans <| (o4 (a + 11) (by omega)).trans <| (o3 (a + 11) (by omega)).trans <| c2_11
  · exact (o26 (a + 12) (by omega)).trans <| (o25 (a + 12) (by omega)).trans <| (o24 (a + 12) (by omega)).trans <| (o23 (a + 12) (by omega)).trans <| (o22 (a + 12) (by omega)).trans <| (o21 (a + 12) (by omega)).trans <| (o20 (a + 12) (by omega)).trans <| (o19 (a + 12) (by omega)).trans <| (o18 (a + 12) (by omega)).trans <| (o17 (a + 12) (by omega)).trans <| (o16 (a + 12) (by omega)).trans <| (o15 (a + 12) (by omega)).trans <| (o14 (a + 12) (by omega)).trans <| (o13 (a + 12) (by omega)).trans <| (o12 (a + 12) (by omega)).trans <| (o11 (a + 12) (by omega)).trans <| (o10 (a + 12) (by omega)).trans <| (o9 (a + 12) (by omega)).trans <| (o8 (a + 12) (by omega)).trans <| (o7 (a + 12) (by omega)).trans <| (o6 (a + 12) (by omega)).trans <| (o5 (a + 12) (by omega)).trans <| (o4 (a + 12) (by omega)).trans <| (o3 (a + 12) (by omega)).trans <| c2_12
  · exact (o26 (a + 13) (by omega)).trans <| (o25 (a + 13) (by omega)).trans <| (o24 (a + 13) (by omega)).trans <| (o23 (a + 13) (by omega)).trans <| (o22 (a + 13) (by omega)).trans <| (o21 (a + 13) (by omega)).trans <| (o20 (a + 13) (by omega)).trans <| (o19 (a + 13) (by omega)).trans <| (o18 (a + 13) (by omega)).trans <| (o17 (a + 13) (by omega)).trans <| (o16 (a + 13) (by omega)).trans <| (o15 (a + 13) (by omega)).trans <| (o14 (a + 13) (by omega)).trans <| (o13 (a + 13) (by omega)).trans <| (o12 (a + 13) (by omega)).trans <| (o11 (a + 13) (by omega)).trans <| (o10 (a + 13) (by omega)).trans <| (o9 (a + 13) (by omega)).trans <| (o8 (a + 13) (by omega)).trans <| (o7 (a + 13) (by omega)).trans <| c6_13
  · exact (o26 (a + 14) (by omega)).trans <| (o25 (a + 14) (by omega)).trans <| (o24 (a + 14) (by omega)).trans <| (o23 (a + 14) (by omega)).trans <| (o22 (a + 14) (by omega)).trans <| (o21 (a + 14) (by omega)).trans <| (o20 (a + 14) (by omega)).trans <| (o19 (a + 14) (by omega)).trans <| (o18 (a + 14) (by omega)).trans <| (o17 (a + 14) (by omega)).trans <| (o16 (a + 14) (by omega)).trans <| (o15 (a + 14) (by omega)).trans <| (o14 (a + 14) (by omega)).trans <| (o13 (a + 14) (by omega)).trans <| (o12 (a + 14) (by omega)).trans <| (o11 (a + 14) (by omega)).trans <| (o10 (a + 14) (by omega)).trans <| (o9 (a + 14) (by omega)).trans <| (o8 (a + 14) (by omega)).trans <| (o7 (a + 14) (by omega)).trans <| c6_14
  · exact (o26 (a + 15) (by omega)).trans <| (o25 (a + 15) (by omega)).trans <| (o24 (a + 15) (by omega)).trans <| (o23 (a + 15) (by omega)).trans <| (o22 (a + 15) (by omega)).trans <| (o21 (a + 15) (by omega)).trans <| (o20 (a + 15) (by omega)).trans <| (o19 (a + 15) (by omega)).trans <| (o18 (a + 15) (by omega)).trans <| (o17 (a + 15) (by omega)).trans <| (o16 (a + 15) (by omega)).trans <| (o15 (a + 15) (by omega)).trans <| (o14 (a + 15) (by omega)).trans <| (o13 (a + 15) (by omega)).trans <| (o12 (a + 15) (by omega)).trans <| (o11 (a + 15) (by omega)).trans <| (o10 (a + 15) (by omega)).trans <| (o9 (a + 15) (by omega)).trans <| (o8 (a + 15) (by omega)).trans <| (o7 (a + 15) (by omega)).trans <| c6_15
  · exact (o26 (a + 16) (by omega)).trans <| (o25 (a + 16) (by omega)).trans <| (o24 (a + 16) (by omega)).trans <| (o23 (a + 16) (by omega)).trans <| (o22 (a + 16) (by omega)).trans <| (o21 (a + 16) (by omega)).trans <| (o20 (a + 16) (by omega)).trans <| (o19 (a + 16) (by omega)).trans <| (o18 (a + 16) (by omega)).trans <| (o17 (a + 16) (by omega)).trans <| (o16 (a + 16) (by omega)).trans <| (o15 (a + 16) (by omega)).trans <| (o14 (a + 16) (by omega)).trans <| (o13 (a + 16) (by omega)).trans <| (o12 (a + 16) (by omega)).trans <| (o11 (a + 16) (by omega)).trans <| (o10 (a + 16) (by omega)).trans <| (o9 (a + 16) (by omega)).trans <| (o8 (a + 16) (by omega)).trans <| (o7 (a + 16) (by omega)).trans <| c6_16
  · exact (o26 (a + 17) (by omega)).trans <| (o25 (a + 17) (by omega)).trans <| (o24 (a + 17) (by omega)).trans <| (o23 (a + 17) (by omega)).trans <| (o22 (a + 17) (by omega)).trans <| (o21 (a + 17) (by omega)).trans <| (o20 (a + 17) (by omega)).trans <| (o19 (a + 17) (by omega)).trans <| (o18 (a + 17) (by omega)).trans <| (o17 (a + 17) (by omega)).trans <| (o16 (a + 17) (by omega)).trans <| (o15 (a + 17) (by omega)).trans <| (o14 (a + 17) (by omega)).trans <| (o13 (a + 17) (by omega)).trans <| (o12 (a + 17) (by omega)).trans <| (o11 (a + 17) (by omega)).trans <| (o10 (a + 17) (by omega)).trans <| (o9 (a + 17) (by omega)).trans <| (o8 (a + 17) (by omega)).trans <| (o7 (a + 17) (by omega)).trans <| c6_17
  · exact (o26 (a + 18) (by omega)).trans <| (o25 (a + 18) (by omega)).trans <| (o24 (a + 18) (by omega)).trans <| (o23 (a + 18) (by omega)).trans <| (o22 (a + 18) (by omega)).trans <| (o21 (a + 18) (by omega)).trans <| (o20 (a + 18) (by omega)).trans <| (o19 (a + 18) (by omega)).trans <| (o18 (a + 18) (by omega)).trans <| (o17 (a + 18) (by omega)).trans <| (o16 (a + 18) (by omega)).trans <| (o15 (a + 18) (by omega)).trans <| (o14 (a + 18) (by omega)).trans <| (o13 (a + 18) (by omega)).trans <| (o12 (a + 18) (by omega)).trans <| (o11 (a + 18) (by omega)).trans <| (o10 (a + 18) (by omega)).trans <| (o9 (a + 18) (by omega)).trans <| (o8 (a + 18) (by omega)).trans <| (o7 (a + 18) (by omega)).trans <| c6_18
  · exact (o26 (a + 19) (by omega)).trans <| (o25 (a + 19) (by omega)).trans <| (o24 (a + 19) (by omega)).trans <| (o23 (a + 19) (by omega)).trans <| (o22 (a + 19) (by omega)).trans <| (o21 (a + 19) (by omega)).trans <| (o20 (a + 19) (by omega)).trans <| (o19 (a + 19) (by omega)).trans <| (o18 (a + 19) (by omega)).trans <| (o17 (a + 19) (by omega)).trans <| (o16 (a + 19) (by omega)).trans <| (o15 (a + 19) (by omega)).trans <| (o14 (a + 19) (by omega)).trans <| (o13 (a + 19) (by omega)).trans <| (o12 (a + 19) (by omega)).trans <| (o11 (a + 19) (by omega)).trans <| (o10 (a + 19) (by omega)).trans <| (o9 (a + 19) (by omega)).trans <| c8
  · exact (o26 (a + 20) (by omega)).trans <| (o25 (a + 20) (by omega)).trans <| (o24 (a + 20) (by omega)).trans <| (o23 (a + 20) (by omega)).trans <| (o22 (a + 20) (by omega)).trans <| (o21 (a + 20) (by omega)).trans <| (o20 (a + 20) (by omega)).trans <| (o19 (a + 20) (by omega)).trans <| (o18 (a + 20) (by omega)).trans <| (o17 (a + 20) (by omega)).trans <| (o16 (a + 20) (by omega)).trans <| (o15 (a + 20) (by omega)).trans <| (o14 (a + 20) (by omega)).trans <| (o13 (a + 20) (by omega)).trans <| (o12 (a + 20) (by omega)).trans <| c11_20
  · exact (o26 (a + 21) (by omega)).trans <| (o25 (a + 21) (by omega)).trans <| (o24 (a + 21) (by omega)).trans <| (o23 (a + 21) (by omega)).trans <| (o22 (a + 21) (by omega)).trans <| (o21 (a + 21) (by omega)).trans <| (o20 (a + 21) (by omega)).trans <| (o19 (a + 21) (by omega)).trans <| (o18 (a + 21) (by omega)).trans <| (o17 (a + 21) (by omega)).trans <| (o16 (a + 21) (by omega)).trans <| (o15 (a + 21) (by omega)).trans <| (o14 (a + 21) (by omega)).trans <| (o13 (a + 21) (by omega)).trans <| (o12 (a + 21) (by omega)).trans <| c11_21
  · exact (o26 (a + 22) (by omega)).trans <| (o25 (a + 22) (by omega)).trans <| (o24 (a + 22) (by omega)).trans <| (o23 (a + 22) (by omega)).trans <| (o22 (a + 22) (by omega)).trans <| (o21 (a + 22) (by omega)).trans <| (o20 (a + 22) (by omega)).trans <| (o19 (a + 22) (by omega)).trans <| (o18 (a + 22) (by omega)).trans <| (o17 (a + 22) (by omega)).trans <| (o16 (a + 22) (by omega)).trans <| (o15 (a + 22) (by omega)).trans <| c14_22
  · exact (o26 (a + 23) (by omega)).trans <| (o25 (a + 23) (by omega)).trans <| (o24 (a + 23) (by omega)).trans <| (o23 (a + 23) (by omega)).trans <| (o22 (a + 23) (by omega)).trans <| (o21 (a + 23) (by omega)).trans <| (o20 (a + 23) (by omega)).trans <| (o19 (a + 23) (by omega)).trans <| (o18 (a + 23) (by omega)).trans <| (o17 (a + 23) (by omega)).trans <| (o16 (a + 23) (by omega)).trans <| (o15 (a + 23) (by omega)).trans <| c14_23
  · exact (o26 (a + 24) (by omega)).trans <| (o25 (a + 24) (by omega)).trans <| (o24 (a + 24) (by omega)).trans <| (o23 (a + 24) (by omega)).trans <| (o22 (a + 24) (by omega)).trans <| (o21 (a + 24) (by omega)).trans <| (o20 (a + 24) (by omega)).trans <| (o19 (a + 24) (by omega)).trans <| (o18 (a + 24) (by omega)).trans <| c17_24
  · exact (o26 (a + 25) (by omega)).trans <| (o25 (a + 25) (by omega)).trans <| (o24 (a + 25) (by omega)).trans <| (o23 (a + 25) (by omega)).trans <| (o22 (a + 25) (by omega)).trans <| (o21 (a + 25) (by omega)).trans <| (o20 (a + 25) (by omega)).trans <| (o19 (a + 25) (by omega)).trans <| (o18 (a + 25) (by omega)).trans <| c17_25
  · exact (o26 (a + 26) (by omega)).trans <| (o25 (a + 26) (by omega)).trans <| (o24 (a + 26) (by omega)).trans <| (o23 (a + 26) (by omega)).trans <| (o22 (a + 26) (by omega)).trans <| (o21 (a + 26) (by omega)).trans <| (o20 (a + 26) (by omega)).trans <| c19
  · exact (o26 (a + 27) (by omega)).trans <| (o25 (a + 27) (by omega)).trans <| (o24 (a + 27) (by omega)).trans <| (o23 (a + 27) (by omega)).trans <| c22_27
  · exact (o26 (a + 28) (by omega)).trans <| (o25 (a + 28) (by omega)).trans <| (o24 (a + 28) (by omega)).trans <| (o23 (a + 28) (by omega)).trans <| c22_28
  · exact (o26 (a + 29) (by omega)).trans <| (o25 (a + 29) (by omega)).trans <| (o24 (a + 29) (by omega)).trans <| (o23 (a + 29) (by omega)).trans <| c22_29
  · exact (o26 (a + 30) (by omega)).trans <| (o25 (a + 30) (by omega)).trans <| (o24 (a + 30) (by omega)).trans <| (o23 (a + 30) (by omega)).trans <| c22_30
  · exact (o26 (a + 31) (by omega)).trans <| c25_31
  · exact (o26 (a + 32) (by omega)).trans <| c25_32
  · exact (o26 (a + 33) (by omega)).trans <| c25_33
  · exact (o26 (a + 34) (by omega)).trans <| c25_34
  · exact (o26 q (by omega)).trans <| (o25 q (by omega)).trans <| (o24 q (by omega)).trans <| (o23 q (by omega)).trans <| (o22 q (by omega)).trans <| (o21 q (by omega)).trans <| (o20 q (by omega)).trans <| (o19 q (by omega)).trans <| (o18 q (by omega)).trans <| (o17 q (by omega)).trans <| (o16 q (by omega)).trans <| (o15 q (by omega)).trans <| (o14 q (by omega)).trans <| (o13 q (by omega)).trans <| (o12 q (by omega)).trans <| (o11 q (by omega)).trans <| (o10 q (by omega)).trans <| (o9 q (by omega)).trans <| (o8 q (by omega)).trans <| (o7 q (by omega)).trans <| (o6 q (by omega)).trans <| (o5 q (by omega)).trans <| (o4 q (by omega)).trans <| (o3 q (by omega)).trans <| (o2 q (by omega)).trans <| (o1 q (by omega))
def zSt (s : Nat) (i : Nat) : Option va_E := match i with
  | 0 => some (.inr (7, [.int 1, .ref (s + 1), .ref (s + 2), .ref (s + 3), .ref (s + 4), .ref (s + 5), .ref (s + 6)]))
  | 1 => zI 0 8 (upd (fun _ => 0) 0 1)
  | 3 => zQ 3 5 (fun _ => none)
  | 6 => zI 0 151 (fun _ => 0)
  | _ => zI 0 8 (fun _ => 0)
theorem i_X7z {f : mmF} {a : Nat} (h : f a = some (.inr (7, [.int 0, .null, .null, .null, .null, .null, .null]))) : ∃ f1 : mmF, f_X7_init a f (a + 1) = some (f1, a + 7) ∧ (∀ i, i < 7 → f1 (a + i) = zSt a i) ∧ ∀ q : Nat, q < a ∨ a + 7 ≤ q → f1 q = f q := by
  obtain ⟨f1, e0, e1, e2, e3, e4, e5, e6, e7, e8⟩ := i_X7 h
  refine ⟨f1, e0, fun i hi => ?_, e8⟩
  obtain rfl | rfl | rfl | rfl | rfl | rfl | rfl : i = 0 ∨ i = 1 ∨ i = 2 ∨ i = 3 ∨ i = 4 ∨ i = 5 ∨ i = 6 := by omega
  · exact e1
  · exact e2
  · exact e3
  · exact e4
  · exact e5
  · exact e6
  · exact e7
theorem i_X9_90 {b : Nat} {l : List Value} (hl : l[1]? = some (.ref (b + 8))) : ∀ (m i : Nat) (n : Nat) (f : mmF) (g : Nat → Option Nat), i + m = 4 → m < n → f b = some (.inr (9, l)) → f (b + 8) = zQ 2 4 g → (∀ j, g j = if j < i then some (b + (55 + 7 * j)) else none) → (∀ j k, j < i → k < 7 → f (b + (55 + 7 * j) + k) = zSt (b + (55 + 7 * j)) k) → ∃ f1 : mmF, f_X9_init_90 n b (nI i) f (b + (55 + 7 * i)) (54 + 7 * i) (5703 + 195 * i) = some (f1, b + 83) ∧ f1 (b + 8) = zQ 2 4 (fun j => if j < 4 then some (b + (55 + 7 * j)) else none) ∧ (∀ j k, j < 4 → k < 7 → f1 (b + (55 + 7 * j) + k) = zSt (b + (55 + 7 * j)) k) ∧ ∀ q : Nat, q ≠ b + 8 → (q < b + 55 ∨ b + 83 ≤ q) → f1 q = f q := by
  intro m
  induction m with
  | zero =>
    intro i n f g hi hn h0 h1 hg hs
    obtain ⟨n, rfl⟩ : ∃ k, n = k + 1 := ⟨n - 1, by omega⟩
    have hi6 : i = 4 := by omega
    subst hi6
    rw [f_X9_init_90, if_pos (show (4 : Int32) ≤ nI 4 by decide), if_neg (not_not_intro ⟨by omega, by omega⟩)]
    refine ⟨f, rfl, ?_, hs, fun _ _ _ => rfl⟩
    rw [h1]
    have : g = fun j => if j < 4 then some (b + (55 + 7 * j)) else none := funext hg
    rw [this]
  | succ m ih =>
    intro i n f g hi hn h0 h1 hg hs
    obtain ⟨n, rfl⟩ : ∃ k, n = k + 1 := ⟨n - 1, by omega⟩
    have hlt : ¬ (4 : Int32) ≤ nI i := nI_ge (a := i) (b := 4) (by omega) (by decide)
    rw [f_X9_init_90, if_neg hlt, ldR_of h0 hl]
    simp only [Option.bind_some]
    rw [if_neg (not_not_intro ⟨by omega, by omega⟩), if_neg (not_not_intro ⟨by omega, by omega⟩)]
    obtain ⟨h, x0, x1, x2⟩ := i_X7z (f := va_up f (b + (55 + 7 * i)) (some (.inr (7, [.int 0, .null, .null, .null, .null, .null, .null])))) (a := b + (55 + 7 * i)) (va_up_self _ _ _)
    rw [x0]
    simp only [Option.bind_some]
    rw [stQ_of (a := b + 8) (n := 4) (i := i) (g := g) (v := b + (55 + 7 * i)) (by rw [x2 _ (by omega), va_up_ne _ _ (by omega)]; exact h1) (by omega) (by decide) (show h (b + (55 + 7 * i)) = some (.inr (7, _)) from x1 0 (by omega))]
    simp only [Option.bind_some]
    rw [nI_1]
    obtain ⟨f1, e1, e2, e3, e4⟩ := ih (i + 1) n (va_up h (b + 8) (zQ 2 4 (va_up g i (some (b + (55 + 7 * i)))))) (va_up g i (some (b + (55 + 7 * i)))) (by omega) (by omega) (by rw [va_up_ne _ _ (by omega), x2 _ (by omega), va_up_ne _ _ (by omega)]; exact h0) (va_up_self _ _ _) (fun j => by
      by_cases hj : j = i
      · subst hj; rw [va_up_self, if_pos (by omega)]
      · rw [va_up_ne _ _ hj, hg]
        by_cases hj2 : j < i
        · rw [if_pos hj2, if_pos (by omega)]
        · rw [if_neg hj2, if_neg (by omega)]) (fun j k hj hk => by
      rw [va_up_ne _ _ (by omega)]
      by_cases hj2 : j = i
      · subst hj2; exact x1 k hk
      · rw [x2 _ (by omega), va_up_ne _ _ (by omega), hs j k (by omega) hk])
    refine ⟨f1, ?_, e2, e3, fun q hq hr => by rw [e4 q hq hr, va_up_ne _ _ hq, x2 _ (by omega), va_up_ne _ _ (by omega)]⟩
    rw [show b + (55 + 7 * i) + 7 = b + (55 + 7 * (i + 1)) by omega, show 54 + 7 * i + 1 + 6 = 54 + 7 * (i + 1) by omega, show 5703 + 195 * i + 7 + 188 = 5703 + 195 * (i + 1) by omega]
    exact e1
/-- the new object's contents -/
def ia0 (b : Nat) : Nat → Nat → Int32 := fun a j =>
  if a = b + 2 ∨ a = b + 10 ∨ (b + 55 ≤ a ∧ a < b + 83 ∧ (a - b - 55) % 7 = 1) then (if j = 0 then 1 else 0)
  else if a = b + 23 then (if j < 6 then nI j else 0)
  else if a = b + 29 then (if j < 151 then 65535 else 0)
  else if a = b + 84 then (if j = 0 ∨ j = 16 then 1 else 0) else 0
def fi0 (b : Nat) : Nat → Nat → Int32 := fun a j =>
  if (a = b + 1 ∨ a = b + 9 ∨ (b + 55 ≤ a ∧ a < b + 83 ∧ (a - b - 55) % 7 = 0)) ∧ j = 0 then 1 else if a = b + 22 ∧ j = 0 then 6 else 0
def fl0 : Nat → Nat → Int64 := fun _ _ => 0
def qa0 (b : Nat) : Nat → Nat → Option Nat := fun a j =>
  if a = b + 8 then (if j < 4 then some (b + (55 + 7 * j)) else none) else none
theorem fin_i {b a t n : Nat} {g : Nat → Int32} (ht : ¬ (2 ≤ t ∧ t ≤ 4)) (h : ia0 b a = g) : (some (Sum.inl (t, n, Sum.inl g)) : Option va_E) = some (mCell (ia0 b) (fi0 b) fl0 (qa0 b) a (.inl (t, n))) := by
  subst h
  simp only [mCell, if_neg (show ¬ (2 ≤ t ∧ t ≤ 3) by omega), if_neg (show ¬ t = 4 by omega)]
theorem fin_q {b a t n : Nat} {g : Nat → Option Nat} (ht : 2 ≤ t ∧ t ≤ 3) (h : qa0 b a = g) : (some (Sum.inl (t, n, Sum.inr (Sum.inr (Sum.inr (Sum.inr g))))) : Option va_E) = some (mCell (ia0 b) (fi0 b) fl0 (qa0 b) a (.inl (t, n))) := by
  subst h
  simp only [mCell, if_pos ht]
theorem lg2_0 : lg2 0 0 = 0 := by decide
theorem fin_l {b a n : Nat} (h : ia0 b a = fun _ => 0) : (some (Sum.inl (4, n, Sum.inr (Sum.inl (fun _ => 0)))) : Option va_E) = some (mCell (ia0 b) (fi0 b) fl0 (qa0 b) a (.inl (4, n))) := by
  simp only [mCell, h, lg2_0]
  rfl
theorem ia0_z {b k : Nat} (h : k ≠ 2 ∧ k ≠ 10 ∧ k ≠ 23 ∧ k ≠ 29 ∧ k ≠ 84 ∧ (k < 55 ∨ 83 ≤ k)) : ia0 b (b + k) = fun _ => 0 := by
  funext j
  unfold ia0
  rw [if_neg (show ¬ (b + k = b + 2 ∨ b + k = b + 10 ∨ (b + 55 ≤ b + k ∧ b + k < b + 83 ∧ (b + k - b - 55) % 7 = 1)) by omega)]
  rw [if_neg (show ¬ (b + k = b + 23) by omega)]
  rw [if_neg (show ¬ (b + k = b + 29) by omega)]
  rw [if_neg (show ¬ (b + k = b + 84) by omega)]
theorem ia0_l {b k : Nat} (h : k = 2 ∨ k = 10) : ia0 b (b + k) = upd (fun _ => 0) 0 1 := by
  funext j
  unfold ia0
  rw [if_pos (show b + k = b + 2 ∨ b + k = b + 10 ∨ (b + 55 ≤ b + k ∧ b + k < b + 83 ∧ (b + k - b - 55) % 7 = 1) by omega)]
  rfl
theorem ia0_23 {b : Nat} : ia0 b (b + 23) = fun j => if j < 6 then nI j else 0 := by
  funext j
  unfold ia0
  rw [if_neg (show ¬ (b + 23 = b + 2 ∨ b + 23 = b + 10 ∨ (b + 55 ≤ b + 23 ∧ b + 23 < b + 83 ∧ (b + 23 - b - 55) % 7 = 1)) by omega)]
  rw [if_pos (show b + 23 = b + 23 by omega)]
theorem ia0_29 {b : Nat} : ia0 b (b + 29) = fun j => if j < 151 then 65535 else 0 := by
  funext j
  unfold ia0
  rw [if_neg (show ¬ (b + 29 = b + 2 ∨ b + 29 = b + 10 ∨ (b + 55 ≤ b + 29 ∧ b + 29 < b + 83 ∧ (b + 29 - b - 55) % 7 = 1)) by omega)]
  rw [if_neg (show ¬ (b + 29 = b + 23) by omega)]
  rw [if_pos (show b + 29 = b + 29 by omega)]
theorem ia0_84 {b : Nat} : ia0 b (b + 84) = fun j => if j = 0 ∨ j = 16 then 1 else 0 := by
  funext j
  unfold ia0
  rw [if_neg (show ¬ (b + 84 = b + 2 ∨ b + 84 = b + 10 ∨ (b + 55 ≤ b + 84 ∧ b + 84 < b + 83 ∧ (b + 84 - b - 55) % 7 = 1)) by omega)]
  rw [if_neg (show ¬ (b + 84 = b + 23) by omega)]
  rw [if_neg (show ¬ (b + 84 = b + 29) by omega)]
  rw [if_pos (show b + 84 = b + 84 by omega)]
theorem qa0_8 {b : Nat} : qa0 b (b + 8) = fun j => if j < 4 then some (b + (55 + 7 * j)) else none := by
  funext j
  unfold qa0
  rw [if_pos (show b + 8 = b + 8 by omega)]
theorem qa0_z {b k : Nat} (h : k ≠ 8) : qa0 b (b + k) = fun _ => none := by
  funext j
  unfold qa0
  rw [if_neg (show ¬ (b + k = b + 8) by omega)]
theorem fi0_z {b k j : Nat} (h : (k ≠ 1 ∧ k ≠ 9 ∧ k ≠ 22 ∧ (k < 55 ∨ 83 ≤ k)) ∨ j ≠ 0) : fi0 b (b + k) j = 0 := by
  unfold fi0
  rw [if_neg (show ¬ ((b + k = b + 1 ∨ b + k = b + 9 ∨ (b + 55 ≤ b + k ∧ b + k < b + 83 ∧ (b + k - b - 55) % 7 = 0)) ∧ j = 0) by omega)]
  rw [if_neg (show ¬ (b + k = b + 22 ∧ j = 0) by omega)]
theorem fi0_1 {b k : Nat} (h : k = 1 ∨ k = 9) : fi0 b (b + k) 0 = 1 := by
  unfold fi0
  rw [if_pos (show (b + k = b + 1 ∨ b + k = b + 9 ∨ (b + 55 ≤ b + k ∧ b + k < b + 83 ∧ (b + k - b - 55) % 7 = 0)) ∧ 0 = 0 by omega)]
theorem fi0_22 {b : Nat} : fi0 b (b + 22) 0 = 6 := by
  unfold fi0
  rw [if_neg (show ¬ ((b + 22 = b + 1 ∨ b + 22 = b + 9 ∨ (b + 55 ≤ b + 22 ∧ b + 22 < b + 83 ∧ (b + 22 - b - 55) % 7 = 0)) ∧ 0 = 0) by omega)]
  rw [if_pos (show b + 22 = b + 22 ∧ 0 = 0 by omega)]
theorem i_X9 {f : mmF} {b : Nat} (h : f b = some (.inr (9, [.null, .null, .int 0, .null, .int 0, .null, .null, .null, .null]))) : ∃ f1 : mmF, f_X9_init b f (b + 1) = some (f1, b + 83) ∧ (∀ k c, k < 83 → tb b k = some c → f1 (b + k) = some (mCell (ia0 b) (fi0 b) fl0 (qa0 b) (b + k) c)) ∧ ∀ q : Nat, q < b ∨ b + 83 ≤ q → f1 q = f q := by
  have e : ∀ (g : mmF) (x : Nat) (v : Option va_E), x ≠ b → va_up g x v b = g b := fun g x v hx => va_up_ne _ _ (Ne.symm hx)
  unfold f_X9_init
  rw [if_neg (by decide)]
  simp only [Option.bind_some]
  rw [if_neg (by decide)]
  obtain ⟨g1, a0, a1, a2⟩ := i_X7z (f := va_up f (b + 1) (some (.inr (7, [.int 0, .null, .null, .null, .null, .null, .null])))) (a := b + 1) (va_up_self _ _ _)
  rw [a0]
  simp only [Option.bind_some]
  rw [stF_of (l := [.null, .null, .int 0, .null, .int 0, .null, .null, .null, .null]) (by rw [a2 _ (by omega), e _ _ _ (by omega), h]) (by decide)]
  simp only [Option.bind_some, List.set_cons_zero, List.set_cons_succ]
  rw [if_neg (by decide), stF_of (l := [.ref (b + 1), .null, .int 0, .null, .int 0, .null, .null, .null, .null]) (by rw [e _ _ _ (by omega), va_up_self]) (by simp)]
  simp only [Option.bind_some, List.set_cons_zero, List.set_cons_succ]
  rw [stF_of (l := [.ref (b + 1), .ref (b + 1 + 7), .int 0, .null, .int 0, .null, .null, .null, .null]) (va_up_self _ _ _) (by simp)]
  simp only [Option.bind_some, List.set_cons_zero, List.set_cons_succ]
  rw [if_neg (by decide), if_neg (by decide)]
  obtain ⟨h1, hh1⟩ : ∃ h1 : mmF, h1 = va_up (va_up (va_up (va_up g1 b (some (Sum.inr (9, [Value.ref (b + 1), Value.null, Value.int 0, Value.null, Value.int 0, Value.null, Value.null, Value.null, Value.null])))) (b + 1 + 7) (some (Sum.inl (2, 4, Sum.inr (Sum.inr (Sum.inr (Sum.inr fun _ => none))))))) b (some (Sum.inr (9, [Value.ref (b + 1), Value.ref (b + 1 + 7), Value.int 0, Value.null, Value.int 0, Value.null, Value.null, Value.null, Value.null])))) b (some (Sum.inr (9, [Value.ref (b + 1), Value.ref (b + 1 + 7), Value.int 0, Value.null, Value.int 0, Value.null, Value.null, Value.null, Value.null]))) := ⟨_, rfl⟩
  rw [← hh1]
  have h1b : h1 b = some (.inr (9, [.ref (b + 1), .ref (b + 1 + 7), .int 0, .null, .int 0, .null, .null, .null, .null])) := by rw [hh1, va_up_self]
  have h18 : h1 (b + 8) = zQ 2 4 (fun _ => none) := by rw [hh1, va_up_ne _ _ (by omega), va_up_ne _ _ (by omega)]; exact va_up_self _ _ _
  have h1o : ∀ q : Nat, q ≠ b → q ≠ b + 8 → h1 q = g1 q := fun q n1 n2 => by rw [hh1, va_up_ne _ _ n1, va_up_ne _ _ n1, va_up_ne _ _ n2, va_up_ne _ _ n1]
  obtain ⟨g2, b0, b1, b2⟩ := i_X7z (f := va_up h1 (b + 9) (some (.inr (7, [.int 0, .null, .null, .null, .null, .null, .null])))) (a := b + 9) (va_up_self _ _ _)
  have b0' : f_X7_init (b + 1 + 7 + 1) (va_up h1 (b + 1 + 7 + 1) (some (Sum.inr (7, [Value.int 0, Value.null, Value.null, Value.null, Value.null, Value.null, Value.null])))) (b + 1 + 7 + 1 + 1) = some (g2, b + 16) := b0
  rw [b0']
  simp only [Option.bind_some]
  rw [stF_of (l := [.ref (b + 1), .ref (b + 1 + 7), .int 0, .null, .int 0, .null, .null, .null, .null]) (by rw [b2 _ (by omega), e _ _ _ (by omega), h1b]) (by simp)]
  simp only [Option.bind_some, List.set_cons_zero, List.set_cons_succ]
  rw [stF_of (l := [.ref (b + 1), .ref (b + 1 + 7), .int 0, .ref (b + 1 + 7 + 1), .int 0, .null, .null, .null, .null]) (va_up_self _ _ _) (by simp)]
  simp only [Option.bind_some, List.set_cons_zero, List.set_cons_succ]
  rw [if_neg (by decide), if_neg (by decide)]
  obtain ⟨h2, hh2⟩ : ∃ h2 : mmF, h2 = va_up (va_up g2 b (some (Sum.inr (9, [Value.ref (b + 1), Value.ref (b + 1 + 7), Value.int 0, Value.ref (b + 1 + 7 + 1), Value.int 0, Value.null, Value.null, Value.null, Value.null])))) b (some (Sum.inr (9, [Value.ref (b + 1), Value.ref (b + 1 + 7), Value.int 0, Value.ref (b + 1 + 7 + 1), Value.int 0, Value.null, Value.null, Value.null, Value.null]))) := ⟨_, rfl⟩
  rw [← hh2]
  have h2b : h2 b = some (.inr (9, [.ref (b + 1), .ref (b + 1 + 7), .int 0, .ref (b + 1 + 7 + 1), .int 0, .null, .null, .null, .null])) := by rw [hh2, va_up_self]
  have h2o : ∀ q : Nat, q ≠ b → h2 q = g2 q := fun q n1 => by rw [hh2, va_up_ne _ _ n1, va_up_ne _ _ n1]
  obtain ⟨g3, c0, c1, c2, c3, c4, c5⟩ := i_X8 (f := va_up h2 (b + 16) (some (.inr (8, [.int 0, .null, .null, .int 0, .null, .int 0, .int 0])))) (a := b + 16) (va_up_self _ _ _)
  rw [c0]
  simp only [Option.bind_some]
  rw [stF_of (l := [.ref (b + 1), .ref (b + 1 + 7), .int 0, .ref (b + 1 + 7 + 1), .int 0, .null, .null, .null, .null]) (by rw [c5 _ (by omega), e _ _ _ (by omega), h2b]) (by simp)]
  simp only [Option.bind_some, List.set_cons_zero, List.set_cons_succ]
  rw [if_neg (by decide), if_neg (by decide)]
  obtain ⟨h3, hh3⟩ : ∃ h3 : mmF, h3 = va_up g3 b (some (Sum.inr (9, [Value.ref (b + 1), Value.ref (b + 1 + 7), Value.int 0, Value.ref (b + 1 + 7 + 1), Value.int 0, Value.ref (b + 16), Value.null, Value.null, Value.null]))) := ⟨_, rfl⟩
  rw [← hh3]
  have h3b : h3 b = some (.inr (9, [.ref (b + 1), .ref (b + 1 + 7), .int 0, .ref (b + 1 + 7 + 1), .int 0, .ref (b + 16), .null, .null, .null])) := by rw [hh3, va_up_self]
  have h3o : ∀ q : Nat, q ≠ b → h3 q = g3 q := fun q n1 => by rw [hh3, va_up_ne _ _ n1]
  obtain ⟨g4, d0, d⟩ := i_X5 (f := va_up h3 (b + 20) (some (.inr (5, [.null, .null, .null, .null, .null, .null, .null, .null, .null, .null])))) (a := b + 20) (va_up_self _ _ _)
  have d0' : f_X5_init (b + 16 + 4) (va_up h3 (b + 16 + 4) (some (Sum.inr (5, [Value.null, Value.null, Value.null, Value.null, Value.null, Value.null, Value.null, Value.null, Value.null, Value.null])))) (b + 16 + 4 + 1) = some (g4, b + 55) := d0
  rw [d0']
  obtain ⟨d1, d2, d3, d4, d5, d6, d7, d8, d9, d10, d11, d12, d13, d14, d15, d16, d17, d18, d19, d20, d21, d22, d23, d24, d25, d26, d27, d28, d29, d30, d31, d32, d33, d34, d35, dO⟩ := d
  simp only [Option.bind_some]
  rw [stF_of (l := [.ref (b + 1), .ref (b + 1 + 7), .int 0, .ref (b + 1 + 7 + 1), .int 0, .ref (b + 16), .null, .null, .null]) (by rw [dO _ (by omega), e _ _ _ (by omega), h3b]) (by simp)]
  simp only [Option.bind_some, List.set_cons_zero, List.set_cons_succ]
  rw [ldR_of (v := b + 16 + 4) (va_up_self _ _ _) rfl]
  simp only [Option.bind_some]
  rw [ldR_of (v := b + 20 + 1) (by rw [va_up_ne _ _ (by omega)]; exact d1) rfl]
  simp only [Option.bind_some]
  rw [stF_of (l := [.ref (b + 1), .ref (b + 1 + 7), .int 0, .ref (b + 1 + 7 + 1), .int 0, .ref (b + 16), .ref (b + 16 + 4), .null, .null]) (va_up_self _ _ _) (by simp)]
  simp only [Option.bind_some, List.set_cons_zero, List.set_cons_succ]
  rw [ldR_of (v := b + 20 + 1) (va_up_self _ _ _) rfl]
  simp only [Option.bind_some]
  rw [ldR_of (v := b + 20 + 2) (by rw [va_up_ne _ _ (by omega), va_up_ne _ _ (by omega)]; exact d2) rfl]
  simp only [Option.bind_some]
  rw [stF_of (l := [.ref (b + 1), .ref (b + 1 + 7), .int 0, .ref (b + 1 + 7 + 1), .int 0, .ref (b + 16), .ref (b + 16 + 4), .ref (b + 20 + 1), .null]) (va_up_self _ _ _) (by simp)]
  simp only [Option.bind_some, List.set_cons_zero, List.set_cons_succ]
  obtain ⟨h4, hh4⟩ : ∃ h4 : mmF, h4 = va_up (va_up (va_up g4 b (some (Sum.inr (9, [Value.ref (b + 1), Value.ref (b + 1 + 7), Value.int 0, Value.ref (b + 1 + 7 + 1), Value.int 0, Value.ref (b + 16), Value.ref (b + 16 + 4), Value.null, Value.null])))) b (some (Sum.inr (9, [Value.ref (b + 1), Value.ref (b + 1 + 7), Value.int 0, Value.ref (b + 1 + 7 + 1), Value.int 0, Value.ref (b + 16), Value.ref (b + 16 + 4), Value.ref (b + 20 + 1), Value.null])))) b (some (Sum.inr (9, [Value.ref (b + 1), Value.ref (b + 1 + 7), Value.int 0, Value.ref (b + 1 + 7 + 1), Value.int 0, Value.ref (b + 16), Value.ref (b + 16 + 4), Value.ref (b + 20 + 1), Value.ref (b + 20 + 2)]))) := ⟨_, rfl⟩
  rw [← hh4]
  have h4b : h4 b = some (.inr (9, [.ref (b + 1), .ref (b + 1 + 7), .int 0, .ref (b + 1 + 7 + 1), .int 0, .ref (b + 16), .ref (b + 16 + 4), .ref (b + 20 + 1), .ref (b + 20 + 2)])) := by rw [hh4, va_up_self]
  have h4o : ∀ q : Nat, q ≠ b → h4 q = g4 q := fun q n1 => by rw [hh4, va_up_ne _ _ n1, va_up_ne _ _ n1, va_up_ne _ _ n1]
  have r20 : ∀ q : Nat, q < b + 20 → q ≠ b → h4 q = g3 q := fun q q1 q2 => by rw [h4o q q2, dO q (by omega), va_up_ne _ _ (by omega), h3o q q2]
  have r16 : ∀ q : Nat, q < b + 16 → q ≠ b → h4 q = g2 q := fun q q1 q2 => by rw [r20 q (by omega) q2, c5 q (by omega), va_up_ne _ _ (by omega), h2o q q2]
  have r9 : ∀ q : Nat, q < b + 9 → q ≠ b → h4 q = h1 q := fun q q1 q2 => by rw [r16 q (by omega) q2, b2 q (by omega), va_up_ne _ _ (by omega)]
  obtain ⟨n, hn⟩ := FU_1000
  rw [hn]
  obtain ⟨f1, e1, e2, e3, e4⟩ := i_X9_90 (b := b) (l := [.ref (b + 1), .ref (b + 1 + 7), .int 0, .ref (b + 1 + 7 + 1), .int 0, .ref (b + 16), .ref (b + 16 + 4), .ref (b + 20 + 1), .ref (b + 20 + 2)]) rfl 4 0 (n + 1000) h4 (fun _ => none) rfl (by omega) h4b (by rw [r9 _ (by omega) (by omega)]; exact h18) (fun j => rfl) (fun j k hj => absurd hj (Nat.not_lt_zero j))
  refine ⟨f1, e1, ?_, ?_⟩
  · intro k c hk hc
    have hcase : k < 55 ∨ (55 ≤ k ∧ k < 83) := by omega
    rcases hcase with hk1 | ⟨hk1, hk2⟩
    · obtain rfl | rfl | rfl | rfl | rfl | rfl | rfl | rfl | rfl | rfl | rfl | rfl | rfl | rfl | rfl | rfl | rfl | rfl | rfl | rfl | rfl | rfl | rfl | rfl | rfl | rfl | rfl | rfl | rfl | rfl | rfl | rfl | rfl | rfl | rfl | rfl | rfl | rfl | rfl | rfl | rfl | rfl | rfl | rfl | rfl | rfl | rfl | rfl | rfl | rfl | rfl | rfl | rfl | rfl | rfl : k = 0 ∨ k = 1 ∨ k = 2 ∨ k = 3 ∨ k = 4 ∨ k = 5 ∨ k = 6 ∨ k = 7 ∨ k = 8 ∨ k = 9 ∨ k = 10 ∨ k = 11 ∨ k = 12 ∨ k = 13 ∨ k = 14 ∨ k = 15 ∨ k = 16 ∨ k = 17 ∨ k = 18 ∨ k = 19 ∨ k = 20 ∨ k = 21 ∨ k = 22 ∨ k = 23 ∨ k = 24 ∨ k = 25 ∨ k = 26 ∨ k = 27 ∨ k = 28 ∨ k = 29 ∨ k = 30 ∨ k = 31 ∨ k = 32 ∨ k = 33 ∨ k = 34 ∨ k = 35 ∨ k = 36 ∨ k = 37 ∨ k = 38 ∨ k = 39 ∨ k = 40 ∨ k = 41 ∨ k = 42 ∨ k = 43 ∨ k = 44 ∨ k = 45 ∨ k = 46 ∨ k = 47 ∨ k = 48 ∨ k = 49 ∨ k = 50 ∨ k = 51 ∨ k = 52 ∨ k = 53 ∨ k = 54 := by omega
      · cases hc; refine ((e4 b (by omega) (by omega)).trans h4b).trans ?_; have hf2 : fi0 b b 2 = 0 := fi0_z (b := b) (k := 0) (by omega); have hf4 : fi0 b b 4 = 0 := fi0_z (b := b) (k := 0) (by omega); simp only [mCell, mFlds, mFld, Nat.zero_add, Nat.reduceAdd, Nat.add_zero, hf2, hf4]
      · cases hc; refine ((e4 (b + 1) (by omega) (by omega)).trans ((r9 (b + 1) (by omega) (by omega)).trans ((h1o (b + 1) (by omega) (by omega)).trans (a1 0 (by omega))))).trans ?_; simp only [zSt]; have hf0 : fi0 b (b + 1) 0 = _ := fi0_1 (by omega); simp only [mCell, mFlds, mFld, Nat.zero_add, Nat.reduceAdd, hf0]
      · cases hc; exact ((e4 (b + 2) (by omega) (by omega)).trans ((r9 (b + 2) (by omega) (by omega)).trans ((h1o (b + 2) (by omega) (by omega)).trans (a1 1 (by omega))))).trans (fin_i (by decide) (ia0_l (by omega)))
      · cases hc; exact ((e4 (b + 3) (by omega) (by omega)).trans ((r9 (b + 3) (by omega) (by omega)).trans ((h1o (b + 3) (by omega) (by omega)).trans (a1 2 (by omega))))).trans (fin_i (by decide) (ia0_z (by omega)))
      · cases hc; exact ((e4 (b + 4) (by omega) (by omega)).trans ((r9 (b + 4) (by omega) (by omega)).trans ((h1o (b + 4) (by omega) (by omega)).trans (a1 3 (by omega))))).trans (fin_q (by decide) (qa0_z (by omega)))
      · cases hc; exact ((e4 (b + 5) (by omega) (by omega)).trans ((r9 (b + 5) (by omega) (by omega)).trans ((h1o (b + 5) (by omega) (by omega)).trans (a1 4 (by omega))))).trans (fin_i (by decide) (ia0_z (by omega)))
      · cases hc; exact ((e4 (b + 6) (by omega) (by omega)).trans ((r9 (b + 6) (by omega) (by omega)).trans ((h1o (b + 6) (by omega) (by omega)).trans (a1 5 (by omega))))).trans (fin_i (by decide) (ia0_z (by omega)))
      · cases hc; exact ((e4 (b + 7) (by omega) (by omega)).trans ((r9 (b + 7) (by omega) (by omega)).trans ((h1o (b + 7) (by omega) (by omega)).trans (a1 6 (by omega))))).trans (fin_i (by decide) (ia0_z (by omega)))
      · cases hc; exact e2.trans (fin_q (by decide) qa0_8)
      · cases hc; refine ((e4 (b + 9) (by omega) (by omega)).trans ((r16 (b + 9) (by omega) (by omega)).trans (b1 0 (by omega)))).trans ?_; simp only [zSt]; have hf0 : fi0 b (b + 9) 0 = _ := fi0_1 (by omega); simp only [mCell, mFlds, mFld, Nat.zero_add, Nat.reduceAdd, hf0]
      · cases hc; exact ((e4 (b + 10) (by omega) (by omega)).trans ((r16 (b + 10) (by omega) (by omega)).trans (b1 1 (by omega)))).trans (fin_i (by decide) (ia0_l (by omega)))
      · cases hc; exact ((e4 (b + 11) (by omega) (by omega)).trans ((r16 (b + 11) (by omega) (by omega)).trans (b1 2 (by omega)))).trans (fin_i (by decide) (ia0_z (by omega)))
      · cases hc; exact ((e4 (b + 12) (by omega) (by omega)).trans ((r16 (b + 12) (by omega) (by omega)).trans (b1 3 (by omega)))).trans (fin_q (by decide) (qa0_z (by omega)))
      · cases hc; exact ((e4 (b + 13) (by omega) (by omega)).trans ((r16 (b + 13) (by omega) (by omega)).trans (b1 4 (by omega)))).trans (fin_i (by decide) (ia0_z (by omega)))
      · cases hc; exact ((e4 (b + 14) (by omega) (by omega)).trans ((r16 (b + 14) (by omega) (by omega)).trans (b1 5 (by omega)))).trans (fin_i (by decide) (ia0_z (by omega)))
      · cases hc; exact ((e4 (b + 15) (by omega) (by omega)).trans ((r16 (b + 15) (by omega) (by omega)).trans (b1 6 (by omega)))).trans (fin_i (by decide) (ia0_z (by omega)))
      · cases hc; refine ((e4 (b + 16) (by omega) (by omega)).trans ((r20 (b + 16) (by omega) (by omega)).trans c1)).trans ?_; have hf0 : fi0 b (b + 16) 0 = _ := fi0_z (by omega); have hf3 : fi0 b (b + 16) 3 = _ := fi0_z (by omega); have hf5 : fi0 b (b + 16) 5 = _ := fi0_z (by omega); have hf6 : fi0 b (b + 16) 6 = _ := fi0_z (by omega); simp only [mCell, mFlds, mFld, Nat.zero_add, Nat.reduceAdd, hf0, hf3, hf5, hf6]
      · cases hc; exact ((e4 (b + 17) (by omega) (by omega)).trans ((r20 (b + 17) (by omega) (by omega)).trans c2)).trans (fin_i (by decide) (ia0_z (by omega)))
      · cases hc; exact ((e4 (b + 18) (by omega) (by omega)).trans ((r20 (b + 18) (by omega) (by omega)).trans c3)).trans (fin_i (by decide) (ia0_z (by omega)))
      · cases hc; exact ((e4 (b + 19) (by omega) (by omega)).trans ((r20 (b + 19) (by omega) (by omega)).trans c4)).trans (fin_i (by decide) (ia0_z (by omega)))
      · cases hc; refine ((e4 (b + 20) (by omega) (by omega)).trans ((h4o (b + 20) (by omega)).trans d1)).trans ?_; simp only [mCell, mFlds, mFld]
      · cases hc; refine ((e4 (b + 21) (by omega) (by omega)).trans ((h4o (b + 21) (by omega)).trans d2)).trans ?_; simp only [mCell, mFlds, mFld]
      · cases hc; refine ((e4 (b + 22) (by omega) (by omega)).trans ((h4o (b + 22) (by omega)).trans d3)).trans ?_; have hf0 : fi0 b (b + 22) 0 = _ := fi0_22; have hf5 : fi0 b (b + 22) 5 = _ := fi0_z (by omega); simp only [mCell, mFlds, mFld, Nat.zero_add, Nat.reduceAdd, hf0, hf5]
      · cases hc; exact ((e4 (b + 23) (by omega) (by omega)).trans ((h4o (b + 23) (by omega)).trans d4)).trans (fin_i (by decide) ia0_23)
      · cases hc; exact ((e4 (b + 24) (by omega) (by omega)).trans ((h4o (b + 24) (by omega)).trans d5)).trans (fin_i (by decide) (ia0_z (by omega)))
      · cases hc; exact ((e4 (b + 25) (by omega) (by omega)).trans ((h4o (b + 25) (by omega)).trans d6)).trans (fin_i (by decide) (ia0_z (by omega)))
      · cases hc; exact ((e4 (b + 26) (by omega) (by omega)).trans ((h4o (b + 26) (by omega)).trans d7)).trans (fin_i (by decide) (ia0_z (by omega)))
      · cases hc; exact ((e4 (b + 27) (by omega) (by omega)).trans ((h4o (b + 27) (by omega)).trans d8)).trans (fin_i (by decide) (ia0_z (by omega)))
      · cases hc; exact ((e4 (b + 28) (by omega) (by omega)).trans ((h4o (b + 28) (by omega)).trans d9)).trans (fin_i (by decide) (ia0_z (by omega)))
      · cases hc; exact ((e4 (b + 29) (by omega) (by omega)).trans ((h4o (b + 29) (by omega)).trans d10)).trans (fin_i (by decide) ia0_29)
      · cases hc; exact ((e4 (b + 30) (by omega) (by omega)).trans ((h4o (b + 30) (by omega)).trans d11)).trans (fin_i (by decide) (ia0_z (by omega)))
      · cases hc; exact ((e4 (b + 31) (by omega) (by omega)).trans ((h4o (b + 31) (by omega)).trans d12)).trans (fin_i (by decide) (ia0_z (by omega)))
      · cases hc; exact ((e4 (b + 32) (by omega) (by omega)).trans ((h4o (b + 32) (by omega)).trans d13)).trans (fin_i (by decide) (ia0_z (by omega)))
      · cases hc; refine ((e4 (b + 33) (by omega) (by omega)).trans ((h4o (b + 33) (by omega)).trans d14)).trans ?_; have hf0 : fi0 b (b + 33) 0 = _ := fi0_z (by omega); simp only [mCell, mFlds, mFld, Nat.zero_add, Nat.reduceAdd, hf0]
      · cases hc; refine ((e4 (b + 34) (by omega) (by omega)).trans ((h4o (b + 34) (by omega)).trans d15)).trans ?_; simp only [mCell, mFlds, mFld]
      · cases hc; exact ((e4 (b + 35) (by omega) (by omega)).trans ((h4o (b + 35) (by omega)).trans d16)).trans (fin_l (ia0_z (by omega)))
      · cases hc; exact ((e4 (b + 36) (by omega) (by omega)).trans ((h4o (b + 36) (by omega)).trans d17)).trans (fin_i (by decide) (ia0_z (by omega)))
      · cases hc; refine ((e4 (b + 37) (by omega) (by omega)).trans ((h4o (b + 37) (by omega)).trans d18)).trans ?_; simp only [mCell, mFlds, mFld]
      · cases hc; exact ((e4 (b + 38) (by omega) (by omega)).trans ((h4o (b + 38) (by omega)).trans d19)).trans (fin_l (ia0_z (by omega)))
      · cases hc; exact ((e4 (b + 39) (by omega) (by omega)).trans ((h4o (b + 39) (by omega)).trans d20)).trans (fin_i (by decide) (ia0_z (by omega)))
      · cases hc; refine ((e4 (b + 40) (by omega) (by omega)).trans ((h4o (b + 40) (by omega)).trans d21)).trans ?_; simp only [mCell, mFlds, mFld]
      · cases hc; exact ((e4 (b + 41) (by omega) (by omega)).trans ((h4o (b + 41) (by omega)).trans d22)).trans (fin_l (ia0_z (by omega)))
      · cases hc; refine ((e4 (b + 42) (by omega) (by omega)).trans ((h4o (b + 42) (by omega)).trans d23)).trans ?_; simp only [mCell, mFlds, mFld]
      · cases hc; exact ((e4 (b + 43) (by omega) (by omega)).trans ((h4o (b + 43) (by omega)).trans d24)).trans (fin_l (ia0_z (by omega)))
      · cases hc; refine ((e4 (b + 44) (by omega) (by omega)).trans ((h4o (b + 44) (by omega)).trans d25)).trans ?_; simp only [mCell, mFlds, mFld]
      · cases hc; exact ((e4 (b + 45) (by omega) (by omega)).trans ((h4o (b + 45) (by omega)).trans d26)).trans (fin_l (ia0_z (by omega)))
      · cases hc; exact ((e4 (b + 46) (by omega) (by omega)).trans ((h4o (b + 46) (by omega)).trans d27)).trans (fin_i (by decide) (ia0_z (by omega)))
      · cases hc; refine ((e4 (b + 47) (by omega) (by omega)).trans ((h4o (b + 47) (by omega)).trans d28)).trans ?_; have hf0 : fi0 b (b + 47) 0 = _ := fi0_z (by omega); have hf3 : fi0 b (b + 47) 3 = _ := fi0_z (by omega); simp only [mCell, mFlds, mFld, Nat.zero_add, Nat.reduceAdd, hf0, hf3]
      · cases hc; refine ((e4 (b + 48) (by omega) (by omega)).trans ((h4o (b + 48) (by omega)).trans d29)).trans ?_; simp only [mCell, mFlds, mFld]
      · cases hc; exact ((e4 (b + 49) (by omega) (by omega)).trans ((h4o (b + 49) (by omega)).trans d30)).trans (fin_l (ia0_z (by omega)))
      · cases hc; exact ((e4 (b + 50) (by omega) (by omega)).trans ((h4o (b + 50) (by omega)).trans d31)).trans (fin_i (by decide) (ia0_z (by omega)))
      · cases hc; refine ((e4 (b + 51) (by omega) (by omega)).trans ((h4o (b + 51) (by omega)).trans d32)).trans ?_; have hf0 : fi0 b (b + 51) 0 = _ := fi0_z (by omega); have hf3 : fi0 b (b + 51) 3 = _ := fi0_z (by omega); simp only [mCell, mFlds, mFld, Nat.zero_add, Nat.reduceAdd, hf0, hf3]
      · cases hc; refine ((e4 (b + 52) (by omega) (by omega)).trans ((h4o (b + 52) (by omega)).trans d33)).trans ?_; simp only [mCell, mFlds, mFld]
      · cases hc; exact ((e4 (b + 53) (by omega) (by omega)).trans ((h4o (b + 53) (by omega)).trans d34)).trans (fin_l (ia0_z (by omega)))
      · cases hc; exact ((e4 (b + 54) (by omega) (by omega)).trans ((h4o (b + 54) (by omega)).trans d35)).trans (fin_i (by decide) (ia0_z (by omega)))
    · have hj : (k - 55) / 7 < 4 := by omega
      have hke : k = 55 + 7 * ((k - 55) / 7) + (k - 55) % 7 := by omega
      have hm : (k - 55) % 7 < 7 := Nat.mod_lt _ (by decide)
      generalize (k - 55) / 7 = j at hke hj
      generalize (k - 55) % 7 = i at hke hm
      subst hke
      have hc2 : SK b (b + (55 + 7 * j + i)) = some c := by rw [SK_at]; exact hc
      rw [K_his hj hm] at hc2
      have e3' := e3 j i hj hm
      rw [show b + (55 + 7 * j + i) = b + (55 + 7 * j) + i by omega, e3']
      have m1 : ∀ i' : Nat, i' < 7 → (b + (55 + 7 * j) + i' - b - 55) % 7 = i' := fun i' hi' => by omega
      obtain rfl | rfl | rfl | rfl | rfl | rfl | rfl : i = 0 ∨ i = 1 ∨ i = 2 ∨ i = 3 ∨ i = 4 ∨ i = 5 ∨ i = 6 := by omega
      · cases hc2
        simp only [zSt, mCell, mFlds, mFld, fi0]
        rw [if_pos ⟨Or.inr (Or.inr ⟨by omega, by omega, m1 0 hm⟩), trivial⟩]
      · cases hc2
        simp only [zSt, mCell]
        rw [if_neg (by decide), if_neg (by decide)]
        have : ia0 b (b + (55 + 7 * j) + 1) = upd (fun _ => 0) 0 1 := by
          funext q
          simp only [ia0, upd]
          rw [if_pos (Or.inr (Or.inr ⟨by omega, by omega, m1 1 hm⟩))]
        rw [this]
      · cases hc2
        simp only [zSt, mCell]
        rw [if_neg (by decide), if_neg (by decide)]
        have : ia0 b (b + (55 + 7 * j) + 2) = fun _ => 0 := by
          funext q
          have := m1 2 hm
          simp only [ia0]
          rw [if_neg (by omega), if_neg (by omega), if_neg (by omega), if_neg (by omega)]
        rw [this]
      · cases hc2
        simp only [zSt, mCell]
        rw [if_pos (by decide)]
        have : qa0 b (b + (55 + 7 * j) + 3) = fun _ => none := by
          funext q
          simp only [qa0]
          rw [if_neg (by omega)]
        rw [this]
      · cases hc2
        simp only [zSt, mCell]
        rw [if_neg (by decide), if_neg (by decide)]
        have : ia0 b (b + (55 + 7 * j) + 4) = fun _ => 0 := by
          funext q
          have := m1 4 hm
          simp only [ia0]
          rw [if_neg (by omega), if_neg (by omega), if_neg (by omega), if_neg (by omega)]
        rw [this]
      · cases hc2
        simp only [zSt, mCell]
        rw [if_neg (by decide), if_neg (by decide)]
        have : ia0 b (b + (55 + 7 * j) + 5) = fun _ => 0 := by
          funext q
          have := m1 5 hm
          simp only [ia0]
          rw [if_neg (by omega), if_neg (by omega), if_neg (by omega), if_neg (by omega)]
        rw [this]
      · cases hc2
        simp only [zSt, mCell]
        rw [if_neg (by decide), if_neg (by decide)]
        have : ia0 b (b + (55 + 7 * j) + 6) = fun _ => 0 := by
          funext q
          have := m1 6 hm
          simp only [ia0]
          rw [if_neg (by omega), if_neg (by omega), if_neg (by omega), if_neg (by omega)]
        rw [this]
  · intro q hq
    rw [e4 q (by omega) (by omega), h4o q (by omega), dO q (by omega), va_up_ne _ _ (by omega), h3o q (by omega), c5 q (by omega), va_up_ne _ _ (by omega), h2o q (by omega), b2 q (by omega), va_up_ne _ _ (by omega), h1o q (by omega) (by omega), a2 q (by omega), va_up_ne _ _ (by omega)]
