/-! CLAIMS ARE MADE, beyond the two objects -/
section MADE
variable {b : Nat} {ia fi : Nat → Nat → Int32} {fl : Nat → Nat → Int64} {qa : Nat → Nat → Option Nat} {f : mmF}
theorem vu_s {α : Type} (g : Nat → Option α) (a : Nat) (x : Option α) : va_up g a x a = x := by simp [va_up]
theorem vu_n {α : Type} (g : Nat → Option α) {a p : Nat} (x : Option α) (h : p ≠ a) : va_up g a x p = g p := by simp [va_up, h]
theorem vu_vu {α : Type} (g : Nat → Option α) (a : Nat) (x y : Option α) : va_up (va_up g a x) a y = va_up g a y := by
  funext p
  by_cases h : p = a
  · subst h; rw [vu_s, vu_s]
  · rw [vu_n _ _ h, vu_n _ _ h, vu_n _ _ h]
theorem vu_cm {α : Type} (g : Nat → Option α) {a c : Nat} (x y : Option α) (h : a ≠ c) : va_up (va_up g a x) c y = va_up (va_up g c y) a x := by
  funext p
  by_cases h1 : p = a
  · subst h1; rw [vu_n _ _ h, vu_s, vu_s]
  · by_cases h2 : p = c
    · subst h2; rw [vu_s, vu_n _ _ h1, vu_s]
    · rw [vu_n _ _ h2, vu_n _ _ h1, vu_n _ _ h1, vu_n _ _ h2]
theorem wr_vu {a : Nat} (h : b + 102 ≤ a) (x : Option va_E) : va_up (wr (SK b) ia fi fl qa f) a x = wr (SK b) ia fi fl qa (va_up f a x) := by
  funext p
  by_cases hp : p = a
  · subst hp
    rw [vu_s, wr_o (SK_high h), vu_s]
  · rw [vu_n _ _ hp]
    cases hs : SK b p with
    | none => rw [wr_o hs, wr_o hs, vu_n _ _ hp]
    | some k => rw [wr_c hs, wr_c hs]
/-- a claim's two cells -/
def cl2 (f : mmF) (c sz k : Nat) (h : Nat → Int32) : mmF := va_up (va_up f sz (some (.inl (0, k, .inl h)))) c (some (.inr (0, [.int (nI k), .ref sz])))
theorem cl2_c (f : mmF) (c sz k : Nat) (h : Nat → Int32) : cl2 f c sz k h c = some (.inr (0, [.int (nI k), .ref sz])) := vu_s _ _ _
theorem cl2_s (f : mmF) {c sz : Nat} (k : Nat) (h : Nat → Int32) (e : sz ≠ c) : cl2 f c sz k h sz = some (.inl (0, k, .inl h)) := by
  unfold cl2
  rw [vu_n _ _ e, vu_s]
theorem cl2_o (f : mmF) {c sz a : Nat} (k : Nat) (h : Nat → Int32) (e1 : a ≠ c) (e2 : a ≠ sz) : cl2 f c sz k h a = f a := by
  unfold cl2
  rw [vu_n _ _ e1, vu_n _ _ e2]
theorem init_30 {c sz k v1 : Nat} {g : Nat → Nat} (hc : b + 102 ≤ c) (hs : b + 102 ≤ sz) (hne : sz ≠ c) (hk : k < 2 ^ 31) (hrow : ∀ (f1 : mmF), (∀ a : Nat, a ≠ c → a ≠ sz → f1 a = f a) → ∀ j, j < k → ldA 0 (wr (SK b) ia fi fl qa f1) v1 (nI j) = some (nI (g j))) (h : Nat → Int32) : ∀ (m i q z : Nat), i + m = k → m < q → f_X0_init_30 q c v1 (nI i) (wr (SK b) ia fi fl qa (cl2 f c sz k (fun j => if j < i then nI (g j) else h j))) z = some (wr (SK b) ia fi fl qa (cl2 f c sz k (fun j => if j < k then nI (g j) else h j)), z) := by
  intro m
  induction m with
  | zero =>
    intro i q z hi hq
    obtain ⟨q, rfl⟩ : ∃ k, q = k + 1 := ⟨q - 1, by omega⟩
    have hik : i = k := by omega
    subst hik
    have e1 : ldI (wr (SK b) ia fi fl qa (cl2 f c sz i (fun j => if j < i then nI (g j) else h j))) c 0 0 = some (nI i) := by
      simp only [ldI, ldF, wr_o (SK_high hc), cl2_c, if_pos, List.getElem?_cons_zero]
    rw [f_X0_init_30]
    simp only [e1, Option.bind_some]
    rw [if_pos (Int32.le_refl _)]
  | succ m ih =>
    intro i q z hi hq
    obtain ⟨q, rfl⟩ : ∃ k, q = k + 1 := ⟨q - 1, by omega⟩
    have hik : i < k := by omega
    have hlt : ¬ nI k ≤ nI i := nI_ge hik hk
    have e1 : ldI (wr (SK b) ia fi fl qa (cl2 f c sz k (fun j => if j < i then nI (g j) else h j))) c 0 0 = some (nI k) := by
      simp only [ldI, ldF, wr_o (SK_high hc), cl2_c, if_pos, List.getElem?_cons_zero]
    have e2 : ldR (wr (SK b) ia fi fl qa (cl2 f c sz k (fun j => if j < i then nI (g j) else h j))) c 0 1 = some sz := by
      simp only [ldR, ldF, wr_o (SK_high hc), cl2_c, if_pos, List.getElem?_cons_succ, List.getElem?_cons_zero]
    have e3 := hrow (cl2 f c sz k (fun j => if j < i then nI (g j) else h j)) (fun a h1 h2 => cl2_o f k _ h1 h2) i hik
    have e4 : stA 0 (wr (SK b) ia fi fl qa (cl2 f c sz k (fun j => if j < i then nI (g j) else h j))) sz (nI i) (nI (g i)) = some (wr (SK b) ia fi fl qa (cl2 f c sz k (fun j => if j < i + 1 then nI (g j) else h j))) := by
      have hn := nI_clamp (n := i) (by omega)
      have h0 : ¬ (nI i < 0 ∨ k ≤ (nI i).toNatClampNeg) := by
        rw [hn]
        intro hx
        rcases hx with hx | hx
        · exact nI_pos (by omega) hx
        · omega
      simp only [stA, wr_o (SK_high hs), cl2_s f k _ hne, true_and, if_pos h0]
      rw [wr_vu hs, hn]
      congr 2
      have hu : upd (fun j => if j < i then nI (g j) else h j) i (nI (g i)) = fun j => if j < i + 1 then nI (g j) else h j := by
        funext j
        by_cases hj : j = i
        · subst hj
          simp [upd]
        · by_cases hj2 : j < i
          · simp [upd, hj, hj2, show j < i + 1 by omega]
          · simp [upd, hj, hj2, show ¬ j < i + 1 by omega]
      rw [hu]
      unfold cl2
      rw [vu_cm _ _ _ (Ne.symm hne), vu_vu]
    rw [f_X0_init_30]
    simp only [e1, Option.bind_some, if_neg hlt, e2, e3, e4, nI_1]
    exact ih (i + 1) q z (by omega) (by omega)
theorem o_stF {a ci k : Nat} {fs : List Value} (h : b + 102 ≤ a) (hf : f a = some (.inr (ci, fs))) (hk : k < fs.length) (v : Value) : stF (wr (SK b) ia fi fl qa f) a ci k v = some (wr (SK b) ia fi fl qa (va_up f a (some (.inr (ci, fs.set k v))))) := by
  simp only [stF, wr_o (SK_high h), hf, true_and, if_pos hk]
  rw [wr_vu h]
theorem mn_k {N k : Nat} (hk : k ≤ N) (hN : N < 2 ^ 31) : (if (0 : Int32) < (if nI N < nI k then nI N else nI k) then (if nI N < nI k then nI N else nI k) else (0 : Int32)) = nI k := by
  rw [if_neg (show ¬ nI N < nI k from nI_nlt hk hN)]
  by_cases h0 : k = 0
  · rw [h0]
    rfl
  · exact if_pos (show (0 : Int32) < nI k from nI_lt (a := 0) (b := k) (by omega) (by omega))
theorem init_ok {c sz k N v1 : Nat} {g : Nat → Nat} (hc : b + 102 ≤ c) (hs : b + 102 ≤ sz) (hne : sz ≠ c) (hk : k ≤ N) (hN : N ≤ 64) (hf : f c = some (.inr (0, [.int 0, .null]))) (hlen : lenA (wr (SK b) ia fi fl qa f) v1 = some (nI N)) (hrow : ∀ (f1 : mmF), (∀ a : Nat, a ≠ c → a ≠ sz → f1 a = f a) → ∀ j, j < k → ldA 0 (wr (SK b) ia fi fl qa f1) v1 (nI j) = some (nI (g j))) : f_X0_init c v1 (nI k) (wr (SK b) ia fi fl qa f) sz = some (wr (SK b) ia fi fl qa (cl2 f c sz k (fun j => if j < k then nI (g j) else 0)), sz + 1) := by
  obtain ⟨q, hq⟩ := FU_1000
  have e1 : ldI (wr (SK b) ia fi fl qa (va_up f c (some (.inr (0, [.int (nI k), .null]))))) c 0 0 = some (nI k) := by
    simp only [ldI, ldF, wr_o (SK_high hc), vu_s, if_pos, List.getElem?_cons_zero]
  have e2 : (nI k).toNatClampNeg = k := nI_clamp (n := k) (by omega)
  have e3 : ¬ (nI k < 0 ∨ 64 < k) := by
    intro hx
    rcases hx with hx | hx
    · exact nI_pos (by omega) hx
    · omega
  have e4 : va_up (va_up f c (some (.inr (0, [.int (nI k), .null])))) sz (some (.inl (0, k, .inl (fun _ => 0)))) c = some (.inr (0, [.int (nI k), .null])) := by
    rw [vu_n _ _ (Ne.symm hne), vu_s]
  have e5 := o_stF (b := b) (ia := ia) (fi := fi) (fl := fl) (qa := qa) hc e4 (k := 1) (by simp) (.ref sz)
  have e6 : va_up (va_up (va_up f c (some (.inr (0, [.int (nI k), .null])))) sz (some (.inl (0, k, .inl (fun _ => 0))))) c (some (.inr (0, [Value.int (nI k), .null].set 1 (.ref sz)))) = cl2 f c sz k (fun j => if j < 0 then nI (g j) else 0) := by
    unfold cl2
    rw [vu_cm _ _ _ (Ne.symm hne), vu_vu]
    rfl
  have e7 := init_30 (ia := ia) (fi := fi) (fl := fl) (qa := qa) (f := f) hc hs hne (by omega) hrow (fun _ => 0) k 0 FU (sz + 1) (by omega) (by omega)
  have e8 := o_stF (b := b) (ia := ia) (fi := fi) (fl := fl) (qa := qa) hc hf (k := 0) (by decide) (.int (nI k))
  unfold f_X0_init
  simp only [hlen, Option.bind_some, mn_k hk (show N < 2 ^ 31 by omega), e8, List.set_cons_zero, e1, e2, if_neg e3, wr_vu hs, e5, e6]
  exact e7
end MADE
