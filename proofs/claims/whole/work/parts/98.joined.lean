/-! TWO CLAIMS JOINED, the class's new claim -/
def jg (k1 : Nat) (g1 : Nat → Nat) (k2 : Nat) (g2 : Nat → Nat) (s : Nat) : Nat → Nat := fun i => if i < k1 then g1 i else if i < k1 + k2 then g2 (i - k1) else s
theorem jg_1 {k1 k2 s i : Nat} {g1 g2 : Nat → Nat} (h : i < k1) : jg k1 g1 k2 g2 s i = g1 i := if_pos h
theorem jg_2 {k1 k2 s i : Nat} {g1 g2 : Nat → Nat} (h : k1 ≤ i) (h2 : i < k1 + k2) : jg k1 g1 k2 g2 s i = g2 (i - k1) := (if_neg (by omega)).trans (if_pos h2)
theorem jg_3 {k1 k2 s i : Nat} {g1 g2 : Nat → Nat} (h : k1 + k2 ≤ i) : jg k1 g1 k2 g2 s i = s := (if_neg (by omega)).trans (if_neg (by omega))
theorem dpt_j1 {k1 k2 s : Nat} {g1 g2 : Nat → Nat} : ∀ i, i ≤ k1 → dpt (jg k1 g1 k2 g2 s) i = dpt g1 i
  | 0, _ => rfl
  | i + 1, h => by rw [dpt_s, dpt_s, jg_1 (by omega), dpt_j1 i (by omega)]
theorem dpt_j2 {k1 k2 s : Nat} {g1 g2 : Nat → Nat} (h1 : dpt g1 k1 = 1) (ho : okp g2 k2) : ∀ i, i ≤ k2 → dpt (jg k1 g1 k2 g2 s) (k1 + i) = 1 + dpt g2 i
  | 0, _ => by rw [Nat.add_zero, dpt_j1 k1 (Nat.le_refl _), h1]; rfl
  | i + 1, h => by
    have ih := dpt_j2 (s := s) h1 ho i (by omega)
    obtain ⟨_, o6, o7⟩ := ho i (by omega)
    rw [← Nat.add_assoc, dpt_s, dpt_s, jg_2 (by omega) (by omega), ih, show k1 + i - k1 = i by omega]
    by_cases c6 : g2 i < 6
    · rw [if_pos c6, if_pos c6]; omega
    · rw [if_neg c6, if_neg c6]
      by_cases c7 : g2 i = 6
      · rw [if_pos c7, if_pos c7]
      · rw [if_neg c7, if_neg c7]
        have := o7 (by omega)
        omega
theorem VC.join {k1 k2 s : Nat} {g1 g2 : Nat → Nat} (h1 : VC k1 g1) (h2 : VC k2 g2) (hs : 7 ≤ s) (hs2 : s < 10) (hk : k1 + k2 + 1 ≤ 24) : VC (k1 + k2 + 1) (jg k1 g1 k2 g2 s) := by
  obtain ⟨a1, a2, a3, a4, _⟩ := h1
  obtain ⟨b1, b2, b3, b4, _⟩ := h2
  have e2 := dpt_j2 (s := s) a4 b3 k2 (Nat.le_refl _)
  rw [b4] at e2
  refine ⟨by omega, by omega, fun j hj => ?_, ?_, Or.inl hk⟩
  · by_cases c1 : j < k1
    · rw [jg_1 c1, dpt_j1 j (by omega)]
      exact a3 j c1
    · by_cases c2 : j < k1 + k2
      · obtain ⟨x1, x2, x3⟩ := b3 (j - k1) (by omega)
        have := dpt_j2 (s := s) a4 b3 (j - k1) (by omega)
        rw [show k1 + (j - k1) = j by omega] at this
        rw [jg_2 (by omega) c2, this]
        exact ⟨x1, fun h => by omega, fun h => by have := x3 h; omega⟩
      · rw [jg_3 (by omega), show j = k1 + k2 by omega, e2]
        exact ⟨hs2, fun _ => by omega, fun _ => by omega⟩
  · rw [dpt_s, jg_3 (Nat.le_refl _), e2, if_neg (by omega), if_neg (by omega)]
def fresh (f : mmF) (sz : Nat) : Prop := ∀ a : Nat, sz ≤ a → f a = none
def extM (f f1 : mmF) : Prop := ∀ (a : Nat) (v : va_E), f a = some v → f1 a = some v
theorem extM.rf (f : mmF) : extM f f := fun _ _ h => h
theorem extM.tr {f f1 f2 : mmF} (h : extM f f1) (h2 : extM f1 f2) : extM f f2 := fun a v hv => h2 a v (h a v hv)
theorem extM.up {f : mmF} {a : Nat} (h : f a = none) (x : Option va_E) : extM f (va_up f a x) := fun p v hv => by
  by_cases hp : p = a
  · subst hp; rw [h] at hv; cases hv
  · rw [vu_n _ _ hp]; exact hv
theorem ClA.ext {b c k : Nat} {f f1 : mmF} {g : Nat → Nat} (h : ClA b f c k g) (e : extM f f1) : ClA b f1 c k g := by
  obtain ⟨h1, sg, hh, h2, h3, h4, h5⟩ := h
  exact ⟨h1, sg, hh, h2, e _ _ h3, e _ _ h4, h5⟩
section JOINED
variable {b : Nat} {ia fi : Nat → Nat → Int32} {fl : Nat → Nat → Int64} {qa : Nat → Nat → Option Nat} {f : mmF}
theorem o_len {a t n : Nat} {h : Nat → Int32} (ha : b + 102 ≤ a) (hf : f a = some (.inl (t, n, .inl h))) (ht : t ≤ 9) : lenA (wr (SK b) ia fi fl qa f) a = some (nI n) := by
  simp only [lenA, wr_o (SK_high ha), hf, if_pos ht]
  rfl
theorem o_ldA {a n i : Nat} {h : Nat → Int32} (ha : b + 102 ≤ a) (hf : f a = some (.inl (0, n, .inl h))) (hi : i < n) (h31 : i < 2 ^ 31) : ldA 0 (wr (SK b) ia fi fl qa f) a (nI i) = some (h i) := by
  have hn := nI_clamp (n := i) h31
  have h0 : ¬ (nI i < 0 ∨ n ≤ (nI i).toNatClampNeg) := by
    rw [hn]
    intro hx
    rcases hx with hx | hx
    · exact nI_pos h31 hx
    · omega
  simp only [ldA, wr_o (SK_high ha), hf, true_or, true_and, if_pos h0]
  rw [hn]
theorem o_stA {a n i : Nat} {h : Nat → Int32} {x : Int32} (ha : b + 102 ≤ a) (hf : f a = some (.inl (0, n, .inl h))) (hi : i < n) (h31 : i < 2 ^ 31) : stA 0 (wr (SK b) ia fi fl qa f) a (nI i) x = some (wr (SK b) ia fi fl qa (va_up f a (some (.inl (0, n, .inl (fun j => if j = i then x else h j)))))) := by
  have hn := nI_clamp (n := i) h31
  have h0 : ¬ (nI i < 0 ∨ n ≤ (nI i).toNatClampNeg) := by
    rw [hn]
    intro hx
    rcases hx with hx | hx
    · exact nI_pos h31 hx
    · omega
  have hu : upd h i x = fun j => if j = i then x else h j := by
    funext j
    by_cases hj : j = i <;> simp [upd, hj]
  simp only [stA, wr_o (SK_high ha), hf, true_and, if_pos h0]
  rw [wr_vu ha, hn, hu]
theorem joined_17 {c1 c2 k1 k2 s sz : Nat} {g1 g2 : Nat → Nat} (h1 : ClA b f c1 k1 g1) (h2 : ClA b f c2 k2 g2) (hsz : b + 102 ≤ sz) (hfr : f sz = none) (hN : k1 + k2 + 1 ≤ 64) : ∀ (m i q z : Nat), i + m = k1 + k2 + 1 → m < q → f_X0_joined_17 q c1 c2 (nI s) sz (nI i) (wr (SK b) ia fi fl qa (va_up f sz (some (.inl (0, k1 + k2 + 1, .inl (fun j => if j < i then nI (jg k1 g1 k2 g2 s j) else 0)))))) z = f_X0_joined_17 1 c1 c2 (nI s) sz (nI (k1 + k2 + 1)) (wr (SK b) ia fi fl qa (va_up f sz (some (.inl (0, k1 + k2 + 1, .inl (fun j => if j < k1 + k2 + 1 then nI (jg k1 g1 k2 g2 s j) else 0)))))) z := by
  intro m
  induction m with
  | zero =>
    intro i q z hi hq
    obtain ⟨q, rfl⟩ : ∃ k, q = k + 1 := ⟨q - 1, by omega⟩
    have hik : i = k1 + k2 + 1 := by omega
    subst hik
    have el := o_len (b := b) (ia := ia) (fi := fi) (fl := fl) (qa := qa) hsz (vu_s f sz (some (.inl (0, k1 + k2 + 1, .inl (fun j => if j < k1 + k2 + 1 then nI (jg k1 g1 k2 g2 s j) else 0))))) (by decide)
    rw [f_X0_joined_17, f_X0_joined_17]
    simp only [el, Option.bind_some]
    rw [if_pos (Int32.le_refl _), if_pos (Int32.le_refl _)]
  | succ m ih =>
    intro i q z hi hq
    obtain ⟨q, rfl⟩ : ∃ k, q = k + 1 := ⟨q - 1, by omega⟩
    have hik : i < k1 + k2 + 1 := by omega
    have hlt : ¬ nI (k1 + k2 + 1) ≤ nI i := nI_ge hik (by omega)
    have hex := extM.up hfr (some (.inl (0, k1 + k2 + 1, .inl (fun j => if j < i then nI (jg k1 g1 k2 g2 s j) else 0))))
    have hc1 := h1.ext hex
    have hc2 := h2.ext hex
    obtain ⟨sg1, hR1, hA1⟩ := cl_R hc1
    obtain ⟨sg2, hR2, hA2⟩ := cl_R hc2
    have el := o_len (b := b) (ia := ia) (fi := fi) (fl := fl) (qa := qa) hsz (vu_s f sz (some (.inl (0, k1 + k2 + 1, .inl (fun j => if j < i then nI (jg k1 g1 k2 g2 s j) else 0))))) (by decide)
    have est := fun x => o_stA (b := b) (ia := ia) (fi := fi) (fl := fl) (qa := qa) (x := x) hsz (vu_s f sz (some (.inl (0, k1 + k2 + 1, .inl (fun j => if j < i then nI (jg k1 g1 k2 g2 s j) else 0))))) hik (by omega)
    have next : ∀ x : Int32, x = nI (jg k1 g1 k2 g2 s i) → f_X0_joined_71 (fun a0 a1 a2 a3 a4 a5 a6 => f_X0_joined_17 q a0 a1 a2 a3 a4 a5 a6) c1 c2 (nI s) sz (nI i) sz (nI i) x (wr (SK b) ia fi fl qa (va_up f sz (some (.inl (0, k1 + k2 + 1, .inl (fun j => if j < i then nI (jg k1 g1 k2 g2 s j) else 0)))))) z = f_X0_joined_17 1 c1 c2 (nI s) sz (nI (k1 + k2 + 1)) (wr (SK b) ia fi fl qa (va_up f sz (some (.inl (0, k1 + k2 + 1, .inl (fun j => if j < k1 + k2 + 1 then nI (jg k1 g1 k2 g2 s j) else 0)))))) z := by
      intro x hx
      unfold f_X0_joined_71
      simp only [est, Option.bind_some, vu_vu, nI_1]
      rw [row_step (fun j => nI (jg k1 g1 k2 g2 s j)) (fun _ => 0) i x hx]
      exact ih (i + 1) q z (by omega) (by omega)
    rw [f_X0_joined_17]
    simp only [el, Option.bind_some, if_neg hlt, cl_I hc1]
    by_cases d1 : i < k1
    · rw [if_neg (show ¬ nI k1 ≤ nI i from nI_ge d1 (by omega))]
      simp only [hR1, hA1 _ _ _ _ i d1 (by omega), Option.bind_some]
      exact next _ (by rw [jg_1 d1])
    · rw [if_pos (show nI k1 ≤ nI i from nI_le (by omega) (by omega)), nI_1]
      by_cases d2 : i < k1 + k2
      · rw [if_neg (show ¬ nI (k1 + k2 + 1) ≤ nI (i + 1) from nI_ge (by omega) (by omega))]
        simp only [hR2, Option.bind_some, show nI i - nI k1 = nI (i - k1) from pk_sub (by omega), hA2 _ _ _ _ (i - k1) (by omega) (by omega)]
        exact next _ (by rw [jg_2 (by omega) d2])
      · rw [if_pos (show nI (k1 + k2 + 1) ≤ nI (i + 1) from nI_le (by omega) (by omega))]
        exact next _ (by rw [jg_3 (by omega)])
/-- the joined claim: where it lies, what the memory is -/
theorem joined_ok {c1 c2 k1 k2 s sz : Nat} {g1 g2 : Nat → Nat} (h1 : ClA b f c1 k1 g1) (h2 : ClA b f c2 k2 g2) (hsz : b + 102 ≤ sz) (hfr : fresh f sz) (hN : k1 + k2 + 1 ≤ 64) : ∃ f1 : mmF, (∀ (ia fi : Nat → Nat → Int32) (fl : Nat → Nat → Int64) (qa : Nat → Nat → Option Nat), f_X0_joined c1 c2 (nI s) (wr (SK b) ia fi fl qa f) sz = some (sz + 1, wr (SK b) ia fi fl qa f1, sz + 3)) ∧ ClA b f1 (sz + 1) (k1 + k2 + 1) (jg k1 g1 k2 g2 s) ∧ extM f f1 ∧ fresh f1 (sz + 3) := by
  obtain ⟨q, hq⟩ := FU_1000
  obtain ⟨fr, hfrr⟩ : ∃ fr : mmF, fr = va_up (va_up f sz (some (.inl (0, k1 + k2 + 1, .inl (fun j => if j < k1 + k2 + 1 then nI (jg k1 g1 k2 g2 s j) else 0))))) (sz + 1) (some (.inr (0, [.int 0, .null]))) := ⟨_, rfl⟩
  have frs : fr sz = some (.inl (0, k1 + k2 + 1, .inl (fun j => if j < k1 + k2 + 1 then nI (jg k1 g1 k2 g2 s j) else 0))) := by
    rw [hfrr, vu_n _ _ (by omega), vu_s]
  have frc : fr (sz + 1) = some (.inr (0, [.int 0, .null])) := by rw [hfrr, vu_s]
  have fro : ∀ a : Nat, a ≠ sz → a ≠ sz + 1 → fr a = f a := fun a e1 e2 => by rw [hfrr, vu_n _ _ e2, vu_n _ _ e1]
  refine ⟨cl2 fr (sz + 1) (sz + 2) (k1 + k2 + 1) (fun j => if j < k1 + k2 + 1 then nI (jg k1 g1 k2 g2 s j) else 0), fun ia fi fl qa => ?_, ?_, fun a v hv => ?_, fun a ha => ?_⟩
  · have e0 : nI k1 + nI k2 + 1 = nI (k1 + k2 + 1) := by rw [nI_add, nI_1]
    have e1 : (nI (k1 + k2 + 1)).toNatClampNeg = k1 + k2 + 1 := nI_clamp (n := k1 + k2 + 1) (by omega)
    have e2 : ¬ (nI (k1 + k2 + 1) < 0 ∨ 64 < k1 + k2 + 1) := by
      intro hx
      rcases hx with hx | hx
      · exact nI_pos (by omega) hx
      · omega
    have e17 := joined_17 (ia := ia) (fi := fi) (fl := fl) (qa := qa) (s := s) h1 h2 hsz (hfr sz (Nat.le_refl _)) hN (k1 + k2 + 1) 0 FU (sz + 1) (by omega) (by omega)
    have e17z : (fun j => if j < 0 then nI (jg k1 g1 k2 g2 s j) else 0) = (fun _ => (0 : Int32)) := by
      funext j
      exact if_neg (Nat.not_lt_zero _)
    rw [e17z] at e17
    have el := o_len (b := b) (ia := ia) (fi := fi) (fl := fl) (qa := qa) hsz (vu_s f sz (some (.inl (0, k1 + k2 + 1, .inl (fun j => if j < k1 + k2 + 1 then nI (jg k1 g1 k2 g2 s j) else 0))))) (by decide)
    have el2 := o_len (b := b) (ia := ia) (fi := fi) (fl := fl) (qa := qa) hsz frs (by decide)
    have ei := init_ok (b := b) (ia := ia) (fi := fi) (fl := fl) (qa := qa) (f := fr) (c := sz + 1) (sz := sz + 2) (k := k1 + k2 + 1) (N := k1 + k2 + 1) (v1 := sz) (g := jg k1 g1 k2 g2 s) (by omega) (by omega) (by omega) (Nat.le_refl _) hN frc el2 (fun f1 hf1 j hj => by
      rw [o_ldA hsz ((hf1 sz (by omega) (by omega)).trans frs) hj (by omega), if_pos hj])
    unfold f_X0_joined
    simp only [cl_I h1, cl_I h2, Option.bind_some, e0, e1, if_neg e2, wr_vu hsz]
    have e17a : f_X0_joined_17 FU c1 c2 (nI s) sz 0 (wr (SK b) ia fi fl qa (va_up f sz (some (.inl (0, k1 + k2 + 1, .inl (fun _ => 0)))))) (sz + 1) = f_X0_joined_17 1 c1 c2 (nI s) sz (nI (k1 + k2 + 1)) (wr (SK b) ia fi fl qa (va_up f sz (some (.inl (0, k1 + k2 + 1, .inl (fun j => if j < k1 + k2 + 1 then nI (jg k1 g1 k2 g2 s j) else 0)))))) (sz + 1) := e17
    rw [e17a, f_X0_joined_17, el]
    simp only [Option.bind_some, if_pos (Int32.le_refl (nI (k1 + k2 + 1))), wr_vu (show b + 102 ≤ sz + 1 by omega)]
    rw [← hfrr]
    simp only [el2, Option.bind_some, ei]
  · refine ⟨by omega, sz + 2, _, by omega, cl2_c _ _ _ _ _, cl2_s _ _ _ (by omega), fun j hj => if_pos hj⟩
  · have h1 : a ≠ sz := fun e => by
      rw [e, hfr sz (Nat.le_refl _)] at hv
      cases hv
    have h2 : a ≠ sz + 1 := fun e => by
      rw [e, hfr (sz + 1) (by omega)] at hv
      cases hv
    have h3 : a ≠ sz + 2 := fun e => by
      rw [e, hfr (sz + 2) (by omega)] at hv
      cases hv
    rw [cl2_o _ _ _ h2 h3, fro a h1 h2]
    exact hv
  · rw [cl2_o _ _ _ (by omega) (by omega), fro a (by omega) (by omega)]
    exact hfr a (by omega)
end JOINED
