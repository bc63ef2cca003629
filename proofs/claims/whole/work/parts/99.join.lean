/-! join -/
def CResP (b : Nat) (f : mmF) (sz : Nat) (ia fi : Nat → Nat → Int32) (o : Option (Int32 × mmF × Nat)) (v : Int32) (Ω : mO) : Prop := ∃ (ia1 fi1 : Nat → Nat → Int32) (fl1 : Nat → Nat → Int64) (qa1 : Nat → Nat → Option Nat) (f1 : mmF) (sz1 : Nat), o = some (v, wr (SK b) ia1 fi1 fl1 qa1 f1, sz1) ∧ CR b ia1 fi1 qa1 f1 Ω ∧ highE b ia fi ia1 fi1 ∧ sz ≤ sz1 ∧ sz1 ≤ sz + 3 ∧ extM f f1 ∧ fresh f1 sz1
def MethP (b : Nat) (f : mmF) (sz : Nat) (Ω : mO) (C : mmF → Nat → Option (Int32 × mmF × Nat)) (M : mmF → Option (Int32 × mmF)) : Prop := ∃ (v : Int32) (Ω1 : mO), WO Ω1 ∧ (∀ (ia fi : Nat → Nat → Int32) (fl : Nat → Nat → Int64) (qa : Nat → Nat → Option Nat), CR b ia fi qa f Ω → CResP b f sz ia fi (C (wr (SK b) ia fi fl qa f) sz) v Ω1) ∧ (∀ (f' : mmF) (ia fi : Nat → Nat → Int32) (fl : Nat → Nat → Int64) (qa : Nat → Nat → Option Nat), MR b ia fi Ω → MRes b f' ia fi qa (M (wr (SK b) ia fi fl qa f')) v Ω1)
section JOIN
variable {b sz : Nat} {ia fi : Nat → Nat → Int32} {fl : Nat → Nat → Int64} {qa : Nat → Nat → Option Nat} {f f1 : mmF} {Ω : mO}
theorem CResP.same {v : Int32} (h : CR b ia fi qa f Ω) (hf : fresh f sz) : CResP b f sz ia fi (some (v, wr (SK b) ia fi fl qa f, sz)) v Ω := ⟨ia, fi, fl, qa, f, sz, rfl, h, highE_rf, Nat.le_refl _, by omega, extM.rf f, hf⟩
theorem CSt.ext {s : Nat} {σ : mSt} (h : CSt b ia fi qa f s σ) (e : extM f f1) : CSt b ia fi qa f1 s σ := ⟨h.1, fun p hp => by
  rcases h.2 p hp with h1 | ⟨h1, c, h2, h3⟩
  · exact Or.inl h1
  · exact Or.inr ⟨h1, c, h2, h3.ext e⟩⟩
theorem CR.ext (h : CR b ia fi qa f Ω) (e : extM f f1) : CR b ia fi qa f1 Ω := by
  obtain ⟨h1, ⟨ad, hA, hI, hH⟩, h3, ⟨h4, h4b⟩, h5, h6⟩ := h
  exact ⟨h1.ext e, ⟨ad, hA, hI, fun q hq hq4 => (hH q hq hq4).ext e⟩, h3, ⟨h4, fun τ hτ => (h4b τ hτ).ext e⟩, h5, h6⟩
/-- another claim at a place -/
def putS (Ω : mO) (p k : Nat) (g : Nat → Nat) : mSt := (Ω.1.1, Ω.1.2.1, Ω.1.2.2.1, upN Ω.1.2.2.2.1 p k, rw2 Ω.1.2.2.2.2 p g)
theorem WSt.put (w : WSt Ω.1) {p k : Nat} {g : Nat → Nat} (hv : VC k g) : WSt (putS Ω p k g) := by
  refine ⟨w.1, fun q hq h0 => ?_⟩
  show VC (upN Ω.1.2.2.2.1 p k q) (rw2 Ω.1.2.2.2.2 p g q)
  have h0' : 0 < upN Ω.1.2.2.2.1 p k q := h0
  by_cases e : q = p
  · subst e; rw [upN_s, rw2_s]; exact hv
  · rw [upN_n _ e] at h0' ⊢
    rw [rw2_n _ _ e]; exact w.2 q hq h0'
theorem CSt.put (h : CSt b ia fi qa f (b + 1) Ω.1) {p k c : Nat} {g : Nat → Nat} (hc : ClA b f c k g) (h0 : 0 < k) : CSt b ia fi (u2 qa (b + 1 + 3) p (some c)) f (b + 1) (putS Ω p k g) := by
  refine ⟨h.1, fun q hq => ?_⟩
  show (upN Ω.1.2.2.2.1 p k q = 0 ∧ _) ∨ (0 < upN Ω.1.2.2.2.1 p k q ∧ ∃ c, _ ∧ ClA b f c (upN Ω.1.2.2.2.1 p k q) (rw2 Ω.1.2.2.2.2 p g q))
  by_cases e : q = p
  · subst e
    rw [upN_s, rw2_s]
    exact Or.inr ⟨h0, c, u2_s _ _ _ _, hc⟩
  · rw [upN_n _ e, rw2_n _ _ e, u2_i _ _ e]
    exact h.2 q hq
/-- the row with another claim -/
def putR (R : Nat → Int32) (p k : Nat) (g : Nat → Nat) : Nat → Int32 := fun j => if j = 17 + 31 * p then nI k else if 17 + 31 * p < j ∧ j < 18 + 31 * p + k then nI (g (j - (18 + 31 * p))) else R j
theorem MSt.put (w : WSt Ω.1) {R : Nat → Int32} (h : MSt R Ω.1) {p k : Nat} {g : Nat → Nat} (hp : p < 5) (hk : k ≤ 30) : MSt (putR R p k g) (putS Ω p k g) := by
  have n8' := w.1.2.1
  have out : ∀ j : Nat, j < 17 + 31 * p ∨ 18 + 31 * p + k ≤ j → putR R p k g j = R j := fun j hj => by
    unfold putR
    rw [if_neg (by omega), if_neg (by omega)]
  refine ⟨⟨(out 16 (by omega)).trans h.1.1, fun i hi => ?_⟩, fun q hq => ⟨?_, fun j hj => ?_⟩⟩
  · have hi' : i < Ω.1.1 := hi
    rw [out i (by omega), out (8 + i) (by omega)]
    exact h.1.2 i hi
  · show _ = nI (upN Ω.1.2.2.2.1 p k q)
    by_cases e : q = p
    · subst e
      rw [upN_s]
      exact if_pos rfl
    · rw [upN_n _ e, out _ (by omega)]
      exact (h.2 q hq).1
  · show _ = nI (rw2 Ω.1.2.2.2.2 p g q j)
    have hj' : j < upN Ω.1.2.2.2.1 p k q := hj
    by_cases e : q = p
    · subst e
      rw [upN_s] at hj'
      rw [rw2_s]
      unfold putR
      rw [if_neg (by omega), if_pos (by omega), show 17 + 31 * q + (1 + j) - (18 + 31 * q) = j by omega]
    · rw [upN_n _ e] at hj'
      have := w.k30 hq
      rw [rw2_n _ _ e, out _ (by omega)]
      exact (h.2 q hq).2 j hj'
theorem m_puts {l : Nat} {x : Int32} (hl : fi (b + 83) 11 = nI l) (h31 : l < 31) : f_X10_puts (b + 83) x (wr (SK b) ia fi fl qa f) = some (wr (SK b) (u2 ia (b + 90) l x) (u2 fi (b + 83) 11 (nI (l + 1))) fl qa f) := by
  unfold f_X10_puts
  simp only [R_83_10, I_83_11, Option.bind_some, hl, sAn_90 h31, nI_1, sI_83_11]
theorem m_takes_10 {base k l : Nat} {g : Nat → Nat} (hb : base + k < 172) (hrow : ia (b + 84) base = nI k) (hg : ∀ j, j < k → ia (b + 84) (base + (1 + j)) = nI (g j)) (hl : l + k ≤ 31) : ∀ (m i q : Nat), i + m = k → m < q → f_X10_takes_10 q (b + 83) (nI base) (nI (1 + i)) (wr (SK b) (rw2 ia (b + 90) (fun j => if l ≤ j ∧ j < l + i then nI (g (j - l)) else ia (b + 90) j)) (u2 fi (b + 83) 11 (nI (l + i))) fl qa f) = some (wr (SK b) (rw2 ia (b + 90) (fun j => if l ≤ j ∧ j < l + k then nI (g (j - l)) else ia (b + 90) j)) (u2 fi (b + 83) 11 (nI (l + k))) fl qa f) := by
  have e06 : b + 84 ≠ b + 90 := by omega
  intro m
  induction m with
  | zero =>
    intro i q hi hq
    obtain ⟨q, rfl⟩ : ∃ k, q = k + 1 := ⟨q - 1, by omega⟩
    have hik : i = k := by omega
    subst hik
    rw [f_X10_takes_10]
    simp only [R_83_0, An_84 (show base < 172 by omega), Option.bind_some, rw2_n _ _ e06, hrow]
    rw [if_pos (show nI i < nI (1 + i) from nI_lt (by omega) (by omega))]
  | succ m ih =>
    intro i q hi hq
    obtain ⟨q, rfl⟩ : ∃ k, q = k + 1 := ⟨q - 1, by omega⟩
    have hik : i < k := by omega
    have hlt : ¬ nI k < nI (1 + i) := nI_nlt (by omega) (by omega)
    have hat : nI base + nI (1 + i) = nI (base + (1 + i)) := nI_add _ _
    have ep := m_puts (b := b) (ia := rw2 ia (b + 90) (fun j => if l ≤ j ∧ j < l + i then nI (g (j - l)) else ia (b + 90) j)) (fi := u2 fi (b + 83) 11 (nI (l + i))) (fl := fl) (qa := qa) (f := f) (l := l + i) (x := nI (g i)) (u2_s _ _ _ _) (by omega)
    rw [f_X10_takes_10]
    simp only [R_83_0, An_84 (show base < 172 by omega), Option.bind_some, rw2_n _ _ e06, hrow, if_neg hlt, hat, An_84 (show base + (1 + i) < 172 by omega), hg i hik, ck_83, ep, nI_1]
    have e1 : u2 (rw2 ia (b + 90) (fun j => if l ≤ j ∧ j < l + i then nI (g (j - l)) else ia (b + 90) j)) (b + 90) (l + i) (nI (g i)) = rw2 ia (b + 90) (fun j => if l ≤ j ∧ j < l + (i + 1) then nI (g (j - l)) else ia (b + 90) j) := by
      rw [u2_rw2]
      congr 1
      funext j
      by_cases h1 : j = l + i
      · subst h1
        rw [if_pos rfl, if_pos (by omega), show l + i - l = i by omega]
      · rw [if_neg h1]
        by_cases h2 : l ≤ j ∧ j < l + i
        · rw [if_pos h2, if_pos (by omega)]
        · rw [if_neg h2, if_neg (by omega)]
    have e2 : u2 (u2 fi (b + 83) 11 (nI (l + i))) (b + 83) 11 (nI (l + i + 1)) = u2 fi (b + 83) 11 (nI (l + (i + 1))) := by
      funext p j
      by_cases h : p = b + 83 ∧ j = 11 <;> simp [u2, h, Nat.add_assoc]
    rw [e1, e2, show 1 + i + 1 = 1 + (i + 1) by omega]
    exact ih (i + 1) q (by omega) (by omega)
theorem m_takes {p k l : Nat} {g : Nat → Nat} (hp : p < 5) (hk : k ≤ 30) (hrow : ia (b + 84) (17 + 31 * p) = nI k) (hg : ∀ j, j < k → ia (b + 84) (17 + 31 * p + (1 + j)) = nI (g j)) (hl : l + k ≤ 31) (hll : fi (b + 83) 11 = nI l) : f_X10_takes (b + 83) (nI p) (wr (SK b) ia fi fl qa f) = some (wr (SK b) (rw2 ia (b + 90) (fun j => if l ≤ j ∧ j < l + k then nI (g (j - l)) else ia (b + 90) j)) (u2 fi (b + 83) 11 (nI (l + k))) fl qa f) := by
  obtain ⟨q, hq⟩ := FU_1000
  have e := m_takes_10 (fi := fi) (fl := fl) (qa := qa) (f := f) (show 17 + 31 * p + k < 172 by omega) hrow hg hl k 0 FU (by omega) (by omega)
  have e1 : (fun j => if l ≤ j ∧ j < l + 0 then nI (g (j - l)) else ia (b + 90) j) = ia (b + 90) := by
    funext j
    exact if_neg (by omega)
  have e2 : u2 fi (b + 83) 11 (nI (l + 0)) = fi := by
    funext p j
    by_cases h : p = b + 83 ∧ j = 11
    · simp only [u2, if_pos h]
      rw [h.1, h.2]
      exact hll.symm
    · simp only [u2, if_neg h]
  rw [e1, e2, rw2_id] at e
  unfold f_X10_takes
  rw [at17]
  exact e
theorem m_lays_20 {p k : Nat} (hp : p < 5) (hk : k ≤ 30) (hl : fi (b + 83) 11 = nI k) {g : Nat → Nat} (hs : ∀ j, j < k → ia (b + 90) j = nI (g j)) {R : Nat → Int32} : ∀ (m i q : Nat), i + m = k → m < q → f_X10_lays_20 q (b + 83) (nI (17 + 31 * p)) (nI i) (wr (SK b) (rw2 ia (b + 84) (fun j => if j = 17 + 31 * p then nI k else if 17 + 31 * p < j ∧ j < 18 + 31 * p + i then nI (g (j - (18 + 31 * p))) else R j)) fi fl qa f) = some (wr (SK b) (rw2 ia (b + 84) (putR R p k g)) fi fl qa f) := by
  have e60 : b + 90 ≠ b + 84 := by omega
  intro m
  induction m with
  | zero =>
    intro i q hi hq
    obtain ⟨q, rfl⟩ : ∃ k, q = k + 1 := ⟨q - 1, by omega⟩
    have hik : i = k := by omega
    subst hik
    rw [f_X10_lays_20]
    simp only [I_83_11, Option.bind_some, hl]
    rw [if_pos (Int32.le_refl _)]
    rfl
  | succ m ih =>
    intro i q hi hq
    obtain ⟨q, rfl⟩ : ∃ k, q = k + 1 := ⟨q - 1, by omega⟩
    have hik : i < k := by omega
    have hlt : ¬ nI k ≤ nI i := nI_ge hik (by omega)
    have hat : nI (17 + 31 * p + 1) + nI i = nI (18 + 31 * p + i) := by rw [nI_add]; congr 1; omega
    rw [f_X10_lays_20]
    simp only [I_83_11, Option.bind_some, hl, if_neg hlt, R_83_0, R_83_10, An_90 (show i < 31 by omega), rw2_n _ _ e60, hs i hik, hat, sAn_84 (show 18 + 31 * p + i < 172 by omega), u2_rw2, nI_1]
    have e1 : (fun j => if j = 18 + 31 * p + i then nI (g i) else if j = 17 + 31 * p then nI k else if 17 + 31 * p < j ∧ j < 18 + 31 * p + i then nI (g (j - (18 + 31 * p))) else R j) = fun j => if j = 17 + 31 * p then nI k else if 17 + 31 * p < j ∧ j < 18 + 31 * p + (i + 1) then nI (g (j - (18 + 31 * p))) else R j := by
      funext j
      by_cases h1 : j = 18 + 31 * p + i
      · subst h1
        rw [if_pos rfl, if_neg (by omega), if_pos (by omega), show 18 + 31 * p + i - (18 + 31 * p) = i by omega]
      · rw [if_neg h1]
        by_cases h2 : j = 17 + 31 * p
        · rw [if_pos h2, if_pos h2]
        · rw [if_neg h2, if_neg h2]
          by_cases h3 : 17 + 31 * p < j ∧ j < 18 + 31 * p + i
          · rw [if_pos h3, if_pos (by omega)]
          · rw [if_neg h3, if_neg (by omega)]
    rw [e1]
    exact ih (i + 1) q (by omega) (by omega)
theorem m_lays {p k : Nat} (hp : p < 5) (hk : k ≤ 30) (hl : fi (b + 83) 11 = nI k) {g : Nat → Nat} (hs : ∀ j, j < k → ia (b + 90) j = nI (g j)) : f_X10_lays (b + 83) (nI p) (wr (SK b) ia fi fl qa f) = some (wr (SK b) (rw2 ia (b + 84) (putR (ia (b + 84)) p k g)) fi fl qa f) := by
  obtain ⟨q, hq⟩ := FU_1000
  have e := m_lays_20 (fl := fl) (qa := qa) (f := f) hp hk hl hs (R := ia (b + 84)) k 0 FU (by omega) (by omega)
  have e1 : (fun j => if j = 17 + 31 * p then nI k else if 17 + 31 * p < j ∧ j < 18 + 31 * p + 0 then nI (g (j - (18 + 31 * p))) else ia (b + 84) j) = fun j => if j = 17 + 31 * p then nI k else ia (b + 84) j := by
    funext j
    by_cases h : j = 17 + 31 * p
    · rw [if_pos h, if_pos h]
    · rw [if_neg h, if_neg h, if_neg (by omega)]
  rw [e1] at e
  unfold f_X10_lays
  simp only [R_83_0, I_83_11, Option.bind_some, hl, at17, sAn_84 (show 17 + 31 * p < 172 by omega), u2_is]
  exact e
end JOIN
