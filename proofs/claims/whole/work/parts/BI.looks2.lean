section LOOKS2
variable {b : Nat} {ia fi : Nat → Nat → Int32} {fl : Nat → Nat → Int64} {qa : Nat → Nat → Option Nat} {f : mmF} {op lf rt : Nat → Nat}
/-- all but the cells of one part -/
def frC (d : Nat) (R R1 : Nat → Int32) : Prop := ∀ i, (i < 91 * d ∨ 91 * d + 91 ≤ i) → R1 i = R i
def dnC (op lf rt : Nat → Nat) (d : Nat) (R : Nat → Int32) (k w t : Nat) : Prop := ∀ k' s' w', k' < 4 → s' < kS k' → w' < kW k' → (k' < k ∨ k' = k ∧ (w' < w ∨ w' = w ∧ t ≤ s')) → cellOk R d k' s' w' (fun m => tQ op lf rt k' m d)
theorem cellOk.fr {R R1 : Nat → Int32} {d d' k s w : Nat} {val : Nat → Bool × Bool × Bool} (h : cellOk R d' k s w val) (hk : k < 4) (hs : s < kS k) (hw : w < kW k) (hd : d' ≠ d) (e : frC d R R1) : cellOk R1 d' k s w val := by
  obtain ⟨X, x1, x2, x3⟩ := h
  have := at_lt hk hs hw
  refine ⟨X, x1, ?_, x3⟩
  rw [e _ (by omega)]
  exact x2
theorem frC.rf {d : Nat} {R : Nat → Int32} : frC d R R := fun _ _ => rfl
theorem frC.tr {d : Nat} {R R1 R2 : Nat → Int32} (h : frC d R R1) (h2 : frC d R1 R2) : frC d R R2 := fun i hi => (h2 i hi).trans (h i hi)
def dn1 (t : Nat) : Int32 := if t = 0 then -1 else nI (t - 1)
theorem dn1_s (t : Nat) : dn1 (t + 1) + (-1) = dn1 t := by
  unfold dn1
  rw [if_neg (by omega), Nat.add_sub_cancel]
  cases t with
  | zero => rfl
  | succ t => rw [if_neg (by omega), pk_m1]; rfl
/-- what a part's word is made of -/
def pcs (R : Nat → Int32) (op lf rt : Nat → Nat) (d : Nat) : Prop := 6 ≤ op d → ∀ k s w, k < 4 → s < kS k → w < kW k → cellOk R (lf d) k s w (fun m => tQ op lf rt k m (lf d)) ∧ cellOk R (rt d) k s w (fun m => tQ op lf rt k m (rt d))
theorem looks_41 {d k w : Nat} (hd : d < 1000) (hk : k < 4) (hw : w < kW k) (ho : RPo (d + 1) op lf rt) (hop : ia (b + 93) d = nI (op d)) (hlf : ia (b + 94) d = nI (lf d)) (hrt : ia (b + 95) d = nI (rt d)) (k2 : Nat → Int32 → Int32 → mmF → Option (mmF)) (k29 : Nat → Int32 → Int32 → Int32 → Int32 → Int32 → mmF → Option (mmF)) : ∀ (t q : Nat) (R : Nat → Int32), t ≤ kS k → t < q → pcs R op lf rt d → dnC op lf rt d R k w t → ∃ R1, f_X10_looksAt_41 k2 k29 q (b + 83) (nI d) (nI k) (nI (kW k)) (nI (kS k)) (nI w) (dn1 t) (wr (SK b) (rw2 ia (b + 96) R) fi fl qa f) = k29 (b + 83) (nI d) (nI k) (nI (kW k)) (nI (kS k)) (nI (w + 1)) (wr (SK b) (rw2 ia (b + 96) R1) fi fl qa f) ∧ frC d R R1 ∧ dnC op lf rt d R1 k (w + 1) (kS k) := by
  obtain ⟨w1, w2, w3, w4, w5, w6⟩ := kW_lt hk
  have hlfd : lf d < 1000 ∧ rt d < 1000 ∧ op d < 10 := by
    rcases ho.1 d (by omega) with h | h | h <;> omega
  have hbn : 6 ≤ op d → lf d ≠ d ∧ rt d ≠ d := fun h6 => by
    obtain ⟨o1, o2, o3, o4, o5, o6, o7, o8, o9⟩ := ho.two (Nat.lt_succ_self d) h6
    omega
  have n99 : b + 93 ≠ b + 96 := by omega
  have n100 : b + 94 ≠ b + 96 := by omega
  have n101 : b + 95 ≠ b + 96 := by omega
  intro t
  induction t with
  | zero =>
    intro q R ht hq hp hdn
    obtain ⟨q, rfl⟩ : ∃ k, q = k + 1 := ⟨q - 1, by omega⟩
    refine ⟨R, ?_, frC.rf, fun k' s' w' a1 a2 a3 a4 => hdn k' s' w' a1 a2 a3 (by
      rcases a4 with h | ⟨h, h2⟩
      · exact Or.inl h
      · subst h
        exact Or.inr ⟨rfl, by omega⟩)⟩
    rw [f_X10_looksAt_41, if_pos (show dn1 0 < 0 by decide), nI_1]
  | succ s ih =>
    intro q R ht hq hp hdn
    obtain ⟨q, rfl⟩ : ∃ k, q = k + 1 := ⟨q - 1, by omega⟩
    have hs : s < kS k := by omega
    have ha := at_lt hk hs hw
    have e1 : dn1 (s + 1) = nI s := by unfold dn1; rw [if_neg (by omega), Nat.add_sub_cancel]
    have eat : nI (kB k) + nI (kW k) * nI s + nI w = nI (kB k + kW k * s + w) := by rw [pk_mul, nI_add, nI_add]
    have ei : (91 : Int32) * nI d + nI (kB k + kW k * s + w) = nI (91 * d + (kB k + kW k * s + w)) := by rw [show (91 : Int32) = nI 91 from rfl, pk_mul, nI_add]
    -- the word, once told, is written
    have next : ∀ X : Nat, X < 2 ^ 32 → (∀ j, j < 32 → 32 * w + j < kM k → X.testBit j = cmp s (tQ op lf rt k (32 * w + j) d)) → ∃ R1, f_X10_looksAt_108 k2 k29 (fun a0 a1 a2 a3 a4 a5 a6 a7 => f_X10_looksAt_41 k2 k29 q a0 a1 a2 a3 a4 a5 a6 a7) (b + 83) (nI d) (nI k) (nI (kW k)) (nI (kS k)) (nI w) (dn1 (s + 1)) (b + 96) (nI (91 * d + (kB k + kW k * s + w))) (nI X) (wr (SK b) (rw2 ia (b + 96) R) fi fl qa f) = k29 (b + 83) (nI d) (nI k) (nI (kW k)) (nI (kS k)) (nI (w + 1)) (wr (SK b) (rw2 ia (b + 96) R1) fi fl qa f) ∧ frC d R R1 ∧ dnC op lf rt d R1 k (w + 1) (kS k) := by
      intro X hX hb
      have hfr : frC d R (fun j => if j = 91 * d + (kB k + kW k * s + w) then nI X else R j) := fun i hi => if_neg (by omega)
      obtain ⟨R1, r1, r2, r3⟩ := ih q (fun j => if j = 91 * d + (kB k + kW k * s + w) then nI X else R j) (by omega) (by omega) (fun h6 k' s' w' a1 a2 a3 => ⟨(hp h6 k' s' w' a1 a2 a3).1.fr a1 a2 a3 (hbn h6).1 hfr, (hp h6 k' s' w' a1 a2 a3).2.fr a1 a2 a3 (hbn h6).2 hfr⟩) (fun k' s' w' a1 a2 a3 a4 => by
        by_cases e : kB k' + kW k' * s' + w' = kB k + kW k * s + w
        · obtain ⟨rfl, rfl, rfl⟩ := at_inj a1 a2 a3 hk hs hw e
          exact ⟨X, hX, if_pos rfl, hb⟩
        · have hlt : k' < k ∨ k' = k ∧ (w' < w ∨ w' = w ∧ s + 1 ≤ s') := by
            rcases a4 with a4 | ⟨a4, a5 | ⟨a5, a6⟩⟩
            · exact Or.inl a4
            · exact Or.inr ⟨a4, Or.inl a5⟩
            · by_cases es : s' = s
              · subst a4 a5 es; exact absurd rfl e
              · exact Or.inr ⟨a4, Or.inr ⟨a5, by omega⟩⟩
          obtain ⟨Y, y1, y2, y3⟩ := hdn k' s' w' a1 a2 a3 hlt
          exact ⟨Y, y1, (if_neg (by omega)).trans y2, y3⟩)
      refine ⟨R1, ?_, hfr.tr r2, r3⟩
      unfold f_X10_looksAt_108
      simp only [sAn_96 (show 91 * d + (kB k + kW k * s + w) < 91000 by omega), Option.bind_some, u2_rw2, dn1_s]
      exact r1
    rw [f_X10_looksAt_41, if_neg (show ¬ dn1 (s + 1) < 0 by rw [e1]; exact nI_pos (by omega))]
    simp only [begin_t hk, R_83_18, R_83_15, An_93 hd, rw2_n _ _ n99, hop, Option.bind_some, e1, eat, ei]
    by_cases h4 : op d < 4
    · rw [if_neg (show ¬ (4 : Int32) ≤ nI (op d) from nI_ge (b := 4) h4 (by decide))]
      obtain ⟨X, x1, x2, x3⟩ := fword_t (f := wr (SK b) (rw2 ia (b + 96) R) fi fl qa f) (w := w) hk (show s < 3 by omega) (by omega) h4
      simp only [x2, Option.bind_some]
      rw [← e1]
      refine next X x1 (fun j hj hm => ?_)
      have e : tQ op lf rt k (32 * w + j) d = b3Lf (vl k (32 * w + j) 0) (vl k (32 * w + j) (s1 k)) (vl k (32 * w + j) (s2 k)) (op d) := qv_lf (by omega)
      rw [x3 j hj, decide_eq_true hm, Bool.true_and, e]
      unfold cmp b3Lf
      rw [if_pos h4]
      by_cases c0 : s = 0
      · rw [if_pos c0, c0]; exact (vl_bit k _ 0 h4).symm
      · rw [if_neg c0]
        by_cases c1 : s = 1
        · have : s1 k = 1 := by
            rcases k4 hk with rfl | rfl | rfl | rfl
            · rw [show kS 0 = 1 from rfl] at hs; omega
            · rfl
            · rfl
            · rfl
          rw [if_pos c1, c1, this]; exact (vl_bit k _ 1 h4).symm
        · have hs2 : s = 2 := by omega
          have : s2 k = 2 := by
            rcases k4 hk with rfl | rfl | rfl | rfl
            · rw [show kS 0 = 1 from rfl] at hs; omega
            · rw [show kS 1 = 2 from rfl] at hs; omega
            · rfl
            · rfl
          rw [if_neg c1, hs2, this]; exact (vl_bit k _ 2 h4).symm
    · rw [if_pos (show (4 : Int32) ≤ nI (op d) from nI_le (a := 4) (by omega) (by omega))]
      obtain ⟨X, x1, x2, x3⟩ := made_t (ia := rw2 ia (b + 96) R) (fi := fi) (fl := fl) (qa := qa) (f := f) (b := b) hd hk hs hw ho (by rw [rw2_n _ _ n99]; exact hop) (by rw [rw2_n _ _ n100]; exact hlf) (by rw [rw2_n _ _ n101]; exact hrt) (by omega) (fun h6 => by rw [rw2_s]; exact (hp h6 k s w hk hs hw).1) (fun h6 => by rw [rw2_s]; exact (hp h6 k s w hk hs hw).2) (fun h9 s' a1 a2 => by rw [rw2_s]; exact hdn k s' w hk a2 hw (Or.inr ⟨rfl, Or.inr ⟨rfl, a1⟩⟩))
      simp only [ck_83, x2, Option.bind_some]
      rw [← e1]
      exact next X x1 x3
theorem looks_29 {d k : Nat} (hd : d < 1000) (hk : k < 4) (ho : RPo (d + 1) op lf rt) (hop : ia (b + 93) d = nI (op d)) (hlf : ia (b + 94) d = nI (lf d)) (hrt : ia (b + 95) d = nI (rt d)) (k2 : Nat → Int32 → Int32 → mmF → Option (mmF)) : ∀ (n w q : Nat) (R : Nat → Int32), w + n = kW k → n < q → pcs R op lf rt d → dnC op lf rt d R k w (kS k) → ∃ R1, f_X10_looksAt_29 k2 q (b + 83) (nI d) (nI k) (nI (kW k)) (nI (kS k)) (nI w) (wr (SK b) (rw2 ia (b + 96) R) fi fl qa f) = k2 (b + 83) (nI d) (nI (k + 1)) (wr (SK b) (rw2 ia (b + 96) R1) fi fl qa f) ∧ frC d R R1 ∧ dnC op lf rt d R1 (k + 1) 0 (kS (k + 1)) := by
  obtain ⟨w1, w2, w3, w4, w5, w6⟩ := kW_lt hk
  obtain ⟨qf, hqf⟩ := FU_1000
  have hbn : 6 ≤ op d → lf d ≠ d ∧ rt d ≠ d := fun h6 => by
    obtain ⟨o1, o2, o3, o4, o5, o6, o7, o8, o9⟩ := ho.two (Nat.lt_succ_self d) h6
    omega
  intro n
  induction n with
  | zero =>
    intro w q R hw hq hp hdn
    obtain ⟨q, rfl⟩ : ∃ k, q = k + 1 := ⟨q - 1, by omega⟩
    have e : w = kW k := by omega
    subst e
    refine ⟨R, ?_, frC.rf, fun k' s' w' a1 a2 a3 a4 => ?_⟩
    · rw [f_X10_looksAt_29, if_pos (Int32.le_refl _), nI_1]
    · refine hdn k' s' w' a1 a2 a3 ?_
      rcases a4 with a4 | ⟨a4, a5 | ⟨a5, a6⟩⟩
      · by_cases ek : k' = k
        · subst ek; exact Or.inr ⟨rfl, Or.inl a3⟩
        · exact Or.inl (by omega)
      · omega
      · rw [a4] at a2; omega
  | succ n ih =>
    intro w q R hw hq hp hdn
    obtain ⟨q, rfl⟩ : ∃ k, q = k + 1 := ⟨q - 1, by omega⟩
    have hlt : w < kW k := by omega
    obtain ⟨R1, r1, r2, r3⟩ := looks_41 (fi := fi) (fl := fl) (qa := qa) (f := f) hd hk hlt ho hop hlf hrt k2 (fun a0 a1 a2 a3 a4 a5 a6 => f_X10_looksAt_29 k2 q a0 a1 a2 a3 a4 a5 a6) (kS k) FU R (Nat.le_refl _) (by omega) hp (fun k' s' w' a1 a2 a3 a4 => hdn k' s' w' a1 a2 a3 a4)
    obtain ⟨R2, j1, j2, j3⟩ := ih (w + 1) q R1 (by omega) (by omega) (fun h6 k' s' w' a1 a2 a3 => ⟨(hp h6 k' s' w' a1 a2 a3).1.fr a1 a2 a3 (hbn h6).1 r2, (hp h6 k' s' w' a1 a2 a3).2.fr a1 a2 a3 (hbn h6).2 r2⟩) r3
    refine ⟨R2, ?_, r2.tr j2, j3⟩
    have es : nI (kS k) - (1 : Int32) = dn1 (kS k) := by
      unfold dn1
      rw [if_neg (by omega), show (1 : Int32) = nI 1 from rfl, pk_sub (by omega)]
    rw [f_X10_looksAt_29, if_neg (nI_ge hlt (by omega)), es, r1]
    exact j1
end LOOKS2
