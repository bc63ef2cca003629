/-! claim 4 and 7: facts, depth, of objects -/
def fcN (g : Nat → Nat) : Nat → Nat := fun n => fo (fun j x => x ||| (if g j < 4 then 2 ^ g j else 0)) n 0
theorem and15s : ∀ s : Nat, s < 6 → (2 ^ s : Nat) &&& 15 = if s < 4 then 2 ^ s else 0 := by decide
theorem uLf_15 {U : Nat} (hU : U &&& 15 = 0) (g : Nat → Nat) : ∀ n, uLf g U n &&& 15 = fcN g n := by
  intro n
  induction n with
  | zero => exact hU
  | succ n ih =>
    show (uLf g U n ||| (if g n < 6 then 2 ^ g n else 0)) &&& 15 = fcN g n ||| (if g n < 4 then 2 ^ g n else 0)
    rw [Nat.and_or_distrib_right, ih]
    congr 1
    by_cases h6 : g n < 6
    · rw [if_pos h6]; exact and15s _ h6
    · rw [if_neg h6, if_neg (by omega), Nat.zero_and]
theorem ULp_1 (K : Nat → Nat) (G : Nat → Nat → Nat) {p : Nat} (h0 : 0 < K p) : ∀ m, ULp K G (2 ^ p) m = if p < m then uLf (G p) 0 (K p) else 0 := by
  intro m
  induction m with
  | zero => rfl
  | succ m ih =>
    rw [ULp]
    by_cases hmp : m = p
    · subst hmp
      rw [if_pos (show selP K (2 ^ m) m from ⟨h0, by rw [Nat.testBit_two_pow]; exact decide_eq_true rfl⟩), ih, if_neg (Nat.lt_irrefl m), if_pos (Nat.lt_succ_self m)]
    · rw [if_neg (show ¬ selP K (2 ^ p) m from fun hs => by
        have := hs.2
        rw [Nat.testBit_two_pow] at this
        exact hmp (of_decide_eq_true this).symm), ih]
      by_cases hlt : p < m
      · rw [if_pos hlt, if_pos (by omega)]
      · rw [if_neg hlt, if_neg (by omega)]
section FACTS
variable {b : Nat} {ia fi : Nat → Nat → Int32} {fl : Nat → Nat → Int64} {qa : Nat → Nat → Option Nat} {f : mmF} {Ω : mO}
theorem m_facts_13 {base k : Nat} {g : Nat → Nat} (hb : base + k < 172) (hrow : ia (b + 84) base = nI k) (hg : ∀ j, j < k → ia (b + 84) (base + (1 + j)) = nI (g j)) (hg10 : ∀ j, j < k → g j < 10) : ∀ (m i q : Nat), i + m = k → m < q → f_X10_factsIn_13 (wr (SK b) ia fi fl qa f) q (b + 83) (nI base) (nI (fcN g i)) (nI (1 + i)) = some (nI (fcN g k)) := by
  intro m
  induction m with
  | zero =>
    intro i q hi hm
    obtain ⟨q, rfl⟩ : ∃ k, q = k + 1 := ⟨q - 1, by omega⟩
    have hik : i = k := by omega
    subst hik
    rw [f_X10_factsIn_13]
    simp only [R_83_0, An_84 (show base < 172 by omega), Option.bind_some, hrow, if_pos (show nI i < nI (1 + i) from nI_lt (by omega) (by omega))]
  | succ m ih =>
    intro i q hi hm
    obtain ⟨q, rfl⟩ : ∃ k, q = k + 1 := ⟨q - 1, by omega⟩
    have hik : i < k := by omega
    have hlt : ¬ nI k < nI (1 + i) := nI_nlt (by omega) (by omega)
    have hat : nI base + nI (1 + i) = nI (base + (1 + i)) := nI_add _ _
    have g10 := hg10 i hik
    rw [f_X10_factsIn_13]
    simp only [R_83_0, An_84 (show base < 172 by omega), Option.bind_some, hrow, if_neg hlt, hat, An_84 (show base + (1 + i) < 172 by omega), hg i hik]
    rw [← ih (i + 1) q (by omega) (by omega)]
    show _ = f_X10_factsIn_13 _ q (b + 83) (nI base) (nI (fcN g i ||| (if g i < 4 then 2 ^ g i else 0))) (nI (1 + i + 1))
    unfold f_X10_factsIn_53
    by_cases h4 : g i < 4
    · rw [if_neg (show ¬ (4 : Int32) ≤ nI (g i) from nI_ge (b := 4) h4 (by decide)), if_pos h4, bt_shl (show g i < 32 by omega), fa_or, nI_1]
    · rw [if_pos (show (4 : Int32) ≤ nI (g i) from nI_le (a := 4) (by omega) (by omega)), if_neg h4, show (0 : Int32) = nI 0 from rfl, fa_or, nI_1]
theorem M_facts (h : MR b ia fi Ω) (w : WO Ω) {p : Nat} (hp : p < 5) (h0 : 0 < Ω.1.2.2.2.1 p) : f_X10_factsIn (b + 83) (nI p) (wr (SK b) ia fi fl qa f) = some (nI (fcN (Ω.1.2.2.2.2 p) (Ω.1.2.2.2.1 p))) := by
  obtain ⟨q, hq⟩ := FU_1000
  have hv := w.1.2 p hp h0
  have k30 := hv.2.1
  unfold f_X10_factsIn
  rw [at17]
  exact m_facts_13 (show 17 + 31 * p + Ω.1.2.2.2.1 p < 172 by omega) (h.1.2 p hp).1 (h.1.2 p hp).2 (fun j hj => (hv.2.2.1 j hj).1) (Ω.1.2.2.2.1 p) 0 FU (by omega) (by omega)
theorem M_depth (h : MR b ia fi Ω) (w : WO Ω) {p : Nat} (hp : p < 5) (h0 : 0 < Ω.1.2.2.2.1 p) : ∃ (ia1 : Nat → Nat → Int32), f_X10_depth (b + 83) (nI p) (wr (SK b) ia fi fl qa f) = some (nI (dN (Ω.1.2.2.2.2 p) (Ω.1.2.2.2.1 p - 1)), wr (SK b) ia1 fi fl qa f) ∧ MR b ia1 fi Ω ∧ lowE b ia fi ia1 fi := by
  obtain ⟨q, hq⟩ := FU_1000
  have hv := w.1.2 p hp h0
  have k30 := hv.2.1
  obtain ⟨R1, hR⟩ := m_dep_13 (fi := fi) (fl := fl) (qa := qa) (f := f) (show 17 + 31 * p + Ω.1.2.2.2.1 p < 172 by omega) (h.1.2 p hp).1 (h.1.2 p hp).2 hv (Ω.1.2.2.2.1 p) 0 FU (ia (b + 92)) (by omega) (by omega) (fun d hd => absurd hd (Nat.not_lt_zero _))
  rw [rw2_id] at hR
  have hS := h.scr (ia1 := rw2 ia (b + 92) R1) (fi1 := fi) (fun a ha => rw2_n _ _ (by omega)) (fun a j ha => rfl)
  refine ⟨_, ?_, hS.1, hS.2⟩
  unfold f_X10_depth
  rw [at17]
  exact hR
theorem C_facts {S p : Nat} {kd lf rt : Nat → Nat} {Pn : Nat → Nat → Nat} (h0 : 0 < Ω.1.2.2.2.1 p) (hp : p < 5) (ht : TK b ia fi Ω.1.2.2.2.1 Ω.1.2.2.2.2 (2 ^ p) S kd lf rt Pn 5) : f_X4_usedFacts (b + 22) (wr (SK b) ia fi fl qa f) = some (nI (fcN (Ω.1.2.2.2.2 p) (Ω.1.2.2.2.1 p))) := by
  unfold f_X4_usedFacts
  simp only [I_22_5, Option.bind_some, ht.2.2.2.1]
  rw [show (15 : Int32) = nI 15 from rfl, fa_and, ULp_1 _ _ h0, if_pos hp, uLf_15 (Nat.zero_and 15)]
theorem C_depth (h : CR b ia fi qa f Ω) (w : WO Ω) {W S : Nat} {kd lf rt : Nat → Nat} {Pn : Nat → Nat → Nat} (ht : TK b ia fi Ω.1.2.2.2.1 Ω.1.2.2.2.2 W S kd lf rt Pn 5) {p : Nat} (hp : p < 5) (hs : selP Ω.1.2.2.2.1 W p) : ∃ ia1 : Nat → Nat → Int32, f_X4_depth (b + 22) (nI p) (wr (SK b) ia fi fl qa f) = some (nI (dN (Ω.1.2.2.2.2 p) (Ω.1.2.2.2.1 p - 1)), wr (SK b) ia1 fi fl qa f) ∧ CR b ia1 fi qa f Ω ∧ highE b ia fi ia1 fi := by
  obtain ⟨qf, hqf⟩ := FU_1000
  have hv := w.1.2 p hp hs.1
  have hw : ∀ R : Nat → Int32, f_X4_whole (b + 22) (nI p) (wr (SK b) (rw2 ia (b + 28) R) fi fl qa f) = some (nI (Pn p (Ω.1.2.2.2.1 p - 1))) := fun R => by
    have hS := h.scr2 (ia1 := rw2 ia (b + 28) R) (fi1 := fi) (fun a ha => rw2_n _ _ (by omega)) (fun i hi => by rw [rw2_n _ _ (by omega)]) (fun a j ha => rfl)
    exact (C_with (fl := fl) hS.1 w (ht.cg (fun a h1 h2 => rw2_n _ _ (by omega)) rfl) hp hs).1
  obtain ⟨t1, t2, t3, t4, t5⟩ := ht
  rcases t5 p hp with ⟨_, hN, _⟩ | ⟨hn, _⟩
  · have hz := (hN (Ω.1.2.2.2.1 p - 1) (by have := hs.1; omega)).1
    obtain ⟨R1, hR⟩ := c_dep_2 (fl := fl) (qa := qa) (f := f) hw hz t1 t2 S 0 FU (ia (b + 28)) (by omega) (by have := t2.2.1; omega) (fun d hd => absurd hd (Nat.not_lt_zero _))
    rw [rw2_id] at hR
    have hS := h.scr2 (ia1 := rw2 ia (b + 28) R1) (fi1 := fi) (fun a ha => rw2_n _ _ (by omega)) (fun i hi => by rw [rw2_n _ _ (by omega)]) (fun a j ha => rfl)
    refine ⟨_, ?_, hS.1, hS.2⟩
    have hval : dP kd lf rt (Pn p (Ω.1.2.2.2.1 p - 1)) = dN (Ω.1.2.2.2.2 p) (Ω.1.2.2.2.1 p - 1) := NP.val (lv := fun _ => 1) (un := dUn) (bn := dBn) (d0 := 0) (d1 := 0) hN t2 hv.2.2.1 _ (by have := hs.1; omega)
    rw [← hval]
    exact hR
  · exact absurd hs hn
end FACTS
