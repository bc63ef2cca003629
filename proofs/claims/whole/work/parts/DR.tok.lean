/-! THE TABLE'S OWN PROPERTY, KEPT AND TRUE AT FIRST -/
def tiS (Ω : mO) (W p : Nat) (P : Nat) (op lf rt : Nat → Nat) : Prop := rkB 300 P op lf rt ∧ 2 ≤ P ∧ ndA Ω W p P op lf rt ∧ ∀ q, 2 ≤ q → q < P → ∃ i, i < 5 ∧ (W.testBit i = true ∨ i = p) ∧ q ∈ (tgA P op lf rt (Ω.1.2.2.2.2 i) (Ω.1.2.2.2.1 i - 1)).2.2
section TOK
variable {Ω : mO} {W p : Nat}
theorem qOk.vc (w : WO Ω) (hq : qOk Ω W p) {i : Nat} (h5 : i < 5) (hi : W.testBit i = true ∨ i = p) : VC (Ω.1.2.2.2.1 i) (Ω.1.2.2.2.2 i) := by
  rcases hi with hi | rfl
  · exact w.1.2 i h5 (hq.2.2.2 i hi).2
  · exact w.1.2 i h5 hq.2.2.1
theorem tiS_ok (w : WO Ω) (hq : qOk Ω W p) : tOK (tiS Ω W p) := by
  refine ⟨fun P op lf rt h => ⟨?_, h.1⟩, ?_⟩
  · obtain ⟨h1, h2, h3, h4⟩ := h
    let t : Nat → List Nat := fun i => @ite (List Nat) (W.testBit i = true ∨ i = p) (Classical.propDecidable _) (tgA P op lf rt (Ω.1.2.2.2.2 i) (Ω.1.2.2.2.1 i - 1)).2.2 []
    have tl : ∀ i, i < 5 → (t i).length ≤ 60 := fun i h5 => by
      by_cases hi : W.testBit i = true ∨ i = p
      · have e : t i = (tgA P op lf rt (Ω.1.2.2.2.2 i) (Ω.1.2.2.2.1 i - 1)).2.2 := if_pos hi
        have hv := hq.vc w h5 hi
        have k1 := hv.1
        have k30 := hv.2.1
        have a := tg_len (P := P) (op := op) (lf := lf) (rt := rt) hv.ok (Ω.1.2.2.2.1 i - 1) (by omega) 0
        have c := sz_le hv.ok (show Ω.1.2.2.2.1 i - 1 < Ω.1.2.2.2.1 i by omega)
        rw [e]
        omega
      · have e : t i = [] := if_neg hi
        rw [e]
        exact Nat.zero_le _
    have hc := cnt_le P (0 :: 1 :: (t 0 ++ (t 1 ++ (t 2 ++ (t 3 ++ t 4))))) (fun q hqP => by
      by_cases q2 : 2 ≤ q
      · obtain ⟨i, h5, hi, hm⟩ := h4 q q2 hqP
        have e : t i = (tgA P op lf rt (Ω.1.2.2.2.2 i) (Ω.1.2.2.2.1 i - 1)).2.2 := if_pos hi
        rw [← e] at hm
        refine List.mem_cons_of_mem _ (List.mem_cons_of_mem _ ?_)
        simp only [List.mem_append]
        obtain rfl | rfl | rfl | rfl | rfl : i = 0 ∨ i = 1 ∨ i = 2 ∨ i = 3 ∨ i = 4 := by omega
        · exact Or.inl hm
        · exact Or.inr (Or.inl hm)
        · exact Or.inr (Or.inr (Or.inl hm))
        · exact Or.inr (Or.inr (Or.inr (Or.inl hm)))
        · exact Or.inr (Or.inr (Or.inr (Or.inr hm)))
      · obtain rfl | rfl : q = 0 ∨ q = 1 := by omega
        · exact List.mem_cons_self
        · exact List.mem_cons_of_mem _ List.mem_cons_self)
    simp only [List.length_cons, List.length_append] at hc
    have a0 := tl 0 (by decide)
    have a1 := tl 1 (by decide)
    have a2 := tl 2 (by decide)
    have a3 := tl 3 (by decide)
    have a4 := tl 4 (by decide)
    omega
  · intro P op lf rt P1 op1 lf1 rt1 x y r ho ho1 hx hy ha hg ⟨h1, h2, h3, h4⟩
    have e := hg.1
    refine ⟨rkB_gr 300 _ _ _ _ _ _ _ _ _ _ _ ho ho1 hx hy ha hg h1, Nat.le_trans h2 e.1, fun j hj hw z hz => ?_, fun q q2 hqP => ?_⟩
    · obtain ⟨qq, hqq⟩ := h3 j hj hw z hz
      exact ⟨qq, hqq.ex ho e⟩
    have old : ∀ q, 2 ≤ q → q < P → ∃ i, i < 5 ∧ (W.testBit i = true ∨ i = p) ∧ q ∈ (tgA P1 op1 lf1 rt1 (Ω.1.2.2.2.2 i) (Ω.1.2.2.2.1 i - 1)).2.2 := fun q q2 hqP => by
      obtain ⟨i, h5, hi, hm⟩ := h4 q q2 hqP
      have hv := hq.vc w h5 hi
      have k1 := hv.1
      exact ⟨i, h5, hi, tgn_ex ho ho1 e h2 hv.ok (fun j hj => h3 i h5 hi j hj) _ (by omega) q hqP hm⟩
    by_cases c : q < P
    · exact old q q2 c
    · have hqr : q = r := by rcases hg.2.2.2 with h | h <;> omega
      subst hqr
      obtain ⟨z, hz, z9, hcs⟩ := ha
      obtain ⟨o1, o2, o3, o4, o5, o6, o7, o8, o9⟩ := ho.two hz (by omega)
      obtain ⟨i, h5, hi, hm⟩ := old z o1 hz
      have hv := hq.vc w h5 hi
      have k1 := hv.1
      obtain ⟨e1, e2, e3⟩ := e.2 z hz
      obtain ⟨f1, f2, f3⟩ := e.2 (lf z) (by omega)
      have hC := tg_C ho1 (Nat.le_trans h2 e.1) hv.ok (fun j hj => by
        have := nd_ex ho ho1 e (h3 i h5 hi j hj)
        rw [this.1]
        exact Nat.lt_of_lt_of_le this.2 e.1) _ (show Ω.1.2.2.2.1 i - 1 < Ω.1.2.2.2.1 i by omega) z hm (Nat.lt_of_lt_of_le hz e.1) (e1.trans z9)
      unfold clB at hC
      rw [e2, e3, f1, f2, f3] at hC
      have hr := impS_ix ho1 hg.2.1 hg.2.2.1
      refine ⟨i, h5, hi, ?_⟩
      rw [hr]
      rcases hcs with ⟨h7, rfl, rfl⟩ | ⟨h8, rfl, rfl⟩ | ⟨h7, rfl, hs⟩
      · have h10 := (ho.to (lf z) (by omega)).1
        obtain c7 | c8 | c9 : op (lf z) = 7 ∨ op (lf z) = 8 ∨ op (lf z) = 9 := by omega
        · exact (hC.1 c7).1
        · exact (hC.2.1 c8).2
        · exact (hC.2.2 c9).resolve_right (fun h => by rw [h] at hr; omega)
      · exact (hC.2.1 h8).1
      · have hy1 := impS_ix ho1 (Nat.lt_of_lt_of_le hy e.1) (hs.ex hy e)
        have := (hC.1 h7).2
        rw [← hy1] at this
        exact this
/-- at first -/
theorem tiS_ini (w : WO Ω) (hq : qOk Ω W p) {P pg : Nat} {op lf rt pr : Nat → Nat} {Γ : Nat → Bool} (h : iniQ Ω W p P op lf rt pr pg Γ) : tiS Ω W p P op lf rt := by
  obtain ⟨h1, h2, h3, h4, h5, h6, h7, h8⟩ := h
  refine ⟨fun q hqP => ?_, h2, h8, fun q q2 hqP => ?_⟩
  · by_cases q2 : 2 ≤ q
    · obtain ⟨g, j, ⟨i, i5, hi, rfl, hj⟩, hn⟩ := h7 q q2 hqP
      have hv := hq.vc w i5 hi
      have k30 := hv.2.1
      have e := hn.nd h1
      have := (rk_nd h1 h2 hv.ok j hj (by rw [e]; exact hqP)).2
      rw [e] at this
      have := sz_le hv.ok hj
      omega
    · have : op q < 6 := by
        obtain ⟨z0, z1⟩ := op_01 h1 h2
        obtain rfl | rfl : q = 0 ∨ q = 1 := by omega
        · exact z0
        · exact z1
      rw [(rk_lf this).2]
      decide
  · obtain ⟨g, j, ⟨i, i5, hi, rfl, hj⟩, hn⟩ := h7 q q2 hqP
    have hv := hq.vc w i5 hi
    have e := hn.nd h1
    obtain ⟨d, d1, d2⟩ := tg_cov (P := P) (op := op) (lf := lf) (rt := rt) hv.ok _ (Nat.le_refl _) j hj
    have hk1 := hv.1
    have hdp : dpt (Ω.1.2.2.2.2 i) (Ω.1.2.2.2.1 i) = 1 := hv.2.2.2.1
    rw [e] at d2
    have ed : sl (Ω.1.2.2.2.2 i) (Ω.1.2.2.2.1 i) d = Ω.1.2.2.2.1 i - 1 := by
      obtain ⟨k', hk'⟩ : ∃ k', Ω.1.2.2.2.1 i = k' + 1 := ⟨Ω.1.2.2.2.1 i - 1, by omega⟩
      rw [hk'] at hdp d1 ⊢
      rw [sl_top _ (by omega)]
      rfl
    rw [ed] at d2
    exact ⟨i, i5, hi, d2⟩
end TOK
