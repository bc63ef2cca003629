/-! THE DEPTH: the frame's own property -/
def dpS (P : Nat) (op lf rt : Nat → Nat) (d : Nat) (Γ : Nat → Bool) (g : Nat) : Prop := d < 600 ∧ (1000 < P ∨ dmd op lf rt Γ g ∨ (inv1 op lf rt 598 d Γ g ∧ ∀ k m, EV k m → (∀ q, Γ q = true → okR (vB k) (vB m) op lf rt q = true) → t2R (vB k) (vB m) op lf rt g = true → inv2 (vB k) (vB m) op lf rt 598 d Γ g))
section DPS
variable {P P1 : Nat} {op lf rt op1 lf1 rt1 : Nat → Nat} {Γ : Nat → Bool} {g d : Nat}
theorem dp_gr : grC (fun P op lf rt => (2 ≤ P ∧ g < P ∧ inP P Γ) ∧ dpS P op lf rt d Γ g) := by
  intro P op lf rt P1 op1 lf1 rt1 x y r ho ho1 hx hy ha hgr ⟨⟨a1, a2, a3⟩, hd, h⟩
  have e := hgr.1
  refine ⟨⟨Nat.le_trans a1 e.1, Nat.lt_of_lt_of_le a2 e.1, a3.ex e.1⟩, hd, ?_⟩
  rcases h with h | ⟨m, hm, h1, h2⟩ | ⟨h1, h2⟩
  · exact Or.inl (Nat.lt_of_lt_of_le h e.1)
  · exact Or.inr (Or.inl ⟨m, hm, fun q hq => by rw [t2_ext ho e (a3 q hq)]; exact h1 q hq, by rw [t2_ext ho e a2]; exact h2⟩)
  · refine Or.inr (Or.inr ⟨(inv1_cg ho e a3 a2).mpr h1, fun k m hkm hok ht => (inv2_cg ho e a3 a2).mpr (h2 k m hkm (fun q hq => ?_) ?_)⟩)
    · have := hok q hq
      rw [ok_ext ho e (a3 q hq)] at this
      exact this
    · rw [t2_ext ho e a2] at ht
      exact ht
theorem dp_0 (ho : RPo P op lf rt) (h2 : 2 ≤ P) (h : dpS P op lf rt d Γ g) : dpS P op lf rt d (upB Γ 0 false) g := by
  obtain ⟨hd, h⟩ := h
  refine ⟨hd, ?_⟩
  rcases h with h | ⟨m, hm, h1, h3⟩ | ⟨h1, h3⟩
  · exact Or.inl h
  · exact Or.inr (Or.inl ⟨m, hm, fun q hq => h1 q (dn_le hq), h3⟩)
  · refine Or.inr (Or.inr ⟨inv1_0 ho (by omega) h1, fun k m hkm hok ht => inv2_0 ho (by omega) (h3 k m hkm (fun q hq => ?_) ht)⟩)
    by_cases e : q = 0
    · have h4 := op_0 ho (show 0 < P by omega)
      rw [e]
      unfold okR
      rw [oq_lf (by omega)]
      show (if op 0 < 4 then vB k (op 0) && vB m (op 0) else decide (op 0 = 4)) = true
      rw [if_neg (by omega)]
      exact decide_eq_true h4
    · exact hok q (by rw [← hq]; exact if_neg e)
theorem dp_goal (ho : RPo P op lf rt) (hg : g < P) (h9 : op g = 9) (h : dpS P op lf rt d Γ g) : dpS P op lf rt d (upB Γ (lf g) true) (rt g) := by
  obtain ⟨hd, h⟩ := h
  have hl := (ho.to g hg).2 (by omega)
  refine ⟨hd, ?_⟩
  rcases h with h | ⟨m, hm, h1, h3⟩ | ⟨h1, h3⟩
  · exact Or.inl h
  · refine Or.inr (Or.inl ⟨m, hm, fun q hq => ?_, ?_⟩)
    · rw [(q2_9 ho hg h9).1, Bool.or_eq_false_iff] at h3
      by_cases e : q = lf g
      · rw [e]
        have := h3.1
        revert this
        cases t2R (vB m) (vB m) op lf rt (lf g)
        · intro h; cases h
        · intro _; rfl
      · exact h1 q (by rw [← hq]; exact (if_neg e).symm)
    · rw [(q2_9 ho hg h9).1, Bool.or_eq_false_iff] at h3
      exact h3.2
  · refine Or.inr (Or.inr ⟨inv1_goal ho hg h9 h1, fun k m hkm hok ht => ?_⟩)
    have tg : t2R (vB k) (vB m) op lf rt g = true := by rw [(q2_9 ho hg h9).1, ht, Bool.or_true]
    exact inv2_goal ho hg h9 tg (h3 k m hkm (fun q hq => hok q (upB_le hq)) tg)
/-- forward over a small step: true before, true behind -/
theorem pv_ls (ho : RPo P op lf rt) {p m : Nat} {Γ1 : Nat → Bool} (hp : p < P) (hg : Γ p = true) (hls : lsS P op lf rt Γ p Γ1) (h : pvW op lf rt Γ m) : pvW op lf rt Γ1 m := by
  have z := t2_0 (E := vB m) (v := vB m) ho (show 0 < P by omega)
  have tp := h p hg
  have dn : ∀ q, upB Γ p false q = true → t2R (vB m) (vB m) op lf rt q = true := fun q hq => h q (dn_le hq)
  have up : ∀ (Γ' : Nat → Bool) (x : Nat), (∀ q, Γ' q = true → t2R (vB m) (vB m) op lf rt q = true) → t2R (vB m) (vB m) op lf rt x = true → ∀ q, upB Γ' x true q = true → t2R (vB m) (vB m) op lf rt q = true := fun Γ' x h1 h2 q hq => by
    by_cases e : q = x
    · rw [e]; exact h2
    · exact h1 q (by rw [← hq]; exact (if_neg e).symm)
  rcases hls with ⟨c, rfl⟩ | ⟨c, h1, rfl⟩ | ⟨c, h1, rfl⟩ | ⟨c, h1, h2, c2, s, r, hs, hr, g1, g2, rfl⟩ | ⟨c, h1, h2, c2, s, r, hs, hr, g1, g2, rfl⟩
  · rw [(q2_7 ho hp c).1, Bool.and_eq_true] at tp
    exact up _ _ (up _ _ dn tp.1) tp.2
  · exact dn
  · refine up _ _ dn ?_
    rcases h1 with h1 | h1
    · have := h _ h1
      rw [(q2_9 ho hp c).1, this] at tp
      exact tp
    · exact h _ h1
  · obtain ⟨x2, y2, hlP, hrP, hxP, hyP⟩ := left_pos ho hp c (by omega) (by omega)
    have is := imp_t (E := vB m) (v := vB m) ho hs hyP y2 z.1 g1
    have ir := imp_t (E := vB m) (v := vB m) ho hr hxP x2 z.1 g2
    refine up _ _ dn ?_
    rw [(q2_9 ho hp c).1, (q2_7 ho hlP c2).1] at tp
    rw [ir, is]
    revert tp
    cases t2R (vB m) (vB m) op lf rt (lf (lf p)) <;> cases t2R (vB m) (vB m) op lf rt (rt (lf p)) <;> cases t2R (vB m) (vB m) op lf rt (rt p) <;> decide
  · obtain ⟨x2, y2, hlP, hrP, hxP, hyP⟩ := left_pos ho hp c (by omega) (by omega)
    have is := imp_t (E := vB m) (v := vB m) ho hs hxP x2 z.1 g1
    have ir := imp_t (E := vB m) (v := vB m) ho hr hyP y2 z.1 g2
    rw [(q2_9 ho hp c).1, (q2_8 ho hlP c2).1] at tp
    refine up _ _ (up _ _ dn ?_) ?_
    · rw [is]
      revert tp
      cases t2R (vB m) (vB m) op lf rt (lf (lf p)) <;> cases t2R (vB m) (vB m) op lf rt (rt (lf p)) <;> cases t2R (vB m) (vB m) op lf rt (rt p) <;> decide
    · rw [ir]
      revert tp
      cases t2R (vB m) (vB m) op lf rt (lf (lf p)) <;> cases t2R (vB m) (vB m) op lf rt (rt (lf p)) <;> cases t2R (vB m) (vB m) op lf rt (rt p) <;> decide
theorem dp_ls (ho : RPo P op lf rt) {p : Nat} {Γ1 : Nat → Bool} (hp : p < P) (hg : Γ p = true) (hls : lsS P op lf rt Γ p Γ1) (h : dpS P op lf rt d Γ g) : dpS P op lf rt d Γ1 g := by
  obtain ⟨hd, h⟩ := h
  refine ⟨hd, ?_⟩
  by_cases hP : 1000 < P
  · exact Or.inl hP
  rcases h with h | ⟨m, hm, h1, h3⟩ | ⟨h1, h3⟩
  · exact Or.inl h
  · exact Or.inr (Or.inl ⟨m, hm, pv_ls ho hp hg hls h1, h3⟩)
  · exact Or.inr (Or.inr ⟨inv1_ls ho (by omega) hp hg hls h1, fun k m hkm hok ht => inv2_ls ho (by omega) hp hg hls hok (h3 k m hkm (cond_ls ho hp hls hok) ht)⟩)
end DPS
