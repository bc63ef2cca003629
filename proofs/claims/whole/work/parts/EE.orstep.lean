/-! THE DEPTH: an OR's side, a goal's side: one frame deeper, the potential one less -/
section ORSTEP
variable {P : Nat} {op lf rt : Nat → Nat} {E v : Nat → Bool} {B d g : Nat} {Γ : Nat → Bool}
theorem cA_new {x : Nat} (hx : x < 1000) (h4 : op x < 4) (hn : Γ x = false) : cA op Γ + 1 ≤ cA op (upB Γ x true) := by
  have h := wS_dn (fun p => if op p < 4 then 1 else 0) (upB_s Γ x true) 1000 hx
  have h2 : (if op x < 4 then 1 else 0) = 1 := if_pos h4
  have h3 : cA op Γ ≤ wS (fun p => if op p < 4 then 1 else 0) (upB (upB Γ x true) x false) 1000 := wS_sub 1000 fun q hq => by
    have e : q ≠ x := fun e => by rw [e, hn] at hq; cases hq
    rw [show upB (upB Γ x true) x false q = upB Γ x true q from if_neg e]
    exact upB_le hq
  unfold cA at *
  simp only [h2] at h
  omega
/-- where nothing moves, no IF over what is given is given -/
theorem st_off {p : Nat} (hi : inP P Γ) (hst : ∀ p, p < P → Γ p = true → stR op lf rt Γ p) (hg : Γ p = true) (q : Nat) (hq : Γ q = true) (h9 : op q = 9) : rt q ≠ p := fun e => by
  rcases hst q (hi q hq) hq with h | ⟨h, _⟩ | ⟨_, _, h, _⟩
  · omega
  · omega
  · rw [e, hg] at h; cases h
theorem or_step {grp ok : Nat → Bool} {w sr N : Nat → Nat} (h : ptOK P op lf rt grp ok w sr N) (hP : P ≤ 1000) (hi : inP P Γ) (hst : ∀ p, p < P → Γ p = true → stR op lf rt Γ p) {p x : Nat} (hp : p < P) (hg : Γ p = true) (h8 : op p = 8) (hx : x < P) (hxn : Γ x = false) (h6 : op x < 4 ∨ 6 ≤ op x) (ha : op x < 4 → N x = 0) (hb : 6 ≤ op x → 1 + N x ≤ sr p) : 1 + psS op lf rt grp w sr (upB (upB Γ p false) x true) + cA op Γ ≤ psS op lf rt grp w sr Γ + cA op (upB (upB Γ p false) x true) := by
  have h1 := ps_del_off (lf := lf) (grp := grp) (w := w) (sr := sr) hg (show p < 1000 by omega) (st_off hi hst hg)
  have h2 := ptOK.add (Γ := upB Γ p false) h hx
  have c1 : cA op Γ ≤ cA op (upB Γ p false) := cA_sub (p := p) (Or.inl (by omega)) fun q e hq => by rw [← hq]; exact if_neg e
  have c2 : cA op (upB Γ p false) ≤ cA op (upB (upB Γ p false) x true) := cA_sub (p := x) (Or.inr (Or.inl (upB_s _ _ _))) fun q _ hq => upB_le hq
  rcases h6 with h6 | h6
  · have c3 := cA_new (op := op) (Γ := upB Γ p false) (show x < 1000 by omega) h6 (by
      by_cases e : x = p
      · rw [e]; exact upB_s _ _ _
      · rw [← hxn]; exact if_neg e)
    have := ha h6
    omega
  · have := hb h6
    omega
theorem side_or (ho : RPo P op lf rt) (hst : ∀ p, p < P → Γ p = true → stR op lf rt Γ p) {p x : Nat} (hp : p < P) (hg : Γ p = true) (h8 : op p = 8) (hx : x = lf p ∨ x = rt p) : x < P ∧ Γ x = false ∧ (op x < 4 ∨ 6 ≤ op x) := by
  obtain ⟨o1, o2, o3, o4, o5, o6, o7, o8, o9⟩ := ho.two hp (by omega)
  have r2 : 2 ≤ rt p := by
    by_cases r1 : rt p = 1
    · have := o9 r1; omega
    · omega
  have hs : Γ (lf p) = false ∧ Γ (rt p) = false := by
    rcases hst p hp hg with h | ⟨_, h1, h2⟩ | ⟨h, _⟩
    · omega
    · exact ⟨h1, h2⟩
    · omega
  have x2 : 2 ≤ x ∧ x < P := by rcases hx with rfl | rfl <;> omega
  have xn : Γ x = false := hx.elim (fun e => e ▸ hs.1) (fun e => e ▸ hs.2)
  refine ⟨x2.2, xn, ?_⟩
  rcases ho.1 x x2.2 with h | h | h <;> omega
theorem inv1_or (ho : RPo P op lf rt) (hP : P ≤ 1000) (hi : inP P Γ) (hst : ∀ p, p < P → Γ p = true → stR op lf rt Γ p) {p x : Nat} (hp : p < P) (hg : Γ p = true) (h8 : op p = 8) (hx : x = lf p ∨ x = rt p) (h : inv1 op lf rt B d Γ g) : inv1 op lf rt B (d + 1) (upB (upB Γ p false) x true) g := by
  obtain ⟨x1, x2, x3⟩ := side_or ho hst hp hg h8 hx
  have q := q1_8 ho hp h8
  have s := or_step (pt1_ok ho) hP hi hst hp hg h8 x1 x2 x3 (fun h4 => (q1_lf (show op x < 6 by omega)).1) fun h6 => by
    unfold s1R
    rw [q.2.2.1, q.1]
    rcases hx with rfl | rfl
    · have := Nat.le_max_left (if op (lf p) < 6 then 0 else 1 + n1R op lf rt (lf p)) (if op (rt p) < 6 then 0 else 1 + n1R op lf rt (rt p))
      rw [if_neg (by omega)] at this ⊢
      omega
    · have := Nat.le_max_right (if op (lf p) < 6 then 0 else 1 + n1R op lf rt (lf p)) (if op (rt p) < 6 then 0 else 1 + n1R op lf rt (rt p))
      rw [show (if op (rt p) < 6 then 0 else 1 + n1R op lf rt (rt p)) = 1 + n1R op lf rt (rt p) from if_neg (by omega)] at this ⊢
      omega
  unfold inv1 at *
  omega
theorem inv2_or (ho : RPo P op lf rt) (hP : P ≤ 1000) (hi : inP P Γ) (hst : ∀ p, p < P → Γ p = true → stR op lf rt Γ p) {p x : Nat} (hp : p < P) (hg : Γ p = true) (h8 : op p = 8) (hx : x = lf p ∨ x = rt p) (ht : t2R E v op lf rt p = true) (h : inv2 E v op lf rt B d Γ g) : inv2 E v op lf rt B (d + 1) (upB (upB Γ p false) x true) g := by
  obtain ⟨x1, x2, x3⟩ := side_or ho hst hp hg h8 hx
  have q := (q2_8 (E := E) (v := v) ho hp h8).2.1 ht
  have s := or_step (pt2_ok (E := E) (v := v) ho) hP hi hst hp hg h8 x1 x2 x3 (fun h4 => (q2_l (show op x < 6 by omega)).2.1) fun h6 => by
    unfold sr2R
    rw [q.2.2, q.1]
    rcases hx with rfl | rfl
    · have := Nat.le_max_left (if op (lf p) < 6 then 0 else 1 + S2R E v op lf rt (lf p)) (if op (rt p) < 6 then 0 else 1 + S2R E v op lf rt (rt p))
      rw [if_neg (by omega)] at this ⊢
      omega
    · have := Nat.le_max_right (if op (lf p) < 6 then 0 else 1 + S2R E v op lf rt (lf p)) (if op (rt p) < 6 then 0 else 1 + S2R E v op lf rt (rt p))
      rw [show (if op (rt p) < 6 then 0 else 1 + S2R E v op lf rt (rt p)) = 1 + S2R E v op lf rt (rt p) from if_neg (by omega)] at this ⊢
      omega
  unfold inv2 at *
  omega
theorem inv1_side (ho : RPo P op lf rt) {y : Nat} (hg : g < P) (h : op g = 7 ∨ op g = 8) (hy : y = lf g ∨ y = rt g) (hv : inv1 op lf rt B d Γ g) : inv1 op lf rt B (d + 1) Γ y := by
  unfold inv1 at *
  have e : g1R op lf rt g = 1 + max (g1R op lf rt (lf g)) (g1R op lf rt (rt g)) := h.elim (fun h => (q1_7 ho hg h).2.1) fun h => (q1_8 ho hg h).2.1
  have : g1R op lf rt y + 1 ≤ g1R op lf rt g := by rcases hy with rfl | rfl <;> omega
  omega
theorem inv2_side (ho : RPo P op lf rt) {y : Nat} (hg : g < P) (h : op g = 7 ∨ op g = 8) (hy : y = lf g ∨ y = rt g) (ht : t2R E v op lf rt g = true) (hv : inv2 E v op lf rt B d Γ g) : inv2 E v op lf rt B (d + 1) Γ y := by
  unfold inv2 at *
  have e : G2R E v op lf rt g = 1 + max (G2R E v op lf rt (lf g)) (G2R E v op lf rt (rt g)) := h.elim (fun h => ((q2_7 (E := E) (v := v) ho hg h).2.1 ht).2.1) fun h => ((q2_8 (E := E) (v := v) ho hg h).2.1 ht).2.1
  have : G2R E v op lf rt y + 1 ≤ G2R E v op lf rt g := by rcases hy with rfl | rfl <;> omega
  omega
end ORSTEP
