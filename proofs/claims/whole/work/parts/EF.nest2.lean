/-! THE DEPTH: a nest's second premise; the first bound from the second -/
section NEST2
variable {P : Nat} {op lf rt : Nat → Nat} {E v : Nat → Bool} {B d g : Nat} {Γ : Nat → Bool}
theorem ps_swap {grp : Nat → Bool} {w sr : Nat → Nat} {p c : Nat} (hg : Γ p = true) (hp : p < 1000) (hc : onS op lf rt grp Γ c = true) (hcp : c ≠ p) (hn : ∀ q, Γ q = true → op q = 9 → rt q ≠ p) : psS op lf rt grp w sr (upB (upB Γ p false) c true) + w p + sr p ≤ psS op lf rt grp w sr Γ + lowA op lf rt grp w sr c := by
  unfold psS lowA
  have h1 := wS_dn w hg 1000 hp
  have h0 := wS_up w (upB Γ p false) c 1000
  have h2 := wS_dn sr (on_self (op := op) (lf := lf) (rt := rt) (grp := grp) hg) 1000 hp
  have off : ∀ z, onS op lf rt grp (upB Γ p false) z = true → upB (onS op lf rt grp Γ) p false z = true := fun z hz => by
    have hz2 := on_dn hz
    by_cases e : z = p
    · subst e
      rcases (on_iff z).mp hz with h | ⟨q, q1, q2, q3, q4⟩
      · rw [upB_s] at h; cases h
      · by_cases eq : q = z
        · subst eq; rw [upB_s] at q1; cases q1
        · exact absurd q4 (hn q (by rw [← q1]; exact (if_neg eq).symm) q2)
    · rw [show upB (onS op lf rt grp Γ) p false z = onS op lf rt grp Γ z from if_neg e]; exact hz2
  have onc : upB (onS op lf rt grp Γ) p false c = true := by rw [← hc]; exact if_neg hcp
  by_cases k : op c = 9 ∧ grp (lf c) = true
  · rw [if_pos k]
    have h3 : wS sr (onS op lf rt grp (upB (upB Γ p false) c true)) 1000 ≤ wS sr (upB (onS op lf rt grp Γ) p false) 1000 + sr (rt c) := wS_one 1000 (rt c) fun z hz => by
      rcases on_up hz with h | ⟨_, _, h⟩ | h
      · rw [h]; exact Or.inr onc
      · exact Or.inl h.symm
      · exact Or.inr (off z h)
    omega
  · rw [if_neg k]
    have h3 : wS sr (onS op lf rt grp (upB (upB Γ p false) c true)) 1000 ≤ wS sr (upB (onS op lf rt grp Γ) p false) 1000 := wS_sub 1000 fun z hz => by
      rcases on_up hz with h | ⟨h3, h4, _⟩ | h
      · rw [h]; exact onc
      · exact absurd ⟨h3, h4⟩ k
      · exact off z h
    omega
theorem inv2_nest (ho : RPo P op lf rt) (hP : P ≤ 1000) (hi : inP P Γ) (hst : ∀ p, p < P → Γ p = true → stR op lf rt Γ p) {p : Nat} (hp : p < P) (hg : Γ p = true) (h9 : op p = 9) (hl9 : op (lf p) = 9) (ht : t2R E v op lf rt p = true) (htl : t2R E v op lf rt (lf p) = true) (h : inv2 E v op lf rt B d Γ g) : inv2 E v op lf rt B (d + 1) (upB (upB Γ p false) (rt p) true) g := by
  have hl := (ho.to p hp).2 (by omega)
  have gr := (q1_9 ho (show lf p < P by omega) hl9).2.2.2.2
  have s := ps_swap (lf := lf) (grp := grR op lf rt) (w := w2R E v op lf rt) (sr := sr2R E v op lf rt) hg (show p < 1000 by omega) (on_rt hg h9 gr) (show rt p ≠ p by omega) (st_off hi hst hg)
  rw [low2_eq ho (show rt p < P by omega)] at s
  have q := (q2_9 (E := E) (v := v) ho hp h9).2.1 ht
  have hi := (q2_9 (E := E) (v := v) ho (show lf p < P by omega) hl9).2.2 (L2R E v op lf rt (rt p)) (S2R E v op lf rt (rt p) - L2R E v op lf rt (rt p)) (l1R op lf rt (rt p)) (n1R op lf rt (rt p) - l1R op lf rt (rt p))
  rw [if_pos htl] at hi
  have hm := Nat.le_max_left (1 + L2R E v op lf rt (rt p)) (1 + G2R E v op lf rt (rt (lf p)) + S2R E v op lf rt (lf (lf p)) + i2R E v op lf rt (rt (lf p)) (L2R E v op lf rt (rt p)) (S2R E v op lf rt (rt p) - L2R E v op lf rt (rt p)) (l1R op lf rt (rt p)) (n1R op lf rt (rt p) - l1R op lf rt (rt p)))
  rw [← hi] at hm
  have hr := s2_ge1 (E := E) (v := v) ho (rt p) (by omega)
  have ew : w2R E v op lf rt p = L2R E v op lf rt (rt p) := by
    unfold w2R
    rw [if_pos ht, if_pos h9, if_pos ⟨hl9, htl⟩]
  have es : 1 ≤ sr2R E v op lf rt p := by
    unfold sr2R
    rw [q.2.2, if_pos ⟨hl9, htl⟩, q.1]
    unfold n2R
    rw [if_pos gr]
    omega
  have c1 : cA op Γ ≤ cA op (upB Γ p false) := cA_sub (p := p) (Or.inl (by omega)) fun q e hq => by rw [← hq]; exact if_neg e
  have c2 : cA op (upB Γ p false) ≤ cA op (upB (upB Γ p false) (rt p) true) := cA_sub (p := rt p) (Or.inr (Or.inl (upB_s _ _ _))) fun q _ hq => upB_le hq
  unfold inv2 at *
  omega
theorem w2_ge1 (ho : RPo P op lf rt) {p : Nat} (hp : p < P) : w1R op lf rt p ≤ w2R E v op lf rt p := by
  unfold w2R
  by_cases t : t2R E v op lf rt p = true
  · rw [if_pos t]
    unfold w1R
    by_cases h9 : op p = 9
    · rw [if_pos h9, if_pos h9]
      have hl := (ho.to p hp).2 (by omega)
      have hr := s2_ge1 (E := E) (v := v) ho (rt p) (by omega)
      by_cases k : op (lf p) = 9 ∧ t2R E v op lf rt (lf p) = true
      · rw [if_pos k, (q1_9 ho (show lf p < P by omega) k.1).2.2.2.1]
        exact hr.2.2.1
      · rw [if_neg k]
        exact i2_ge1 ho (lf p) (by omega) _ _ _ _ hr.2.2.1 hr.2.2.2.2
    · rw [if_neg h9, if_neg h9]
      by_cases h7 : op p = 7
      · rw [if_pos h7, if_pos h7]
        exact (s2_ge1 ho p hp).1
      · rw [if_neg h7, if_neg h7]; exact Nat.le_refl _
  · rw [if_neg t]; exact Nat.le_refl _
/-- the first bound from the second -/
theorem inv2_1 (ho : RPo P op lf rt) (hi : inP P Γ) (hg : g < P) (h : inv2 E v op lf rt B d Γ g) : inv1 op lf rt B d Γ g := by
  have on : ∀ c, onS op lf rt (grR op lf rt) Γ c = true → c < P := fun c hc => by
    rcases (on_iff c).mp hc with h | ⟨p, h1, h2, _, h4⟩
    · exact hi c h
    · have := (ho.to p (hi p h1)).2 (by omega)
      have := hi p h1
      omega
  have a : wS (w1R op lf rt) Γ 1000 ≤ wS (w2R E v op lf rt) Γ 1000 := wS_le 1000 fun p _ => by
    by_cases e : Γ p = true
    · rw [if_pos e, if_pos e]; exact w2_ge1 ho (hi p e)
    · rw [if_neg e]; exact Nat.zero_le _
  have b : wS (s1R op lf rt) (onS op lf rt (grR op lf rt) Γ) 1000 ≤ wS (sr2R E v op lf rt) (onS op lf rt (grR op lf rt) Γ) 1000 := wS_le 1000 fun p _ => by
    by_cases e : onS op lf rt (grR op lf rt) Γ p = true
    · rw [if_pos e, if_pos e]; exact (s2_ge1 ho p (on p e)).2.2.2.2
    · rw [if_neg e]; exact Nat.zero_le _
  have c := (s2_ge1 (E := E) (v := v) ho g hg).2.1
  unfold inv1 inv2 psS at *
  omega
end NEST2
