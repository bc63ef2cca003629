/-! THE DEPTH: a nest's first premise -/
section NEST1
variable {P : Nat} {op lf rt : Nat → Nat} {E v : Nat → Bool} {B d g : Nat} {Γ : Nat → Bool}
theorem ps_nest {grp ok : Nat → Bool} {w sr N : Nat → Nat} (h : ptOK P op lf rt grp ok w sr N) {p c r x : Nat} (hx : x < P) (hg : Γ p = true) (hp : p < 1000) (hc : onS op lf rt grp Γ c = true) (hcp : c ≠ p) (hn : ∀ q, Γ q = true → op q = 9 → rt q ≠ p) (hr : op r = 9 → grp (lf r) = true → rt r = c) : psS op lf rt grp w sr (upB (upB (upB Γ p false) x true) r true) + w p + sr p ≤ psS op lf rt grp w sr Γ + N x + (w r + sr r) := by
  have a := h.1 x hx
  have d1 : psS op lf rt grp w sr (upB (upB Γ p false) c true) + w p + sr p ≤ psS op lf rt grp w sr Γ + lowA op lf rt grp w sr c := ps_swap hg hp hc hcp hn
  unfold psS lowA at *
  have h1 := wS_dn w hg 1000 hp
  have h0 := wS_up w (upB Γ p false) x 1000
  have h00 := wS_up w (upB (upB Γ p false) x true) r 1000
  have h2 := wS_dn sr (on_self (op := op) (lf := lf) (rt := rt) (grp := grp) hg) 1000 hp
  have off : ∀ z, onS op lf rt grp (upB Γ p false) z = true → upB (onS op lf rt grp Γ) p false z = true := fun z hz => by
    have hz2 := on_dn hz
    by_cases e : z = p
    · subst e
      rcases (on_iff z).mp hz with h | ⟨q, q1, q2, q3, q4⟩
      · rw [upB_s] at h; cases h
      · by_cases eq : q = z
        · subst eq; rw [upB_s] at q1; cases q1
        · exact absurd q4 (hn q (by rw [← q1]; exact (if_neg eq).symm) q2)
    · rw [show upB (onS op lf rt grp Γ) p false z = onS op lf rt grp Γ z from if_neg e]; exact hz2
  have onc : upB (onS op lf rt grp Γ) p false c = true := by rw [← hc]; exact if_neg hcp
  have b0 : wS sr (onS op lf rt grp (upB (upB (upB Γ p false) x true) r true)) 1000 ≤ wS sr (upB (onS op lf rt grp (upB (upB Γ p false) x true)) c true) 1000 + sr r := wS_one 1000 r fun z hz => by
    rcases on_up hz with h | ⟨k1, k2, k3⟩ | h
    · exact Or.inl h
    · right; rw [← k3, hr k1 k2]; exact upB_s _ _ _
    · exact Or.inr (upB_le h)
  have cc : upB (upB (onS op lf rt grp Γ) p false) x true c = true := upB_le onc
  by_cases k : op x = 9 ∧ grp (lf x) = true
  · rw [if_pos k] at a
    have b1 : wS sr (upB (onS op lf rt grp (upB (upB Γ p false) x true)) c true) 1000 ≤ wS sr (upB (upB (onS op lf rt grp Γ) p false) x true) 1000 + sr (rt x) := wS_one 1000 (rt x) fun z hz => by
      by_cases e : z = c
      · rw [e]; exact Or.inr cc
      · rw [show upB (onS op lf rt grp (upB (upB Γ p false) x true)) c true z = onS op lf rt grp (upB (upB Γ p false) x true) z from if_neg e] at hz
        rcases on_up hz with h | ⟨_, _, h⟩ | h
        · right; rw [h]; exact upB_s _ _ _
        · exact Or.inl h.symm
        · exact Or.inr (upB_le (off z h))
    have b2 := wS_up sr (upB (onS op lf rt grp Γ) p false) x 1000
    omega
  · rw [if_neg k] at a
    have b1 : wS sr (upB (onS op lf rt grp (upB (upB Γ p false) x true)) c true) 1000 ≤ wS sr (upB (upB (onS op lf rt grp Γ) p false) x true) 1000 := wS_sub 1000 fun z hz => by
      by_cases e : z = c
      · rw [e]; exact cc
      · rw [show upB (onS op lf rt grp (upB (upB Γ p false) x true)) c true z = onS op lf rt grp (upB (upB Γ p false) x true) z from if_neg e] at hz
        rcases on_up hz with h | ⟨h3, h4, _⟩ | h
        · rw [h]; exact upB_s _ _ _
        · exact absurd ⟨h3, h4⟩ k
        · exact upB_le (off z h)
    have b2 := wS_up sr (upB (onS op lf rt grp Γ) p false) x 1000
    omega
theorem inv2_first (ho : RPo P op lf rt) (hP : P ≤ 1000) (hi : inP P Γ) (hst : ∀ p, p < P → Γ p = true → stR op lf rt Γ p) {p r : Nat} (hp : p < P) (hr : r < P) (hg : Γ p = true) (h9 : op p = 9) (hl9 : op (lf p) = 9) (hri : impS op lf rt r (rt (lf p)) (rt p)) (tr : t2R E v op lf rt r = true) (ht : t2R E v op lf rt p = true) (htl : t2R E v op lf rt (lf p) = true) (h : inv2 E v op lf rt B d Γ g) : inv2 E v op lf rt B (d + 1) (nsA P op lf rt Γ p r) (rt (lf p)) := by
  have hl := (ho.to p hp).2 (by omega)
  obtain ⟨o1, o2, o3, o4, o5, o6, o7, o8, o9⟩ := ho.two (show lf p < P by omega) (by omega)
  have gr := (q1_9 ho (show lf p < P by omega) hl9).2.2.2.2
  have side : w2R E v op lf rt r + sr2R E v op lf rt r ≤ i2R E v op lf rt (rt (lf p)) (L2R E v op lf rt (rt p)) (S2R E v op lf rt (rt p) - L2R E v op lf rt (rt p)) (l1R op lf rt (rt p)) (s1R op lf rt (rt p)) ∧ (op r = 9 → grR op lf rt (lf r) = true → rt r = rt p) := by
    by_cases y2 : 2 ≤ rt (lf p)
    · have s := side2 (E := E) (v := v) ho hr (show rt p < P by omega) y2 hri tr
      exact ⟨s.1, fun a b => (s.2 a b).2⟩
    · rcases hri with ⟨h, _⟩ | ⟨_, rfl⟩ | ⟨_, h, _⟩
      · omega
      · have z := t2_0 (E := E) (v := v) ho (show 0 < P by omega)
        have := op_0 ho (show 0 < P by omega)
        rw [z.2.1, z.2.2.1]
        exact ⟨Nat.zero_le _, fun h => absurd h (by omega)⟩
      · omega
  have s := ps_nest (pt2_ok (E := E) (v := v) ho) (show lf (lf p) < P by omega) hg (show p < 1000 by omega) (on_rt hg h9 gr) (show rt p ≠ p by omega) (st_off hi hst hg) side.2
  have q := (q2_9 (E := E) (v := v) ho hp h9).2.1 ht
  have hi := (q2_9 (E := E) (v := v) ho (show lf p < P by omega) hl9).2.2 (L2R E v op lf rt (rt p)) (S2R E v op lf rt (rt p) - L2R E v op lf rt (rt p)) (l1R op lf rt (rt p)) (n1R op lf rt (rt p) - l1R op lf rt (rt p))
  rw [if_pos htl] at hi
  have hm := Nat.le_max_right (1 + L2R E v op lf rt (rt p)) (1 + G2R E v op lf rt (rt (lf p)) + S2R E v op lf rt (lf (lf p)) + i2R E v op lf rt (rt (lf p)) (L2R E v op lf rt (rt p)) (S2R E v op lf rt (rt p) - L2R E v op lf rt (rt p)) (l1R op lf rt (rt p)) (n1R op lf rt (rt p) - l1R op lf rt (rt p)))
  rw [← hi] at hm
  have hrr := s2_ge1 (E := E) (v := v) ho (rt p) (by omega)
  have ew : w2R E v op lf rt p = L2R E v op lf rt (rt p) := by
    unfold w2R
    rw [if_pos ht, if_pos h9, if_pos ⟨hl9, htl⟩]
  have es : sr2R E v op lf rt p = S2R E v op lf rt p - S2R E v op lf rt (rt p) := by
    unfold sr2R
    rw [q.2.2, if_pos ⟨hl9, htl⟩]
  have eS := q.1
  unfold n2R at eS
  rw [if_pos gr] at eS
  have c1 : cA op Γ ≤ cA op (upB Γ p false) := cA_sub (p := p) (Or.inl (by omega)) fun q e hq => by rw [← hq]; exact if_neg e
  have c2 : cA op (upB Γ p false) ≤ cA op (upB (upB Γ p false) (lf (lf p)) true) := cA_sub (p := lf (lf p)) (Or.inr (Or.inl (upB_s _ _ _))) fun q _ hq => upB_le hq
  have c3 : cA op (upB (upB Γ p false) (lf (lf p)) true) ≤ cA op (upB (upB (upB Γ p false) (lf (lf p)) true) r true) := cA_sub (p := r) (Or.inr (Or.inl (upB_s _ _ _))) fun q _ hq => upB_le hq
  have e1 : n1R op lf rt (rt p) - l1R op lf rt (rt p) = s1R op lf rt (rt p) := rfl
  rw [e1] at hm eS
  have hs := side.1
  unfold inv2 nsA at *
  generalize i2R E v op lf rt (lf p) (L2R E v op lf rt (rt p)) (S2R E v op lf rt (rt p) - L2R E v op lf rt (rt p)) (l1R op lf rt (rt p)) (s1R op lf rt (rt p)) = I at *
  generalize i2R E v op lf rt (rt (lf p)) (L2R E v op lf rt (rt p)) (S2R E v op lf rt (rt p) - L2R E v op lf rt (rt p)) (l1R op lf rt (rt p)) (s1R op lf rt (rt p)) = J at *
  clear hi
  omega
end NEST1
