/-! THE REFERENCE'S SEARCH: each part taken to pieces lowers a weight -/
theorem p3_two {a c n : Nat} (ha : a < n) (hc : c < n) : 3 ^ a + 3 ^ c < 3 ^ n := by
  obtain ⟨m, rfl⟩ : ∃ m, n = m + 1 := ⟨n - 1, by omega⟩
  have h1 : 3 ^ a ≤ 3 ^ m := Nat.pow_le_pow_right (by decide) (by omega)
  have h2 : 3 ^ c ≤ 3 ^ m := Nat.pow_le_pow_right (by decide) (by omega)
  have h3 : 0 < 3 ^ m := Nat.pow_pos (by decide)
  rw [Nat.pow_succ]
  omega
theorem p3_one {a n : Nat} (ha : a < n) : 3 ^ a < 3 ^ n := Nat.pow_lt_pow_right (by decide) ha
def wtR (op lf rt : Nat → Nat) (Γ : Nat → Bool) : Nat := wS (fun p => 3 ^ rkR op lf rt p) Γ 1000
def inP (P : Nat) (Γ : Nat → Bool) : Prop := ∀ q, Γ q = true → q < P
def muR (op lf rt : Nat → Nat) (Γ : Nat → Bool) (g : Nat) : Nat := wtR op lf rt Γ + g * (3 ^ 300 + 1)
section WEI
variable {P : Nat} {op lf rt : Nat → Nat} {Γ : Nat → Bool}
theorem inP.up {q : Nat} {x : Bool} (h : inP P Γ) (hq : q < P) : inP P (upB Γ q x) := fun p hp => by
  by_cases e : p = q
  · rw [e]; exact hq
  · exact h p (by rw [← hp]; exact (if_neg e).symm)
theorem inP.ex {P1 : Nat} (h : inP P Γ) (h1 : P ≤ P1) : inP P1 Γ := fun q hq => Nat.lt_of_lt_of_le (h q hq) h1
theorem lsS.inP {p : Nat} {Γ1 : Nat → Bool} (ho : RPo P op lf rt) (hp : p < P) (hG : inP P Γ) (h : lsS P op lf rt Γ p Γ1) : inP P Γ1 := by
  have ht := ho.to
  rcases h with ⟨c, rfl⟩ | ⟨c, h1, rfl⟩ | ⟨c, h1, rfl⟩ | ⟨c, h1, h2, c2, s, r, hs, hr, g1, g2, rfl⟩ | ⟨c, h1, h2, c2, s, r, hs, hr, g1, g2, rfl⟩
  · have hl := (ht p hp).2 (by omega)
    exact ((hG.up hp).up (by omega)).up (by omega)
  · exact hG.up hp
  · have hl := (ht p hp).2 (by omega)
    exact (hG.up hp).up (by omega)
  · exact (hG.up hp).up hr
  · exact ((hG.up hp).up hs).up hr
theorem wt_ext {P1 : Nat} {op1 lf1 rt1 : Nat → Nat} (ho : RPo P op lf rt) (e : REx P op lf rt P1 op1 lf1 rt1) (hG : inP P Γ) : wtR op1 lf1 rt1 Γ = wtR op lf rt Γ := wS_cg 1000 fun p _ => by
  by_cases c : Γ p = true
  · rw [if_pos c, if_pos c, (rk_ext ho e (hG p c)).2]
  · rw [if_neg c, if_neg c]
/-- the rank falls where a part is taken to pieces -/
theorem ls_dn {p : Nat} {Γ1 : Nat → Bool} (ho : RPo P op lf rt) (hP : P ≤ 1000) (hp : p < P) (hg : Γ p = true) (h : lsS P op lf rt Γ p Γ1) : wtR op lf rt Γ1 < wtR op lf rt Γ := by
  have hd := wS_dn (fun p => 3 ^ rkR op lf rt p) hg 1000 (by omega)
  have up := fun (K : Nat → Bool) (q : Nat) => wS_up (fun p => 3 ^ rkR op lf rt p) K q 1000
  unfold wtR
  have h0 : 0 < 3 ^ rkR op lf rt p := Nat.pow_pos (by decide)
  rcases h with ⟨c, rfl⟩ | ⟨c, h1, rfl⟩ | ⟨c, h1, rfl⟩ | ⟨c, h1, h2, c2, s, r, hs, hr, g1, g2, rfl⟩ | ⟨c, h1, h2, c2, s, r, hs, hr, g1, g2, rfl⟩
  · have hl := (ho.to p hp).2 (by omega)
    have r1 := (rk_78 ho hp (Or.inl c)).2
    have u1 := up (upB Γ p false) (lf p)
    have u2 := up (upB (upB Γ p false) (lf p) true) (rt p)
    have := p3_two (show rkR op lf rt (lf p) < rkR op lf rt p by omega) (show rkR op lf rt (rt p) < rkR op lf rt p by omega)
    omega
  · omega
  · have hl := (ho.to p hp).2 (by omega)
    have r1 := (rk_9 ho hp c).2
    have r2 := (rk_pos ho (lf p) (by omega)).1
    have u1 := up (upB Γ p false) (rt p)
    have := p3_one (show rkR op lf rt (rt p) < rkR op lf rt p by omega)
    omega
  · have hl := (ho.to p hp).2 (by omega)
    have hl2 := (ho.to (lf p) (by omega)).2 (by omega)
    have r1 := (rk_9 ho hp c).2
    have r2 := (rk_78 ho (show lf p < P by omega) (Or.inl c2)).1
    have i1 := rk_imp ho hs (show rt (lf p) < P by omega) (show rt p < P by omega) g1
    have i2 := rk_imp ho hr (show lf (lf p) < P by omega) hs g2
    have u1 := up (upB Γ p false) r
    have := p3_one (show rkR op lf rt r < rkR op lf rt p by omega)
    omega
  · have hl := (ho.to p hp).2 (by omega)
    have hl2 := (ho.to (lf p) (by omega)).2 (by omega)
    have r1 := (rk_9 ho hp c).2
    have r2 := (rk_78 ho (show lf p < P by omega) (Or.inr c2)).1
    have p1 := (rk_pos ho (lf (lf p)) (by omega)).1
    have p2 := (rk_pos ho (rt (lf p)) (by omega)).1
    have i1 := rk_imp ho hs (show lf (lf p) < P by omega) (show rt p < P by omega) g1
    have i2 := rk_imp ho hr (show rt (lf p) < P by omega) (show rt p < P by omega) g2
    have u1 := up (upB Γ p false) s
    have u2 := up (upB (upB Γ p false) s true) r
    have := p3_two (show rkR op lf rt s < rkR op lf rt p by omega) (show rkR op lf rt r < rkR op lf rt p by omega)
    omega
/-- a goal IF: the weight falls too -/
theorem mu_un {g : Nat} (ho : RPo P op lf rt) (hR : rkB 300 P op lf rt) (hg : g < P) (h9 : op g = 9) : muR op lf rt (upB (upB Γ (lf g) true) 0 false) (rt g) < muR op lf rt Γ g := by
  have hl := (ho.to g hg).2 (by omega)
  have u1 := wS_up (fun p => 3 ^ rkR op lf rt p) Γ (lf g) 1000
  have u2 := wS_dn' (fun p => 3 ^ rkR op lf rt p) (upB Γ (lf g) true) 0 1000
  have h1 : 3 ^ rkR op lf rt (lf g) ≤ 3 ^ 300 := Nat.pow_le_pow_right (by decide) (hR (lf g) (by omega))
  have h2 : (rt g + 1) * (3 ^ 300 + 1) ≤ g * (3 ^ 300 + 1) := Nat.mul_le_mul_right _ (by omega)
  rw [Nat.succ_mul] at h2
  unfold muR wtR
  generalize 3 ^ 300 = X at *
  omega
theorem mu_bd {g : Nat} (hR : rkB 300 P op lf rt) (hG : inP P Γ) (hg : g < 1000) : muR op lf rt Γ g + 10 ≤ 2 ^ 7000 := by
  have h1 : wtR op lf rt Γ ≤ 1000 * 3 ^ 300 := wS_bd Γ 1000 fun p _ hp => Nat.pow_le_pow_right (by decide) (hR p (hG p hp))
  have h2 : g * (3 ^ 300 + 1) ≤ 1000 * (3 ^ 300 + 1) := Nat.mul_le_mul_right _ (by omega)
  have h3 : 1000 * 3 ^ 300 + 1000 * (3 ^ 300 + 1) + 10 ≤ 2 ^ 7000 := by decide +kernel
  exact Nat.le_trans (Nat.add_le_add_right (Nat.add_le_add h1 h2) 10) h3
end WEI
