/-! THE DEPTH: the two bounds, over the small steps -/
def cA (op : Nat → Nat) (Γ : Nat → Bool) : Nat := wS (fun p => if op p < 4 then 1 else 0) Γ 1000
def inv1 (op lf rt : Nat → Nat) (B d : Nat) (Γ : Nat → Bool) (g : Nat) : Prop := d + psS op lf rt (grR op lf rt) (w1R op lf rt) (s1R op lf rt) Γ + g1R op lf rt g + 4 ≤ B + cA op Γ
def inv2 (E v : Nat → Bool) (op lf rt : Nat → Nat) (B d : Nat) (Γ : Nat → Bool) (g : Nat) : Prop := d + psS op lf rt (grR op lf rt) (w2R E v op lf rt) (sr2R E v op lf rt) Γ + G2R E v op lf rt g + 4 ≤ B + cA op Γ
section INV
variable {P : Nat} {op lf rt : Nat → Nat} {E v : Nat → Bool} {B d g : Nat} {Γ Γ1 : Nat → Bool}
theorem cA_sub {p : Nat} (h6 : 6 ≤ op p ∨ Γ1 p = true ∨ op p = 4) (h : ∀ q, q ≠ p → Γ q = true → Γ1 q = true) : cA op Γ ≤ cA op Γ1 := wS_le 1000 fun q _ => by
  by_cases e : Γ q = true
  · by_cases e1 : Γ1 q = true
    · rw [if_pos e, if_pos e1]; exact Nat.le_refl _
    · rw [if_pos e, if_neg e1]
      by_cases eq : q = p
      · subst eq
        rcases h6 with h6 | h6 | h6
        · show (if op q < 4 then 1 else 0) ≤ 0
          rw [if_neg (by omega)]; exact Nat.le_refl _
        · exact absurd h6 e1
        · show (if op q < 4 then 1 else 0) ≤ 0
          rw [if_neg (by omega)]; exact Nat.le_refl _
      · exact absurd (h q eq e) e1
  · rw [if_neg e]; exact Nat.zero_le _
theorem ls_sub {p : Nat} (hls : lsS P op lf rt Γ p Γ1) : 6 ≤ op p ∧ ∀ q, q ≠ p → Γ q = true → Γ1 q = true := by
  have keep : ∀ q, q ≠ p → Γ q = true → upB Γ p false q = true := fun q e h => by rw [← h]; exact if_neg e
  rcases hls with ⟨c, rfl⟩ | ⟨c, h1, rfl⟩ | ⟨c, h1, rfl⟩ | ⟨c, h1, h2, c2, s, r, hs, hr, g1, g2, rfl⟩ | ⟨c, h1, h2, c2, s, r, hs, hr, g1, g2, rfl⟩
  · exact ⟨by omega, fun q e h => upB_le (upB_le (keep q e h))⟩
  · exact ⟨by omega, keep⟩
  · exact ⟨by omega, fun q e h => upB_le (keep q e h)⟩
  · exact ⟨by omega, fun q e h => upB_le (keep q e h)⟩
  · exact ⟨by omega, fun q e h => upB_le (upB_le (keep q e h))⟩
theorem inv1_ls (ho : RPo P op lf rt) (hP : P ≤ 1000) {p : Nat} (hp : p < P) (hg : Γ p = true) (hls : lsS P op lf rt Γ p Γ1) (h : inv1 op lf rt B d Γ g) : inv1 op lf rt B d Γ1 g := by
  unfold inv1 at *
  have h1 := ps1_ls ho hP hp hg hls
  have h2 := cA_sub (op := op) (Or.inl (ls_sub hls).1) (ls_sub hls).2
  omega
theorem inv2_ls (ho : RPo P op lf rt) (hP : P ≤ 1000) {p : Nat} (hp : p < P) (hg : Γ p = true) (hls : lsS P op lf rt Γ p Γ1) (hok : ∀ q, Γ1 q = true → okR E v op lf rt q = true) (h : inv2 E v op lf rt B d Γ g) : inv2 E v op lf rt B d Γ1 g := by
  unfold inv2 at *
  have h1 := ps2_ls (E := E) (v := v) ho hP hp hg hls hok
  have h2 := cA_sub (op := op) (Or.inl (ls_sub hls).1) (ls_sub hls).2
  omega
theorem up_sub (q : Nat) : ∀ z, z ≠ q → Γ z = true → upB Γ q true z = true := fun z _ h => upB_le h
theorem inv1_goal (ho : RPo P op lf rt) (hg : g < P) (h9 : op g = 9) (h : inv1 op lf rt B d Γ g) : inv1 op lf rt B d (upB Γ (lf g) true) (rt g) := by
  unfold inv1 at *
  have hl := (ho.to g hg).2 (by omega)
  have h1 := ptOK.add (Γ := Γ) (pt1_ok ho) (show lf g < P by omega)
  have h2 := cA_sub (op := op) (Γ := Γ) (Γ1 := upB Γ (lf g) true) (p := lf g) (Or.inr (Or.inl (upB_s _ _ _))) (up_sub (lf g))
  have h3 := goal1 ho hg h9
  omega
theorem inv2_goal (ho : RPo P op lf rt) (hg : g < P) (h9 : op g = 9) (ht : t2R E v op lf rt g = true) (h : inv2 E v op lf rt B d Γ g) : inv2 E v op lf rt B d (upB Γ (lf g) true) (rt g) := by
  unfold inv2 at *
  have hl := (ho.to g hg).2 (by omega)
  have h1 := ptOK.add (Γ := Γ) (pt2_ok (E := E) (v := v) ho) (show lf g < P by omega)
  have h2 := cA_sub (op := op) (Γ := Γ) (Γ1 := upB Γ (lf g) true) (p := lf g) (Or.inr (Or.inl (upB_s _ _ _))) (up_sub (lf g))
  have h3 := goal2 (E := E) (v := v) ho hg h9 ht
  omega
theorem dn_le {p q : Nat} (h : upB Γ p false q = true) : Γ q = true := by
  by_cases e : q = p
  · rw [e, upB_s] at h; cases h
  · rw [← h]; exact (if_neg e).symm
theorem inv1_0 (ho : RPo P op lf rt) (hP : 0 < P) (h : inv1 op lf rt B d Γ g) : inv1 op lf rt B d (upB Γ 0 false) g := by
  unfold inv1 at *
  have h1 := ps_sub (op := op) (lf := lf) (rt := rt) (grp := grR op lf rt) (w := w1R op lf rt) (sr := s1R op lf rt) (Γ := Γ) (Γ1 := upB Γ 0 false) fun q hq => dn_le hq
  have h2 := cA_sub (op := op) (Γ := Γ) (Γ1 := upB Γ 0 false) (p := 0) (Or.inr (Or.inr (op_0 ho hP))) fun q e hq => by rw [← hq]; exact if_neg e
  omega
theorem inv2_0 (ho : RPo P op lf rt) (hP : 0 < P) (h : inv2 E v op lf rt B d Γ g) : inv2 E v op lf rt B d (upB Γ 0 false) g := by
  unfold inv2 at *
  have h1 := ps_sub (op := op) (lf := lf) (rt := rt) (grp := grR op lf rt) (w := w2R E v op lf rt) (sr := sr2R E v op lf rt) (Γ := Γ) (Γ1 := upB Γ 0 false) fun q hq => dn_le hq
  have h2 := cA_sub (op := op) (Γ := Γ) (Γ1 := upB Γ 0 false) (p := 0) (Or.inr (Or.inr (op_0 ho hP))) fun q e hq => by rw [← hq]; exact if_neg e
  omega
end INV
