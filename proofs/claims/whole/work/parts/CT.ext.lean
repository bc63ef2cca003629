/-! A TABLE THAT GROWS KEEPS WHAT FOLLOWS -/
theorem prv_ext {P P1 : Nat} {op lf rt op1 lf1 rt1 : Nat → Nat} {Γ : Nat → Bool} {g : Nat} (ho : RPo P op lf rt) (e : REx P op lf rt P1 op1 lf1 rt1) (hG : ∀ q, Γ q = true → q < P) (hg : g < P) : Prv P op lf rt Γ g ↔ Prv P1 op1 lf1 rt1 Γ g := by
  constructor
  · intro H W R V w hk hw
    exact (kT_ext ho e hg w).mpr (H W R V w hk fun q hq hq2 => (kT_ext ho e hq w).mp (hw q (Nat.lt_of_lt_of_le hq e.1) hq2))
  · intro H W R V w hk hw
    exact (kT_ext ho e hg w).mp (H W R V w hk fun q _ hq2 => (kT_ext ho e (hG q hq2) w).mpr (hw q (hG q hq2) hq2))
/-- what is given stays within the table -/
theorem lsR_in {P : Nat} {op lf rt : Nat → Nat} {Γ Γ1 : Nat → Bool} {p : Nat} (ho : RPo P op lf rt) (hp : p < P) (hG : ∀ q, Γ q = true → q < P) (h : lsR P op lf rt Γ p Γ1) : ∀ q, Γ1 q = true → q < P := by
  have up : ∀ (K : Nat → Bool) (r : Nat) (x : Bool), r < P → (∀ q, K q = true → q < P) → ∀ q, upB K r x q = true → q < P := fun K r x hr hK q hq => by
    by_cases e : q = r
    · rw [e]; exact hr
    · exact hK q (by rw [← hq]; exact (if_neg e).symm)
  have ht := ho.to
  rcases h with ⟨c, rfl⟩ | ⟨c, h1, rfl⟩ | ⟨c, h1, rfl⟩ | ⟨c, h1, h2, c2, s, r, hs, hr, g1, g2, rfl⟩ | ⟨c, h1, h2, c2, s, r, hs, hr, g1, g2, rfl⟩
  · have hl := (ht p hp).2 (by omega)
    exact up _ _ _ (by omega) (up _ _ _ (by omega) (up _ _ _ hp hG))
  · exact up _ _ _ hp hG
  · have hl := (ht p hp).2 (by omega)
    exact up _ _ _ (by omega) (up _ _ _ hp hG)
  · exact up _ _ _ hr (up _ _ _ hp hG)
  · exact up _ _ _ hr (up _ _ _ hs (up _ _ _ hp hG))
