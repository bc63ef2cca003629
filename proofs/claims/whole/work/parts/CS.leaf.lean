/-! THE REFERENCE'S SEARCH: what is shown at once; the goal taken apart -/
section LEAF
variable {op lf rt : Nat → Nat} {P : Nat} {Γ : Nat → Bool}
theorem RPo.k0 (ho : RPo P op lf rt) (h : 0 < P) {W : Type} (R : W → W → Prop) (V : Nat → W → Prop) (w : W) : kT R V op lf rt 0 w := by
  have h4 : op 0 = 4 := by
    rcases ho.1 0 h with h1 | h1 | h1 <;> omega
  exact (kT_lf (by omega) w).mpr (by rw [if_neg (by omega)]; exact h4)
theorem RPo.k1 (ho : RPo P op lf rt) (h : 1 < P) {W : Type} (R : W → W → Prop) (V : Nat → W → Prop) (w : W) : ¬ kT R V op lf rt 1 w := by
  have h5 : op 1 = 5 := by
    rcases ho.1 1 h with h1 | h1 | h1 <;> omega
  intro hc
  have := (kT_lf (by omega) w).mp hc
  rw [if_neg (by omega)] at this
  omega
theorem prv_0 (ho : RPo P op lf rt) (h : 0 < P) : Prv P op lf rt Γ 0 := fun W R V w _ _ => ho.k0 h R V w
theorem prv_1 (ho : RPo P op lf rt) (h : 1 < P) (h1 : Γ 1 = true) (g : Nat) : Prv P op lf rt Γ g := fun W R V w _ hw => absurd (hw 1 h h1) (ho.k1 h R V w)
theorem prv_g {g : Nat} (hg : g < P) (h1 : Γ g = true) : Prv P op lf rt Γ g := fun W R V w _ hw => hw g hg h1
/-- a goal IF: its left is given, its right is the goal -/
theorem prv_9 (ho : RPo P op lf rt) {g : Nat} (hg : g < P) (h9 : op g = 9) : Prv P op lf rt Γ g ↔ Prv P op lf rt (upB Γ (lf g) true) (rt g) := by
  have ht := ho.to
  have hl := (ht g hg).2 (by omega)
  constructor
  · intro h W R V w hk hw
    have h1 := (aT_add (by omega) w).mp hw
    exact (kT_9 ht hg h9 w).mp (h W R V w hk h1.1) w (hk.1 w) h1.2
  · intro h W R V w hk hw
    refine (kT_9 ht hg h9 w).mpr fun w' hR ha => h W R V w' hk ((aT_add (by omega) w').mpr ⟨fun q hq hq2 => kT_up hk ht q hq _ _ hR (hw q hq hq2), ha⟩)
/-- taking 0 away changes nothing -/
theorem prv_l0 (ho : RPo P op lf rt) (h0 : 0 < P) (g : Nat) : Prv P op lf rt (upB Γ 0 false) g ↔ Prv P op lf rt Γ g := by
  constructor
  · exact fun h W R V w hk hw => h W R V w hk fun q hq hq2 => by
      by_cases e : q = 0
      · subst e; exact ho.k0 h0 R V w
      · exact hw q hq (by rw [← hq2]; exact (if_neg e).symm)
  · exact fun h W R V w hk hw => h W R V w hk fun q hq hq2 => by
      by_cases e : q = 0
      · subst e; exact ho.k0 h0 R V w
      · exact hw q hq (by rw [← hq2]; exact if_neg e)
/-- one part taken to pieces: the same follows -/
theorem prv_ls {p g : Nat} {Γ1 : Nat → Bool} (ho : RPo P op lf rt) (hp : p < P) (hg : Γ p = true) (h : lsR P op lf rt Γ p Γ1) : Prv P op lf rt Γ g ↔ Prv P op lf rt Γ1 g :=
  ⟨fun H W R V w hk hw => H W R V w hk ((lsR_eq hk ho.to hp hg h w).mpr hw), fun H W R V w hk hw => H W R V w hk ((lsR_eq hk ho.to hp hg h w).mp hw)⟩
theorem kpF_np {k g : Nat} (ho : RPo P op lf rt) (hk : k < 4) (hg : g < P) (h : kpF op lf rt P k Γ g) : ¬ Prv P op lf rt Γ g := fun H => by
  obtain ⟨W, R, V, w, h1, h2, h3⟩ := kpF_no ho hk hg h
  exact h3 (H W R V w h1 h2)
end LEAF
