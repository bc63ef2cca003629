/-! THE REFERENCE'S SEARCH: what loosens does keeps the meaning of what is given -/
def aT {W : Type} (R : W → W → Prop) (V : Nat → W → Prop) (P : Nat) (op lf rt : Nat → Nat) (Γ : Nat → Bool) (w : W) : Prop := ∀ q, q < P → Γ q = true → kT R V op lf rt q w
section SND
variable {W : Type} {R : W → W → Prop} {V : Nat → W → Prop} {op lf rt : Nat → Nat} {P : Nat} {Γ : Nat → Bool}
theorem aT_add {r : Nat} (hr : r < P) (w : W) : aT R V P op lf rt (upB Γ r true) w ↔ aT R V P op lf rt Γ w ∧ kT R V op lf rt r w := by
  refine ⟨fun h => ⟨fun q hq hg => h q hq (upB_le hg), h r hr (upB_s _ _ _)⟩, fun h q hq hg => ?_⟩
  by_cases e : q = r
  · subst e; exact h.2
  · exact h.1 q hq (by rw [← hg]; exact (if_neg e).symm)
theorem aT_del {p : Nat} (hp : p < P) (hg : Γ p = true) (w : W) : aT R V P op lf rt Γ w ↔ aT R V P op lf rt (upB Γ p false) w ∧ kT R V op lf rt p w := by
  refine ⟨fun h => ⟨fun q hq hq2 => ?_, h p hp hg⟩, fun h q hq hq2 => ?_⟩
  · by_cases e : q = p
    · subst e; exact h q hq hg
    · exact h q hq (by rw [← hq2]; exact (if_neg e).symm)
  · by_cases e : q = p
    · subst e; exact h.2
    · exact h.1 q hq (by rw [← hq2]; exact if_neg e)
theorem upB_ne {p q : Nat} {x : Bool} (h : q ≠ p) : upB Γ p x q = Γ q := if_neg h
theorem gI.k {r x y : Nat} (hk : isKM R V) (h : gI op lf rt r x y) (w : W) : kT R V op lf rt r w ↔ ∀ w', R w w' → kT R V op lf rt x w' → kT R V op lf rt y w' := by
  unfold kT
  rw [h _ _ _ _ _ (fun _ => False) (kGA hk)]
  exact Iff.rfl
theorem lsR_eq {p : Nat} {Γ1 : Nat → Bool} (hk : isKM R V) (ht : To P op lf rt) (hp : p < P) (hg : Γ p = true) (h : lsR P op lf rt Γ p Γ1) (w : W) : aT R V P op lf rt Γ w ↔ aT R V P op lf rt Γ1 w := by
  rw [aT_del hp hg w]
  rcases h with ⟨c, rfl⟩ | ⟨c, h1, rfl⟩ | ⟨c, h1, rfl⟩ | ⟨c, h1, h2, c2, s, r, hs, hr, g1, g2, rfl⟩ | ⟨c, h1, h2, c2, s, r, hs, hr, g1, g2, rfl⟩
  · have hl := (ht p hp).2 (by omega)
    rw [aT_add (by omega), aT_add (by omega), kT_7 ht hp c, and_assoc]
  · have hl := (ht p hp).2 (by omega)
    refine ⟨fun h => h.1, fun h => ⟨h, (kT_8 ht hp c w).mpr ?_⟩⟩
    rcases h1 with h1 | h1
    · exact Or.inl (h _ (by omega) (by rw [upB_ne (by omega)]; exact h1))
    · exact Or.inr (h _ (by omega) (by rw [upB_ne (by omega)]; exact h1))
  · have hl := (ht p hp).2 (by omega)
    rw [aT_add (by omega)]
    refine ⟨fun h => ⟨h.1, ?_⟩, fun h => ⟨h.1, (kT_9 ht hp c w).mpr fun w' hw _ => kT_up hk ht _ (by omega) _ _ hw h.2⟩⟩
    rcases h1 with h1 | h1
    · exact (kT_9 ht hp c w).mp h.2 w (hk.1 w) (h.1 _ (by omega) (by rw [upB_ne (by omega)]; exact h1))
    · exact h.1 _ (by omega) (by rw [upB_ne (by omega)]; exact h1)
  · have hl := (ht p hp).2 (by omega)
    have hl2 := (ht (lf p) (by omega)).2 (by omega)
    rw [aT_add hr, kT_9 ht hp c, g2.k hk]
    refine and_congr_right fun _ => ⟨fun h w' hw ha => (g1.k hk w').mpr fun w'' hw2 hb => h w'' (hk.2.1 _ _ _ hw hw2) ((kT_7 ht (by omega) c2 w'').mpr ⟨kT_up hk ht _ (by omega) _ _ hw2 ha, hb⟩), fun h w' hw ha => ?_⟩
    obtain ⟨a1, a2⟩ := (kT_7 ht (by omega) c2 w').mp ha
    exact (g1.k hk w').mp (h w' hw a1) w' (hk.1 w') a2
  · have hl := (ht p hp).2 (by omega)
    have hl2 := (ht (lf p) (by omega)).2 (by omega)
    rw [aT_add hr, aT_add hs, kT_9 ht hp c, g1.k hk, g2.k hk, and_assoc]
    refine and_congr_right fun _ => ⟨fun h => ⟨fun w' hw ha => h w' hw ((kT_8 ht (by omega) c2 w').mpr (Or.inl ha)), fun w' hw ha => h w' hw ((kT_8 ht (by omega) c2 w').mpr (Or.inr ha))⟩, fun h w' hw ha => ?_⟩
    rcases (kT_8 ht (by omega) c2 w').mp ha with ha | ha
    · exact h.1 w' hw ha
    · exact h.2 w' hw ha
/-- a table that grows keeps the meaning of the old parts -/
theorem kT_ext {P1 : Nat} {op1 lf1 rt1 : Nat → Nat} (ho : RPo P op lf rt) (e : REx P op lf rt P1 op1 lf1 rt1) {p : Nat} (hp : p < P) (w : W) : kT R V op1 lf1 rt1 p w ↔ kT R V op lf rt p w := by
  unfold kT
  rw [qv_ext ho e.2 p hp]
end SND
