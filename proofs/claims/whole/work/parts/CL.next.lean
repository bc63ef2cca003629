/-! THE REFERENCE'S SEARCH: the next part of a kind that is given -/
section NEXT
variable {b : Nat} {ia fi : Nat → Nat → Int32} {fl : Nat → Nat → Int64} {qa : Nat → Nat → Option Nat} {f : mmF} {op lf rt : Nat → Nat} {P : Nat} {Γ : Nat → Bool}
/-- a part that 'next' stops at: an OR (8), or an IF whose left is an IF (9) -/
def nxO (op lf : Nat → Nat) (Γ : Nat → Bool) (o p : Nat) : Prop := op p = o ∧ Γ p = true ∧ (o = 9 → op (lf p) = 9)
theorem RP.op_lt (h : RP b ia fi P op lf rt) {p : Nat} (hp : p < P) : op p < 10 := by
  rcases h.2.2.1.1 p hp with ⟨h1, h2, _⟩ | ⟨_, h2, _⟩ | ⟨_, _, h2, _⟩ <;> omega
theorem RP.lf_lt (h : RP b ia fi P op lf rt) {p : Nat} (hp : p < P) (ho : 7 ≤ op p) : 2 ≤ lf p ∧ lf p < p ∧ 1 ≤ rt p ∧ rt p < p := by
  rcases h.2.2.1.1 p hp with ⟨h1, h2, _⟩ | ⟨_, h2, _⟩ | ⟨_, _, _, h3, h4, h5, h6, _⟩
  · omega
  · omega
  · exact ⟨h3, h4, h5, h6⟩
theorem RP.row (h : RP b ia fi P op lf rt) {p : Nat} (hp : p < P) : ia (b + 93) p = nI (op p) ∧ ia (b + 94) p = nI (lf p) ∧ ia (b + 95) p = nI (rt p) ∧ p < 1000 := ⟨(h.2.1.2 p hp).1, (h.2.1.2 p hp).2.1, (h.2.1.2 p hp).2.2, Nat.lt_of_lt_of_le hp h.1⟩
theorem next_3 {d o : Nat} (hr : RP b ia fi P op lf rt) (g : gv b ia d Γ) (hd : d < 600) (ho : o < 10) : ∀ (m i q : Nat), i + m = P → m < q → (∃ p, i ≤ p ∧ p < P ∧ nxO op lf Γ o p ∧ (∀ j, i ≤ j → j < p → ¬ nxO op lf Γ o j) ∧ f_X10_next_3 (wr (SK b) ia fi fl qa f) q (b + 83) (nI d) (nI o) (nI i) = some (nI p)) ∨ ((∀ j, i ≤ j → j < P → ¬ nxO op lf Γ o j) ∧ f_X10_next_3 (wr (SK b) ia fi fl qa f) q (b + 83) (nI d) (nI o) (nI i) = some (-5)) := by
  have eq : ∀ u v : Nat, u < 1000 → v < 1000 → (nI u = nI v) = (u = v) := fun u v hu hv => propext (nI_eq (by omega) (by omega))
  intro m
  induction m with
  | zero =>
    intro i q hi hq
    obtain ⟨q, rfl⟩ : ∃ k, q = k + 1 := ⟨q - 1, by omega⟩
    have hi : i = P := by omega
    subst hi
    refine Or.inr ⟨fun j h1 h2 => absurd h2 (by omega), ?_⟩
    rw [f_X10_next_3]
    simp only [I_83_19, hr.2.1.1, Option.bind_some]
    rw [if_pos (Int32.le_refl _)]
  | succ m ih =>
    intro i q hi hq
    obtain ⟨q, rfl⟩ : ∃ k, q = k + 1 := ⟨q - 1, by omega⟩
    have hiP : i < P := by omega
    have hP := hr.1
    obtain ⟨r1, r2, r3, r4⟩ := hr.row hiP
    have ho1 := hr.op_lt hiP
    have go : ¬ nxO op lf Γ o i → (∃ p, i ≤ p ∧ p < P ∧ nxO op lf Γ o p ∧ (∀ j, i ≤ j → j < p → ¬ nxO op lf Γ o j) ∧ f_X10_next_59 (fun a0 a1 a2 a3 => f_X10_next_3 (wr (SK b) ia fi fl qa f) q a0 a1 a2 a3) (wr (SK b) ia fi fl qa f) (b + 83) (nI d) (nI o) (nI i) = some (nI p)) ∨ ((∀ j, i ≤ j → j < P → ¬ nxO op lf Γ o j) ∧ f_X10_next_59 (fun a0 a1 a2 a3 => f_X10_next_3 (wr (SK b) ia fi fl qa f) q a0 a1 a2 a3) (wr (SK b) ia fi fl qa f) (b + 83) (nI d) (nI o) (nI i) = some (-5)) := by
      intro hn
      unfold f_X10_next_59
      rw [nI_1]
      rcases ih (i + 1) q (by omega) (by omega) with ⟨p, h1, h2, h3, h4, h5⟩ | ⟨h1, h2⟩
      · exact Or.inl ⟨p, by omega, h2, h3, fun j j1 j2 => by
          by_cases e : j = i
          · subst e; exact hn
          · exact h4 j (by omega) j2, h5⟩
      · exact Or.inr ⟨fun j j1 j2 => by
          by_cases e : j = i
          · subst e; exact hn
          · exact h1 j (by omega) j2, h2⟩
    rw [f_X10_next_3]
    simp only [I_83_19, hr.2.1.1, Option.bind_some]
    rw [if_neg (nI_ge (a := i) (b := P) (by omega) (by omega))]
    simp only [R_83_15, An_93 r4, r1, Option.bind_some, eq _ _ (show op i < 1000 by omega) (show o < 1000 by omega)]
    by_cases c1 : op i = o
    · rw [if_pos c1]
      simp only [ck_83, has_g g hd (show i < 1024 by omega), Option.bind_some]
      by_cases c2 : Γ i = true
      · rw [if_pos c2]
        rw [if_neg (show ¬ (1 : Int32) = 0 by decide)]
        simp only [show (9 : Int32) = nI 9 from rfl, eq _ _ (show o < 1000 by omega) (show 9 < 1000 by decide)]
        by_cases c3 : o = 9
        · obtain ⟨l1, l2, _, _⟩ := hr.lf_lt hiP (by omega)
          obtain ⟨s1, _, _, s4⟩ := hr.row (show lf i < P by omega)
          have hol := hr.op_lt (show lf i < P by omega)
          rw [if_pos c3]
          simp only [R_83_15, R_83_16, An_94 r4, r2, An_93 s4, s1, Option.bind_some, eq _ _ (show op (lf i) < 1000 by omega) (show 9 < 1000 by decide)]
          by_cases c4 : op (lf i) = 9
          · rw [if_pos c4]
            exact Or.inl ⟨i, Nat.le_refl _, hiP, ⟨c1, c2, fun _ => c4⟩, fun j h1 h2 => absurd h2 (by omega), rfl⟩
          · rw [if_neg c4]
            exact go (fun h => c4 (h.2.2 c3))
        · rw [if_neg c3]
          exact Or.inl ⟨i, Nat.le_refl _, hiP, ⟨c1, c2, fun h => absurd h c3⟩, fun j h1 h2 => absurd h2 (by omega), rfl⟩
      · rw [if_neg c2, if_pos rfl]
        exact go (fun h => c2 h.2.1)
    · rw [if_neg c1]
      exact go (fun h => c1 h.1)
theorem next_t {d o i : Nat} (hr : RP b ia fi P op lf rt) (g : gv b ia d Γ) (hd : d < 600) (ho : o < 10) (hi : i ≤ P) : (∃ p, i ≤ p ∧ p < P ∧ nxO op lf Γ o p ∧ (∀ j, i ≤ j → j < p → ¬ nxO op lf Γ o j) ∧ f_X10_next (b + 83) (nI d) (nI i) (nI o) (wr (SK b) ia fi fl qa f) = some (nI p)) ∨ ((∀ j, i ≤ j → j < P → ¬ nxO op lf Γ o j) ∧ f_X10_next (b + 83) (nI d) (nI i) (nI o) (wr (SK b) ia fi fl qa f) = some (-5)) := by
  obtain ⟨q, hq⟩ := FU_2000
  have hP := hr.1
  exact next_3 hr g hd ho (P - i) i FU (by omega) (by omega)
end NEXT
