/-! STAGES THAT ARE ALIKE: the greatest bisimulation; two ways to it -/
/-- one leads on as the other one does -/
def fwd (L : Nat → Nat) (E : Nat → Nat → Prop) (s t : Nat) : Prop := ∀ u, (L s).testBit u = true → ∃ v, (L t).testBit v = true ∧ E u v
def Al (n : Nat) (L F : Nat → Nat) (s t : Nat) : Prop := ∃ E : Nat → Nat → Prop, (∀ a c, E a c → E c a) ∧ (∀ a c, E a c → a < n ∧ c < n ∧ F a = F c ∧ fwd L E a c) ∧ E s t
section BIS
variable {n : Nat} {L F : Nat → Nat}
theorem Al.sy {s t : Nat} (h : Al n L F s t) : Al n L F t s := by
  obtain ⟨E, h1, h2, h3⟩ := h
  exact ⟨E, h1, h2, h1 _ _ h3⟩
theorem Al.rf (hL : ∀ i, i < n → L i < 2 ^ n) {s : Nat} (h : s < n) : Al n L F s s := by
  refine ⟨fun a c => a = c ∧ a < n, fun a c h => ⟨h.1.symm, h.1 ▸ h.2⟩, fun a c h => ?_, rfl, h⟩
  obtain ⟨rfl, h2⟩ := h
  refine ⟨h2, h2, rfl, fun u hu => ⟨u, hu, rfl, Nat.not_le.mp fun hle => ?_⟩⟩
  rw [bt_lt (hL a h2) hle] at hu
  cases hu
theorem Al.lt {s t : Nat} (h : Al n L F s t) : s < n ∧ t < n := by
  obtain ⟨E, h1, h2, h3⟩ := h
  exact ⟨(h2 _ _ h3).1, (h2 _ _ h3).2.1⟩
theorem Al.fc {s t : Nat} (h : Al n L F s t) : F s = F t := by
  obtain ⟨E, h1, h2, h3⟩ := h
  exact (h2 _ _ h3).2.2.1
theorem Al.fw {s t : Nat} (h : Al n L F s t) : fwd L (Al n L F) s t := by
  obtain ⟨E, h1, h2, h3⟩ := h
  intro u hu
  obtain ⟨v, hv, hE⟩ := (h2 _ _ h3).2.2.2 u hu
  exact ⟨v, hv, E, h1, h2, hE⟩
theorem Al.tr {s t r : Nat} (h : Al n L F s t) (h2 : Al n L F t r) : Al n L F s r := by
  refine ⟨fun a c => ∃ x, Al n L F a x ∧ Al n L F x c, fun a c h => ?_, fun a c h => ?_, t, h, h2⟩
  · obtain ⟨x, h1, h2⟩ := h
    exact ⟨x, h2.sy, h1.sy⟩
  · obtain ⟨x, h1, h2⟩ := h
    refine ⟨h1.lt.1, h2.lt.2, h1.fc.trans h2.fc, fun u hu => ?_⟩
    obtain ⟨v, hv, e1⟩ := h1.fw u hu
    obtain ⟨z, hz, e2⟩ := h2.fw v hv
    exact ⟨z, hz, v, e1, e2⟩
/-- a relation that lies in every step is the greatest one -/
theorem Al.of {E : Nat → Nat → Prop} (hs : ∀ a c, E a c → E c a) (hc : ∀ a c, E a c → a < n ∧ c < n ∧ F a = F c ∧ fwd L E a c) {s t : Nat} (h : E s t) : Al n L F s t := ⟨E, hs, hc, h⟩
/-- step by step -/
def Bk (n : Nat) (L F : Nat → Nat) : Nat → Nat → Nat → Prop
  | 0 => fun s t => s < n ∧ t < n ∧ F s = F t
  | r + 1 => fun s t => Bk n L F r s t ∧ fwd L (Bk n L F r) s t ∧ fwd L (Bk n L F r) t s
theorem Bk.lt : ∀ {r s t : Nat}, Bk n L F r s t → s < n ∧ t < n
  | 0, _, _, h => ⟨h.1, h.2.1⟩
  | r + 1, _, _, h => Bk.lt (r := r) h.1
theorem Bk.fc : ∀ {r s t : Nat}, Bk n L F r s t → F s = F t
  | 0, _, _, h => h.2.2
  | r + 1, _, _, h => Bk.fc (r := r) h.1
theorem Bk.sy : ∀ {r s t : Nat}, Bk n L F r s t → Bk n L F r t s
  | 0, _, _, h => ⟨h.2.1, h.1, h.2.2.symm⟩
  | r + 1, _, _, h => ⟨Bk.sy (r := r) h.1, h.2.2, h.2.1⟩
theorem Bk.rf (hL : ∀ i, i < n → L i < 2 ^ n) : ∀ {r s : Nat}, s < n → Bk n L F r s s
  | 0, _, h => ⟨h, h, rfl⟩
  | r + 1, s, h => by
    have e : fwd L (Bk n L F r) s s := fun u hu => ⟨u, hu, Bk.rf hL (r := r) (Nat.not_le.mp fun hle => by rw [bt_lt (hL s h) hle] at hu; cases hu)⟩
    exact ⟨Bk.rf hL (r := r) h, e, e⟩
theorem Bk.tr : ∀ {r s t x : Nat}, Bk n L F r s t → Bk n L F r t x → Bk n L F r s x
  | 0, _, _, _, h, h2 => ⟨h.1, h2.2.1, h.2.2.trans h2.2.2⟩
  | r + 1, s, t, x, h, h2 => by
    refine ⟨Bk.tr (r := r) h.1 h2.1, fun u hu => ?_, fun u hu => ?_⟩
    · obtain ⟨v, hv, e1⟩ := h.2.1 u hu
      obtain ⟨z, hz, e2⟩ := h2.2.1 v hv
      exact ⟨z, hz, Bk.tr (r := r) e1 e2⟩
    · obtain ⟨v, hv, e1⟩ := h2.2.2 u hu
      obtain ⟨z, hz, e2⟩ := h.2.2 v hv
      exact ⟨z, hz, Bk.tr (r := r) e1 e2⟩
theorem Al.toB {s t : Nat} (h : Al n L F s t) : ∀ r, Bk n L F r s t := by
  intro r
  induction r generalizing s t with
  | zero => exact ⟨h.lt.1, h.lt.2, h.fc⟩
  | succ r ih =>
    refine ⟨ih h, fun u hu => ?_, fun u hu => ?_⟩
    · obtain ⟨v, hv, e⟩ := h.fw u hu
      exact ⟨v, hv, ih e⟩
    · obtain ⟨v, hv, e⟩ := h.sy.fw u hu
      exact ⟨v, hv, ih e⟩
theorem Bk.le : ∀ (d : Nat) {r s t : Nat}, Bk n L F (r + d) s t → Bk n L F r s t
  | 0, _, _, _, h => h
  | d + 1, r, _, _, h => Bk.le d (r := r) h.1
/-- a step that tells nothing new is the end -/
theorem Bk.stable {r : Nat} (hst : ∀ s t, Bk n L F r s t → Bk n L F (r + 1) s t) {s t : Nat} (h : Bk n L F r s t) : Al n L F s t :=
  Al.of (E := Bk n L F r) (fun a c h => h.sy) (fun a c h => ⟨h.lt.1, h.lt.2, h.fc, (hst a c h).2.1⟩) h
/-- how many below k have a property -/
noncomputable def cnP (P : Nat → Prop) : Nat → Nat
  | 0 => 0
  | k + 1 => cnP P k + @ite Nat (P k) (Classical.propDecidable _) 1 0
theorem cnP_le (P : Nat → Prop) : ∀ k, cnP P k ≤ k
  | 0 => Nat.le_refl _
  | k + 1 => by
    have h := cnP_le P k
    show cnP P k + _ ≤ k + 1
    by_cases hk : P k
    · rw [if_pos hk]; omega
    · rw [if_neg hk]; omega
theorem cnP_mono {P Q : Nat → Prop} : ∀ k, (∀ i, i < k → P i → Q i) → cnP P k ≤ cnP Q k
  | 0, _ => Nat.le_refl _
  | k + 1, h => by
    have h1 := cnP_mono k (fun i hi => h i (by omega))
    show cnP P k + _ ≤ cnP Q k + _
    by_cases hk : P k
    · rw [if_pos hk, if_pos (h k (by omega) hk)]; omega
    · rw [if_neg hk]; omega
theorem cnP_lt {P Q : Nat → Prop} : ∀ k, (∀ i, i < k → P i → Q i) → ∀ j, j < k → ¬ P j → Q j → cnP P k < cnP Q k
  | 0, _, j, hj, _, _ => absurd hj (by omega)
  | k + 1, h, j, hj, h1, h2 => by
    show cnP P k + _ < cnP Q k + _
    by_cases hjk : j = k
    · subst hjk
      have := cnP_mono (P := P) (Q := Q) j (fun i hi => h i (by omega))
      rw [if_neg h1, if_pos h2]; omega
    · have := cnP_lt k (fun i hi => h i (by omega)) j (by omega) h1 h2
      by_cases hk : P k
      · rw [if_pos hk, if_pos (h k (by omega) hk)]; omega
      · rw [if_neg hk]; omega
/-- the lowest of its class -/
def rep (E : Nat → Nat → Prop) (i : Nat) : Prop := E i i ∧ ∀ j, j < i → ¬ E j i
theorem low_ex {E : Nat → Nat → Prop} {i : Nat} (h : E i i) : ∃ j, E j i ∧ ∀ k, k < j → ¬ E k i := by
  suffices H : ∀ m, (∃ j, j ≤ m ∧ E j i) → ∃ j, E j i ∧ ∀ k, k < j → ¬ E k i from H i ⟨i, Nat.le_refl _, h⟩
  intro m
  induction m with
  | zero =>
    intro ⟨j, hj, hE⟩
    exact ⟨j, hE, fun k hk => absurd hk (by omega)⟩
  | succ m ih =>
    intro ⟨j, hj, hE⟩
    by_cases hx : ∃ j, j ≤ m ∧ E j i
    · exact ih hx
    · exact ⟨j, hE, fun k hk hk2 => hx ⟨k, by omega, hk2⟩⟩
theorem Bk.grow (hL : ∀ i, i < n → L i < 2 ^ n) {r s t : Nat} (h : Bk n L F r s t) (hn : ¬ Bk n L F (r + 1) s t) : cnP (rep (Bk n L F r)) n < cnP (rep (Bk n L F (r + 1))) n := by
  have mono : ∀ i, i < n → rep (Bk n L F r) i → rep (Bk n L F (r + 1)) i := fun i hi h => ⟨Bk.rf hL hi, fun j hj hE => h.2 j hj (Bk.le 1 hE)⟩
  obtain ⟨i, hi, him⟩ := low_ex (Bk.rf (F := F) hL (r := r) h.lt.1)
  have key : ∀ x, Bk n L F r i x → ¬ Bk n L F (r + 1) i x → cnP (rep (Bk n L F r)) n < cnP (rep (Bk n L F (r + 1))) n := by
    intro x hx hnx
    obtain ⟨j, hj, hjm⟩ := low_ex (Bk.rf (F := F) hL (r := r + 1) hx.lt.2)
    have hji : i < j := by
      rcases Nat.lt_trichotomy i j with h1 | h1 | h1
      · exact h1
      · subst h1; exact absurd hj hnx
      · exact absurd ((Bk.le 1 hj).tr (hx.sy.tr hi)) (him j h1)
    have hij : Bk n L F r i j := hx.tr (Bk.le 1 hj).sy
    refine cnP_lt n mono j hj.lt.1 (fun h => h.2 i hji hij) ⟨Bk.rf hL hj.lt.1, fun k hk hE => hjm k hk (hE.tr hj)⟩
  by_cases h1 : Bk n L F (r + 1) i s
  · by_cases h2 : Bk n L F (r + 1) i t
    · exact absurd (h1.sy.tr h2) hn
    · exact key t (hi.tr h) h2
  · exact key s hi h1
/-- after n - 1 steps nothing more is told apart -/
theorem Bk.fin (hL : ∀ i, i < n → L i < 2 ^ n) (h1 : 1 ≤ n) {s t : Nat} (h : Bk n L F (n - 1) s t) : Al n L F s t := by
  have H : ∀ r, (∃ q, q ≤ r ∧ ∀ s t, Bk n L F q s t → Bk n L F (q + 1) s t) ∨ r + 2 ≤ cnP (rep (Bk n L F (r + 1))) n := by
    intro r
    induction r with
    | zero =>
      by_cases hx : ∀ s t, Bk n L F 0 s t → Bk n L F 1 s t
      · exact Or.inl ⟨0, Nat.le_refl _, hx⟩
      · refine Or.inr ?_
        simp only [Classical.not_forall] at hx
        obtain ⟨s, t, h1, h2⟩ := hx
        have hg := Bk.grow hL h1 h2
        have h0 : 1 ≤ cnP (rep (Bk n L F 0)) n := by
          obtain ⟨i, hi, him⟩ := low_ex (Bk.rf (F := F) hL (r := 0) h1.lt.1)
          have := cnP_lt (P := fun _ => False) (Q := rep (Bk n L F 0)) n (fun i hi h => h.elim) i hi.lt.1 (fun h => h) ⟨Bk.rf hL hi.lt.1, fun k hk hE => him k hk (hE.tr hi)⟩
          omega
        omega
    | succ r ih =>
      rcases ih with ⟨q, hq, hs⟩ | ih
      · exact Or.inl ⟨q, by omega, hs⟩
      · by_cases hx : ∀ s t, Bk n L F (r + 1) s t → Bk n L F (r + 2) s t
        · exact Or.inl ⟨r + 1, Nat.le_refl _, hx⟩
        · refine Or.inr ?_
          simp only [Classical.not_forall] at hx
          obtain ⟨s, t, h1, h2⟩ := hx
          have hg := Bk.grow hL h1 h2
          omega
  rcases H (n - 1) with ⟨q, hq, hs⟩ | hc
  · refine Bk.stable hs (Bk.le (n - 1 - q) ?_)
    rw [show q + (n - 1 - q) = n - 1 by omega]
    exact h
  · have := cnP_le (rep (Bk n L F (n - 1 + 1))) n
    omega
end BIS
