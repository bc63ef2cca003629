/-! THE DEPTH: the numbers stay while the table grows; at most four atoms are given -/
section GROWP
variable {P P1 : Nat} {op lf rt op1 lf1 rt1 : Nat → Nat} {E v : Nat → Bool} {Γ : Nat → Bool} {g B d : Nat}
theorem q1_ext (ho : RPo P op lf rt) (e : REx P op lf rt P1 op1 lf1 rt1) {p : Nat} (hp : p < P) : q1R op1 lf1 rt1 p = q1R op lf rt p := qv_ext ho e.2 p hp
theorem q2_ext (ho : RPo P op lf rt) (e : REx P op lf rt P1 op1 lf1 rt1) {p : Nat} (hp : p < P) : q2R E v op1 lf1 rt1 p = q2R E v op lf rt p := qv_ext ho e.2 p hp
theorem t2_ext (ho : RPo P op lf rt) (e : REx P op lf rt P1 op1 lf1 rt1) {p : Nat} (hp : p < P) : t2R E v op1 lf1 rt1 p = t2R E v op lf rt p := by
  unfold t2R
  rw [q2_ext ho e hp]
theorem ok_ext (ho : RPo P op lf rt) (e : REx P op lf rt P1 op1 lf1 rt1) {p : Nat} (hp : p < P) : okR E v op1 lf1 rt1 p = okR E v op lf rt p := by
  have h : oqR E v op1 lf1 rt1 p = oqR E v op lf rt p := qv_ext ho e.2 p hp
  unfold okR
  rw [h]
theorem w1_ext (ho : RPo P op lf rt) (e : REx P op lf rt P1 op1 lf1 rt1) {p : Nat} (hp : p < P) : w1R op1 lf1 rt1 p = w1R op lf rt p ∧ s1R op1 lf1 rt1 p = s1R op lf rt p ∧ grR op1 lf1 rt1 p = grR op lf rt p ∧ g1R op1 lf1 rt1 p = g1R op lf rt p := by
  obtain ⟨e1, e2, e3⟩ := e.2 p hp
  have q := q1_ext ho e hp
  refine ⟨?_, ?_, ?_, ?_⟩
  · unfold w1R n1R
    rw [e1, e2, e3, q]
    by_cases h9 : op p = 9
    · have hl := (ho.to p hp).2 (by omega)
      rw [if_pos h9, if_pos h9]
      unfold i1R l1R s1R n1R l1R
      rw [q1_ext ho e (show lf p < P by omega), q1_ext ho e (show rt p < P by omega)]
    · rw [if_neg h9, if_neg h9]
  · unfold s1R n1R l1R
    rw [q]
  · unfold grR
    rw [q]
  · unfold g1R
    rw [q]
theorem w2_ext (ho : RPo P op lf rt) (e : REx P op lf rt P1 op1 lf1 rt1) {p : Nat} (hp : p < P) : w2R E v op1 lf1 rt1 p = w2R E v op lf rt p ∧ sr2R E v op1 lf1 rt1 p = sr2R E v op lf rt p ∧ G2R E v op1 lf1 rt1 p = G2R E v op lf rt p := by
  obtain ⟨e1, e2, e3⟩ := e.2 p hp
  have q := q2_ext (E := E) (v := v) ho e hp
  refine ⟨?_, ?_, ?_⟩
  · unfold w2R
    rw [(w1_ext ho e hp).1, t2_ext ho e hp, e1, e2, e3]
    by_cases h9 : op p = 9
    · have hl := (ho.to p hp).2 (by omega)
      rw [if_pos h9, if_pos h9, (e.2 (lf p) (by omega)).1, t2_ext ho e (show lf p < P by omega)]
      unfold i2R L2R S2R l1R s1R n1R l1R
      rw [q2_ext (E := E) (v := v) ho e (show lf p < P by omega), q2_ext (E := E) (v := v) ho e (show rt p < P by omega), q1_ext ho e (show rt p < P by omega)]
    · rw [if_neg h9, if_neg h9]
      unfold S2R
      rw [q]
  · unfold sr2R S2R L2R
    rw [q]
  · unfold G2R
    rw [q]
theorem ps_cg {grp grp1 : Nat → Bool} {w w1 sr sr1 : Nat → Nat} (ho : RPo P op lf rt) (e : REx P op lf rt P1 op1 lf1 rt1) (hi : inP P Γ) (hg : ∀ p, p < P → grp1 p = grp p) (hw : ∀ p, p < P → w1 p = w p) (hs : ∀ p, p < P → sr1 p = sr p) : psS op1 lf1 rt1 grp1 w1 sr1 Γ = psS op lf rt grp w sr Γ := by
  have on : ∀ c, onS op1 lf1 rt1 grp1 Γ c = onS op lf rt grp Γ c ∧ (onS op lf rt grp Γ c = true → c < P) := fun c => by
    have a : onS op lf rt grp Γ c = true → c < P ∧ onS op1 lf1 rt1 grp1 Γ c = true := fun h => by
      rcases (on_iff c).mp h with h | ⟨p, h1, h2, h3, h4⟩
      · exact ⟨hi c h, (on_iff c).mpr (Or.inl h)⟩
      · have hp := hi p h1
        have hl := (ho.to p hp).2 (by omega)
        obtain ⟨e1, e2, e3⟩ := e.2 p hp
        exact ⟨by omega, (on_iff c).mpr (Or.inr ⟨p, h1, by omega, by rw [e2, hg _ (by omega)]; exact h3, by omega⟩)⟩
    have b : onS op1 lf1 rt1 grp1 Γ c = true → onS op lf rt grp Γ c = true := fun h => by
      rcases (on_iff c).mp h with h | ⟨p, h1, h2, h3, h4⟩
      · exact (on_iff c).mpr (Or.inl h)
      · have hp := hi p h1
        obtain ⟨e1, e2, e3⟩ := e.2 p hp
        have hl := (ho.to p hp).2 (by omega)
        exact (on_iff c).mpr (Or.inr ⟨p, h1, by omega, by rw [e2, hg _ (by omega)] at h3; exact h3, by omega⟩)
    refine ⟨?_, fun h => (a h).1⟩
    cases h : onS op lf rt grp Γ c with
    | true => exact (a h).2
    | false =>
      cases h' : onS op1 lf1 rt1 grp1 Γ c with
      | true => rw [b h'] at h; cases h
      | false => rfl
  have h1 : wS w1 Γ 1000 = wS w Γ 1000 := wS_cg 1000 fun p _ => by
    by_cases c : Γ p = true
    · rw [if_pos c, if_pos c, hw p (hi p c)]
    · rw [if_neg c, if_neg c]
  have h2 : wS sr1 (onS op1 lf1 rt1 grp1 Γ) 1000 = wS sr (onS op lf rt grp Γ) 1000 := wS_cg 1000 fun p _ => by
    rw [(on p).1]
    by_cases c : onS op lf rt grp Γ p = true
    · rw [if_pos c, if_pos c, hs p ((on p).2 c)]
    · rw [if_neg c, if_neg c]
  unfold psS
  rw [h1, h2]
theorem cA_cg (e : REx P op lf rt P1 op1 lf1 rt1) (hi : inP P Γ) : cA op1 Γ = cA op Γ := wS_cg 1000 fun p _ => by
  by_cases c : Γ p = true
  · rw [if_pos c, if_pos c, (e.2 p (hi p c)).1]
  · rw [if_neg c, if_neg c]
theorem inv1_cg (ho : RPo P op lf rt) (e : REx P op lf rt P1 op1 lf1 rt1) (hi : inP P Γ) (hg : g < P) : inv1 op1 lf1 rt1 B d Γ g ↔ inv1 op lf rt B d Γ g := by
  unfold inv1
  rw [ps_cg (Γ := Γ) ho e hi (fun p hp => (w1_ext ho e hp).2.2.1) (fun p hp => (w1_ext ho e hp).1) (fun p hp => (w1_ext ho e hp).2.1), cA_cg e hi, (w1_ext ho e hg).2.2.2]
theorem inv2_cg (ho : RPo P op lf rt) (e : REx P op lf rt P1 op1 lf1 rt1) (hi : inP P Γ) (hg : g < P) : inv2 E v op1 lf1 rt1 B d Γ g ↔ inv2 E v op lf rt B d Γ g := by
  unfold inv2
  rw [ps_cg (Γ := Γ) ho e hi (fun p hp => (w1_ext ho e hp).2.2.1) (fun p hp => (w2_ext (E := E) (v := v) ho e hp).1) (fun p hp => (w2_ext (E := E) (v := v) ho e hp).2.1), cA_cg e hi, (w2_ext (E := E) (v := v) ho e hg).2.2]
/-- a sum over what is given where one part alone weighs one -/
theorem wS_u {w : Nat → Nat} (h1 : ∀ p, Γ p = true → w p ≤ 1) (hu : ∀ p q, Γ p = true → Γ q = true → 0 < w p → 0 < w q → p = q) : ∀ n, wS w Γ n = 0 ∨ (wS w Γ n = 1 ∧ ∃ p, p < n ∧ Γ p = true ∧ 0 < w p)
  | 0 => Or.inl rfl
  | n + 1 => by
    have e : wS w Γ (n + 1) = wS w Γ n + if Γ n = true then w n else 0 := rfl
    rw [e]
    by_cases c : Γ n = true
    · rw [if_pos c]
      have := h1 n c
      rcases wS_u h1 hu n with h | ⟨h, p, p1, p2, p3⟩
      · by_cases z : w n = 0
        · left; omega
        · right; exact ⟨by omega, n, by omega, c, by omega⟩
      · by_cases z : w n = 0
        · right; exact ⟨by omega, p, by omega, p2, p3⟩
        · have := hu p n p2 c p3 (by omega)
          omega
    · rw [if_neg c]
      rcases wS_u h1 hu n with h | ⟨h, p, p1, p2, p3⟩
      · left; omega
      · right; exact ⟨by omega, p, by omega, p2, p3⟩
theorem wS_four (op : Nat → Nat) (Γ : Nat → Bool) : ∀ n, wS (fun p => if op p < 4 then 1 else 0) Γ n ≤ wS (fun p => if op p = 0 then 1 else 0) Γ n + wS (fun p => if op p = 1 then 1 else 0) Γ n + wS (fun p => if op p = 2 then 1 else 0) Γ n + wS (fun p => if op p = 3 then 1 else 0) Γ n
  | 0 => Nat.zero_le _
  | n + 1 => by
    have ih := wS_four op Γ n
    show wS _ Γ n + (if Γ n = true then (if op n < 4 then 1 else 0) else 0) ≤ wS _ Γ n + (if Γ n = true then (if op n = 0 then 1 else 0) else 0) + (wS _ Γ n + (if Γ n = true then (if op n = 1 then 1 else 0) else 0)) + (wS _ Γ n + (if Γ n = true then (if op n = 2 then 1 else 0) else 0)) + (wS _ Γ n + (if Γ n = true then (if op n = 3 then 1 else 0) else 0))
    by_cases c : Γ n = true
    · simp only [if_pos c]
      have : (if op n < 4 then 1 else 0) ≤ (if op n = 0 then 1 else 0) + (if op n = 1 then 1 else 0) + (if op n = 2 then 1 else 0) + (if op n = 3 then 1 else 0) := by
        split <;> split <;> split <;> split <;> split <;> omega
      omega
    · simp only [if_neg c]
      omega
theorem cA_4 (ho : RPo P op lf rt) (hi : inP P Γ) : cA op Γ ≤ 4 := by
  have one : ∀ i, i < 4 → wS (fun p => if op p = i then 1 else 0) Γ 1000 ≤ 1 := fun i h4 => by
    rcases wS_u (w := fun p => if op p = i then 1 else 0) (Γ := Γ) (fun p _ => by show (if op p = i then 1 else 0) ≤ 1; split <;> omega) (fun p q hp hq h1 h2 => by
      have e1 : op p = i := by
        apply Classical.byContradiction
        intro c
        have : (if op p = i then 1 else 0) = 0 := if_neg c
        simp only [this] at h1
        omega
      have e2 : op q = i := by
        apply Classical.byContradiction
        intro c
        have : (if op q = i then 1 else 0) = 0 := if_neg c
        simp only [this] at h2
        omega
      have a1 := ho.1 p (hi p hp)
      have a2 := ho.1 q (hi q hq)
      exact ho.2 p q (hi p hp) (hi q hq) (by omega) (by omega) (by omega)) 1000 with h | ⟨h, _⟩ <;> omega
  have h := wS_four op Γ 1000
  have a0 := one 0 (by decide)
  have a1 := one 1 (by decide)
  have a2 := one 2 (by decide)
  have a3 := one 3 (by decide)
  unfold cA
  omega
end GROWP
