/-! THE DEPTH: a potential of what is given, shared over rests that stay -/
/-- what is given, or is the rest of something given whose left is in its group -/
noncomputable def onS (op lf rt : Nat → Nat) (grp : Nat → Bool) (Γ : Nat → Bool) (c : Nat) : Bool := @decide (Γ c = true ∨ ∃ p, Γ p = true ∧ op p = 9 ∧ grp (lf p) = true ∧ rt p = c) (Classical.propDecidable _)
noncomputable def psS (op lf rt : Nat → Nat) (grp : Nat → Bool) (w sr : Nat → Nat) (Γ : Nat → Bool) : Nat := wS w Γ 1000 + wS sr (onS op lf rt grp Γ) 1000
/-- what a part costs when the group over it is on already -/
def lowA (op lf rt : Nat → Nat) (grp : Nat → Bool) (w sr : Nat → Nat) (q : Nat) : Nat := w q + if op q = 9 ∧ grp (lf q) = true then sr (rt q) else 0
section PSI
variable {op lf rt : Nat → Nat} {grp : Nat → Bool} {w sr : Nat → Nat} {Γ : Nat → Bool}
theorem on_iff (c : Nat) : onS op lf rt grp Γ c = true ↔ (Γ c = true ∨ ∃ p, Γ p = true ∧ op p = 9 ∧ grp (lf p) = true ∧ rt p = c) := @decide_eq_true_iff _ (Classical.propDecidable _)
theorem on_up {q c : Nat} (h : onS op lf rt grp (upB Γ q true) c = true) : c = q ∨ (op q = 9 ∧ grp (lf q) = true ∧ rt q = c) ∨ onS op lf rt grp Γ c = true := by
  rcases (on_iff c).mp h with h | ⟨p, h1, h2, h3, h4⟩
  · by_cases e : c = q
    · exact Or.inl e
    · exact Or.inr (Or.inr ((on_iff c).mpr (Or.inl (by rw [← h]; exact (if_neg e).symm))))
  · by_cases e : p = q
    · subst e; exact Or.inr (Or.inl ⟨h2, h3, h4⟩)
    · exact Or.inr (Or.inr ((on_iff c).mpr (Or.inr ⟨p, by rw [← h1]; exact (if_neg e).symm, h2, h3, h4⟩)))
theorem on_dn {q c : Nat} (h : onS op lf rt grp (upB Γ q false) c = true) : onS op lf rt grp Γ c = true := by
  have sub : ∀ z, upB Γ q false z = true → Γ z = true := fun z hz => by
    by_cases e : z = q
    · subst e; rw [upB_s] at hz; cases hz
    · rw [← hz]; exact (if_neg e).symm
  rcases (on_iff c).mp h with h | ⟨p, h1, h2⟩
  · exact (on_iff c).mpr (Or.inl (sub c h))
  · exact (on_iff c).mpr (Or.inr ⟨p, sub p h1, h2⟩)
theorem on_self {q : Nat} (h : Γ q = true) : onS op lf rt grp Γ q = true := (on_iff q).mpr (Or.inl h)
theorem on_rt {q : Nat} (h : Γ q = true) (h9 : op q = 9) (hg : grp (lf q) = true) : onS op lf rt grp Γ (rt q) = true := (on_iff _).mpr (Or.inr ⟨q, h, h9, hg, rfl⟩)
/-- sums over sets that grow by one -/
theorem wS_sub {Γ1 Γ2 : Nat → Bool} (n : Nat) (h : ∀ c, Γ1 c = true → Γ2 c = true) : wS sr Γ1 n ≤ wS sr Γ2 n := wS_le n fun p _ => by
  by_cases e : Γ1 p = true
  · rw [if_pos e, if_pos (h p e)]; exact Nat.le_refl _
  · rw [if_neg e]; exact Nat.zero_le _
theorem wS_one {Γ1 Γ2 : Nat → Bool} (n q : Nat) (h : ∀ c, Γ1 c = true → c = q ∨ Γ2 c = true) : wS sr Γ1 n ≤ wS sr Γ2 n + sr q := Nat.le_trans (wS_sub n (Γ2 := upB Γ2 q true) fun c hc => by
  by_cases e : c = q
  · subst e; exact upB_s _ _ _
  · rw [show upB Γ2 q true c = Γ2 c from if_neg e]; exact (h c hc).resolve_left e) (wS_up sr Γ2 q n)
/-- a part given: what it costs at most -/
theorem ps_add (q : Nat) : psS op lf rt grp w sr (upB Γ q true) ≤ psS op lf rt grp w sr Γ + lowA op lf rt grp w sr q + sr q := by
  unfold psS lowA
  have h1 := wS_up w Γ q 1000
  by_cases c : op q = 9 ∧ grp (lf q) = true
  · rw [if_pos c]
    have h2 : wS sr (onS op lf rt grp (upB Γ q true)) 1000 ≤ wS sr (upB (onS op lf rt grp Γ) (rt q) true) 1000 + sr q := wS_one 1000 q fun z hz => by
      rcases on_up hz with h | ⟨_, _, h⟩ | h
      · exact Or.inl h
      · right; rw [← h]; exact upB_s _ _ _
      · exact Or.inr (upB_le h)
    have h3 := wS_up sr (onS op lf rt grp Γ) (rt q) 1000
    omega
  · rw [if_neg c]
    have h2 : wS sr (onS op lf rt grp (upB Γ q true)) 1000 ≤ wS sr (onS op lf rt grp Γ) 1000 + sr q := wS_one 1000 q fun z hz => by
      rcases on_up hz with h | ⟨h3, h4, _⟩ | h
      · exact Or.inl h
      · exact absurd ⟨h3, h4⟩ c
      · exact Or.inr h
    omega
/-- the same where the part's group is on, or its rest's -/
theorem ps_add_on {q : Nat} (hq : onS op lf rt grp Γ q = true) : psS op lf rt grp w sr (upB Γ q true) ≤ psS op lf rt grp w sr Γ + lowA op lf rt grp w sr q := by
  unfold psS lowA
  have h1 := wS_up w Γ q 1000
  by_cases c : op q = 9 ∧ grp (lf q) = true
  · rw [if_pos c]
    have h2 : wS sr (onS op lf rt grp (upB Γ q true)) 1000 ≤ wS sr (onS op lf rt grp Γ) 1000 + sr (rt q) := wS_one 1000 (rt q) fun z hz => by
      rcases on_up hz with h | ⟨_, _, h⟩ | h
      · rw [h]; exact Or.inr hq
      · exact Or.inl h.symm
      · exact Or.inr h
    omega
  · rw [if_neg c]
    have h2 : wS sr (onS op lf rt grp (upB Γ q true)) 1000 ≤ wS sr (onS op lf rt grp Γ) 1000 := wS_sub 1000 fun z hz => by
      rcases on_up hz with h | ⟨h3, h4, _⟩ | h
      · rw [h]; exact hq
      · exact absurd ⟨h3, h4⟩ c
      · exact h
    omega
theorem ps_add_rt {q : Nat} (hr : op q = 9 → grp (lf q) = true → onS op lf rt grp Γ (rt q) = true) : psS op lf rt grp w sr (upB Γ q true) ≤ psS op lf rt grp w sr Γ + w q + sr q := by
  unfold psS
  have h1 := wS_up w Γ q 1000
  have h2 : wS sr (onS op lf rt grp (upB Γ q true)) 1000 ≤ wS sr (onS op lf rt grp Γ) 1000 + sr q := wS_one 1000 q fun z hz => by
    rcases on_up hz with h | ⟨h3, h4, h⟩ | h
    · exact Or.inl h
    · right; rw [← h]; exact hr h3 h4
    · exact Or.inr h
  omega
/-- a part taken away -/
theorem ps_del {p : Nat} (hg : Γ p = true) (hp : p < 1000) : psS op lf rt grp w sr (upB Γ p false) + w p ≤ psS op lf rt grp w sr Γ := by
  unfold psS
  have h1 := wS_dn w hg 1000 hp
  have h2 : wS sr (onS op lf rt grp (upB Γ p false)) 1000 ≤ wS sr (onS op lf rt grp Γ) 1000 := wS_sub 1000 fun z hz => on_dn hz
  omega
/-- and its group empty -/
theorem ps_del_off {p : Nat} (hg : Γ p = true) (hp : p < 1000) (hn : ∀ q, Γ q = true → op q = 9 → rt q ≠ p) : psS op lf rt grp w sr (upB Γ p false) + w p + sr p ≤ psS op lf rt grp w sr Γ := by
  unfold psS
  have h1 := wS_dn w hg 1000 hp
  have ho : onS op lf rt grp Γ p = true := on_self hg
  have h2 := wS_dn sr ho 1000 hp
  have h3 : wS sr (onS op lf rt grp (upB Γ p false)) 1000 ≤ wS sr (upB (onS op lf rt grp Γ) p false) 1000 := wS_sub 1000 fun z hz => by
    have hz2 := on_dn hz
    by_cases e : z = p
    · subst e
      rcases (on_iff z).mp hz with h | ⟨q, q1, q2, q3, q4⟩
      · rw [upB_s] at h; cases h
      · by_cases eq : q = z
        · subst eq; rw [upB_s] at q1; cases q1
        · exact absurd q4 (hn q (by rw [← q1]; exact (if_neg eq).symm) q2)
    · rw [show upB (onS op lf rt grp Γ) p false z = onS op lf rt grp Γ z from if_neg e]; exact hz2
  omega
/-- an IF fired: its right is given instead -/
theorem ps_fire {p : Nat} (hg : Γ p = true) (hp : p < 1000) (h9 : op p = 9) (h1 : grp (lf p) = true → lowA op lf rt grp w sr (rt p) ≤ w p) (h2 : grp (lf p) = false → lowA op lf rt grp w sr (rt p) + sr (rt p) ≤ w p) : psS op lf rt grp w sr (upB (upB Γ p false) (rt p) true) ≤ psS op lf rt grp w sr Γ := by
  have hd := ps_del (op := op) (lf := lf) (rt := rt) (grp := grp) (w := w) (sr := sr) hg hp
  cases c : grp (lf p) with
  | false =>
    have := ps_add (op := op) (lf := lf) (rt := rt) (grp := grp) (w := w) (sr := sr) (Γ := upB Γ p false) (rt p)
    have := h2 c
    omega
  | true =>
    -- the group over the right is on before
    have hl := h1 c
    have hon : onS op lf rt grp Γ (rt p) = true := on_rt hg h9 c
    unfold psS lowA at *
    have a1 := wS_up w (upB Γ p false) (rt p) 1000
    have a2 := wS_dn w hg 1000 hp
    by_cases c2 : op (rt p) = 9 ∧ grp (lf (rt p)) = true
    · rw [if_pos c2] at hl
      have a3 : wS sr (onS op lf rt grp (upB (upB Γ p false) (rt p) true)) 1000 ≤ wS sr (onS op lf rt grp Γ) 1000 + sr (rt (rt p)) := wS_one 1000 (rt (rt p)) fun z hz => by
        rcases on_up hz with h | ⟨_, _, h⟩ | h
        · rw [h]; exact Or.inr hon
        · exact Or.inl h.symm
        · exact Or.inr (on_dn h)
      omega
    · rw [if_neg c2] at hl
      have a3 : wS sr (onS op lf rt grp (upB (upB Γ p false) (rt p) true)) 1000 ≤ wS sr (onS op lf rt grp Γ) 1000 := wS_sub 1000 fun z hz => by
        rcases on_up hz with h | ⟨h3, h4, _⟩ | h
        · rw [h]; exact hon
        · exact absurd ⟨h3, h4⟩ c2
        · exact on_dn h
      omega
end PSI
