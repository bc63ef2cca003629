/-! THE DEPTH: a small step does not raise a potential -/
/-- what a potential's numbers must keep; ok: what can be given -/
def ptOK (P : Nat) (op lf rt : Nat → Nat) (grp ok : Nat → Bool) (w sr N : Nat → Nat) : Prop :=
  (∀ q, q < P → lowA op lf rt grp w sr q + sr q ≤ N q) ∧
  (∀ p, p < P → op p = 7 → ok (lf p) = true → ok (rt p) = true → N (lf p) + N (rt p) ≤ w p) ∧
  (∀ p, p < P → op p = 9 → ok (lf p) = true → ok (rt p) = true → (grp (lf p) = true → lowA op lf rt grp w sr (rt p) ≤ w p) ∧ (grp (lf p) = false → lowA op lf rt grp w sr (rt p) + sr (rt p) ≤ w p)) ∧
  (∀ p s r, p < P → s < P → r < P → op p = 9 → op (lf p) = 7 → impS op lf rt s (rt (lf p)) (rt p) → impS op lf rt r (lf (lf p)) s → ok r = true → N r ≤ w p) ∧
  (∀ p s r, p < P → s < P → r < P → op p = 9 → op (lf p) = 8 → impS op lf rt s (lf (lf p)) (rt p) → impS op lf rt r (rt (lf p)) (rt p) → ok s = true → ok r = true → w s + sr s + (w r + sr r) ≤ w p ∧ (op s = 9 → grp (lf s) = true → grp (lf p) = true ∧ rt s = rt p) ∧ (op r = 9 → grp (lf r) = true → grp (lf p) = true ∧ rt r = rt p))
section MICRO
variable {P : Nat} {op lf rt : Nat → Nat} {grp ok : Nat → Bool} {w sr N : Nat → Nat} {Γ : Nat → Bool}
theorem ps_sub {Γ1 : Nat → Bool} (h : ∀ q, Γ1 q = true → Γ q = true) : psS op lf rt grp w sr Γ1 ≤ psS op lf rt grp w sr Γ := by
  unfold psS
  have h1 : wS w Γ1 1000 ≤ wS w Γ 1000 := wS_sub 1000 h
  have h2 : wS sr (onS op lf rt grp Γ1) 1000 ≤ wS sr (onS op lf rt grp Γ) 1000 := wS_sub 1000 fun z hz => by
    rcases (on_iff z).mp hz with h' | ⟨p, p1, p2⟩
    · exact (on_iff z).mpr (Or.inl (h z h'))
    · exact (on_iff z).mpr (Or.inr ⟨p, h p p1, p2⟩)
  omega
theorem ptOK.add (h : ptOK P op lf rt grp ok w sr N) {q : Nat} (hq : q < P) : psS op lf rt grp w sr (upB Γ q true) ≤ psS op lf rt grp w sr Γ + N q := by
  have h1 := ps_add (op := op) (lf := lf) (rt := rt) (grp := grp) (w := w) (sr := sr) (Γ := Γ) q
  have h2 := h.1 q hq
  omega
/-- two parts for one, their groups on already -/
theorem ps_two {p s r : Nat} (hg : Γ p = true) (hp : p < 1000) (h9 : op p = 9) (hw : w s + sr s + (w r + sr r) ≤ w p) (hs : op s = 9 → grp (lf s) = true → grp (lf p) = true ∧ rt s = rt p) (hr : op r = 9 → grp (lf r) = true → grp (lf p) = true ∧ rt r = rt p) : psS op lf rt grp w sr (upB (upB (upB Γ p false) s true) r true) ≤ psS op lf rt grp w sr Γ := by
  unfold psS
  have a0 := wS_dn w hg 1000 hp
  have a1 := wS_up w (upB Γ p false) s 1000
  have a2 := wS_up w (upB (upB Γ p false) s true) r 1000
  have a3 : wS sr (onS op lf rt grp (upB (upB (upB Γ p false) s true) r true)) 1000 ≤ wS sr (upB (onS op lf rt grp Γ) s true) 1000 + sr r := wS_one 1000 r fun z hz => by
    rcases on_up hz with h | ⟨h1, h2, h3⟩ | h
    · exact Or.inl h
    · obtain ⟨k1, k2⟩ := hr h1 h2
      right
      rw [← h3, k2]
      exact upB_le (on_rt hg h9 k1)
    · rcases on_up h with h | ⟨h1, h2, h3⟩ | h
      · right; rw [h]; exact upB_s _ _ _
      · obtain ⟨k1, k2⟩ := hs h1 h2
        right
        rw [← h3, k2]
        exact upB_le (on_rt hg h9 k1)
      · exact Or.inr (upB_le (on_dn h))
  have a4 := wS_up sr (onS op lf rt grp Γ) s 1000
  omega
/-- a part taken to pieces -/
theorem ps_ls (h : ptOK P op lf rt grp ok w sr N) (ho : RPo P op lf rt) (hP : P ≤ 1000) {p : Nat} {Γ1 : Nat → Bool} (hp : p < P) (hg : Γ p = true) (hls : lsS P op lf rt Γ p Γ1) (hok : ∀ q, Γ1 q = true → ok q = true) (hokx : Γ (lf p) = true → ok (lf p) = true) : psS op lf rt grp w sr Γ1 ≤ psS op lf rt grp w sr Γ := by
  have h0 := h
  obtain ⟨_, h7, h9, h97, h98⟩ := h
  rcases hls with ⟨c, rfl⟩ | ⟨c, h1, rfl⟩ | ⟨c, h1, rfl⟩ | ⟨c, h1, h2, c2, s, r, hs, hr, g1, g2, rfl⟩ | ⟨c, h1, h2, c2, s, r, hs, hr, g1, g2, rfl⟩
  · have hl := (ho.to p hp).2 (by omega)
    have k1 := hok (lf p) (by
      by_cases e : lf p = rt p
      · rw [e]; exact upB_s _ _ _
      · exact upB_le (upB_s _ _ _))
    have k2 := hok (rt p) (upB_s _ _ _)
    have a := h7 p hp c k1 k2
    have d := ps_del (op := op) (lf := lf) (rt := rt) (grp := grp) (w := w) (sr := sr) hg (show p < 1000 by omega)
    have u1 := ptOK.add (Γ := upB Γ p false) h0 (show lf p < P by omega)
    have u2' := ptOK.add (Γ := upB (upB Γ p false) (lf p) true) h0 (show rt p < P by omega)
    omega
  · have d := ps_del (op := op) (lf := lf) (rt := rt) (grp := grp) (w := w) (sr := sr) hg (show p < 1000 by omega)
    omega
  · have hl := (ho.to p hp).2 (by omega)
    by_cases hy : Γ (rt p) = true
    · -- the right is given already
      refine ps_sub fun q hq => ?_
      by_cases e : q = rt p
      · rw [e]; exact hy
      · rw [show upB (upB Γ p false) (rt p) true q = upB Γ p false q from if_neg e] at hq
        by_cases e2 : q = p
        · rw [e2, upB_s] at hq; cases hq
        · rw [← hq]; exact (if_neg e2).symm
    · have hx := h1.resolve_right hy
      have a := h9 p hp c (hokx hx) (hok (rt p) (upB_s _ _ _))
      exact ps_fire hg (by omega) c a.1 a.2
  · have a := h97 p s r hp hs hr c c2 g1 g2 (hok r (upB_s _ _ _))
    have d := ps_del (op := op) (lf := lf) (rt := rt) (grp := grp) (w := w) (sr := sr) hg (show p < 1000 by omega)
    have u1 := ptOK.add (Γ := upB Γ p false) h0 hr
    omega
  · obtain ⟨a1, a2, a3⟩ := h98 p s r hp hs hr c c2 g1 g2 (hok s (by
      by_cases e : s = r
      · rw [e]; exact upB_s _ _ _
      · exact upB_le (upB_s _ _ _))) (hok r (upB_s _ _ _))
    exact ps_two hg (by omega) c a1 a2 a3
end MICRO
