/-! THE DEPTH: what a given part costs, its group on: what of it stays -/
section LOW2
variable {P : Nat} {op lf rt : Nat → Nat} {E v : Nat → Bool}
theorem low2_eq (ho : RPo P op lf rt) {p : Nat} (hp : p < P) : lowA op lf rt (grR op lf rt) (w2R E v op lf rt) (sr2R E v op lf rt) p = L2R E v op lf rt p := by
  by_cases ht : t2R E v op lf rt p = true
  · unfold lowA w2R
    rw [if_pos ht]
    by_cases h6 : op p < 6
    · rw [if_neg (by omega), if_neg (by omega), if_neg (by omega), (q2_l h6).2.2.2.1]
    · obtain e | e | e : op p = 7 ∨ op p = 8 ∨ op p = 9 := by have := (ho.two hp (by omega)).2.1; have := (ho.to p hp).1; omega
      · rw [if_neg (by omega), if_pos e, if_neg (by omega), ((q2_7 (E := E) (v := v) ho hp e).2.1 ht).2.2]
        rfl
      · rw [if_neg (by omega), if_neg (by omega), if_neg (by omega), ((q2_8 (E := E) (v := v) ho hp e).2.1 ht).2.2]
      · have hl := (ho.to p hp).2 (by omega)
        have q := (q2_9 (E := E) (v := v) ho hp e).2.1 ht
        have hr := s2_ge1 (E := E) (v := v) ho (rt p) (by omega)
        rw [if_pos e, q.2.2]
        by_cases c : op (lf p) = 9 ∧ t2R E v op lf rt (lf p) = true
        · have g := (q1_9 ho (show lf p < P by omega) c.1).2.2.2.2
          rw [if_pos c, if_pos c, if_pos ⟨e, g⟩]
          unfold sr2R
          omega
        · rw [if_neg c, if_neg c, q.1]
          unfold n2R sr2R s1R
          by_cases g : grR op lf rt (lf p) = true
          · rw [if_pos ⟨e, g⟩, if_pos g]
          · rw [if_neg (fun h => g h.2), if_neg g]
  · have hf := eq_false_of_ne_true ht
    rw [(q2_f ho hp hf).2.2, ← low1_eq ho hp]
    unfold lowA w2R
    rw [if_neg ht]
    by_cases c : op p = 9 ∧ grR op lf rt (lf p) = true
    · have hl := (ho.to p hp).2 (by omega)
      have hr : t2R E v op lf rt (rt p) = false := by
        have h := (q2_9 (E := E) (v := v) ho hp c.1).1
        rw [hf] at h
        exact (Bool.or_eq_false_iff.mp h.symm).2
      have f := q2_f ho (show rt p < P by omega) hr
      rw [if_pos c, if_pos c]
      unfold sr2R s1R
      rw [f.1, f.2.2]
    · rw [if_neg c, if_neg c]
theorem imp_t (ho : RPo P op lf rt) {r x y : Nat} (hr : r < P) (hx : x < P) (hx2 : 2 ≤ x) (h0 : t2R E v op lf rt 0 = true) (h : impS op lf rt r x y) : t2R E v op lf rt r = (!t2R E v op lf rt x || t2R E v op lf rt y) := by
  rcases h with ⟨h, _⟩ | ⟨h, rfl⟩ | ⟨_, _, _, _, h9, h1, h3⟩
  · omega
  · rw [h0]
    rcases h with h | rfl | rfl
    · omega
    · rw [h0, Bool.or_true]
    · cases t2R E v op lf rt x <;> rfl
  · rw [(q2_9 (E := E) (v := v) ho hr h9).1, h1, h3]
end LOW2
