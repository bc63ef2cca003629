/-! THE DEPTH: the potential of all steps lies over the one of ORs and goals -/
section PRE4
variable {P : Nat} {op lf rt : Nat → Nat} {E v : Nat → Bool}
theorem i2_ge1 (ho : RPo P op lf rt) : ∀ p, p < P → ∀ l s l1 s1, l1 ≤ l → s1 ≤ s → i1R op lf rt p l1 s1 ≤ i2R E v op lf rt p l s l1 s1 := by
  intro p
  induction p using Nat.strongRecOn with
  | _ p ih =>
    intro hp l s l1 s1 hl hs
    by_cases h6 : op p < 6
    · have q := q1_lf (lf := lf) (rt := rt) h6
      rw [q.2.2.2.1, (q2_l h6).2.2.2.2]
      by_cases h4 : op p < 4
      · rw [if_pos h4, if_pos h4]
        split <;> omega
      · rw [if_neg h4]; exact Nat.zero_le _
    · obtain ⟨o1, o2, o3, o4, o5, o6, o7, o8, o9⟩ := ho.two hp (by omega)
      have ix := ih _ o5 (by omega)
      have iy := ih _ o7 (by omega)
      obtain e | e | e : op p = 7 ∨ op p = 8 ∨ op p = 9 := by have := (ho.to p hp).1; omega
      · rw [(q1_7 ho hp e).2.2.2.1, (q2_7 ho hp e).2.2]
        have hy := iy l s l1 s1 hl hs
        have ho1 : o1R op lf rt (rt p) l1 s1 ≤ if op (rt p) = 9 ∧ t2R E v op lf rt (rt p) = true then l + s else n2R E v op lf rt (rt p) l s l1 s1 := by
          by_cases c : op (rt p) = 9 ∧ t2R E v op lf rt (rt p) = true
          · rw [if_pos c]
            have q := q1_9 ho (show rt p < P by omega) c.1
            unfold o1R
            rw [q.2.2.2.1, q.2.2.2.2, if_pos rfl]
            omega
          · rw [if_neg c]
            unfold o1R n2R
            by_cases g : grR op lf rt (rt p) = true
            · rw [if_pos g, if_pos g]; omega
            · rw [if_neg g, if_neg g]; omega
        have hx := ix _ (n2R E v op lf rt (rt p) l s l1 s1 - if op (rt p) = 9 ∧ t2R E v op lf rt (rt p) = true then l + s else n2R E v op lf rt (rt p) l s l1 s1) _ 0 ho1 (Nat.zero_le _)
        have : ∀ a b c d, i2R E v op lf rt (lf p) a b c d ≤ n2R E v op lf rt (lf p) a b c d := fun a b c d => Nat.le_add_right _ _
        exact Nat.le_trans (Nat.le_trans hx (this _ _ _ _)) (Nat.le_max_left _ _)
      · rw [(q1_8 ho hp e).2.2.2.1, (q2_8 ho hp e).2.2]
        exact Nat.add_le_add (ix l s l1 s1 hl hs) (iy l s l1 s1 hl hs)
      · rw [(q1_9 ho hp e).2.2.2.1, (q2_9 ho hp e).2.2]
        split <;> omega
theorem s2_ge1 (ho : RPo P op lf rt) : ∀ p, p < P → n1R op lf rt p ≤ S2R E v op lf rt p ∧ g1R op lf rt p ≤ G2R E v op lf rt p ∧ l1R op lf rt p ≤ L2R E v op lf rt p ∧ L2R E v op lf rt p ≤ S2R E v op lf rt p ∧ s1R op lf rt p ≤ S2R E v op lf rt p - L2R E v op lf rt p := by
  intro p
  induction p using Nat.strongRecOn with
  | _ p ih =>
    intro hp
    have hl1 := l1_le ho hp
    by_cases ht : t2R E v op lf rt p = false
    · have q := q2_f ho hp ht
      rw [q.1, q.2.1, q.2.2]
      unfold s1R
      omega
    · have ht : t2R E v op lf rt p = true := by simpa using ht
      by_cases h6 : op p < 6
      · have q := q1_lf (lf := lf) (rt := rt) h6
        have q' := q2_l (lf := lf) (rt := rt) (E := E) (v := v) h6
        unfold s1R
        rw [q.1, q.2.1, q.2.2.1]
        omega
      · obtain ⟨o1, o2, o3, o4, o5, o6, o7, o8, o9⟩ := ho.two hp (by omega)
        have ix := ih _ o5 (by omega)
        have iy := ih _ o7 (by omega)
        obtain e | e | e : op p = 7 ∨ op p = 8 ∨ op p = 9 := by have := (ho.to p hp).1; omega
        · have q := q1_7 ho hp e
          have q' := (q2_7 (E := E) (v := v) ho hp e).2.1 ht
          unfold s1R
          rw [q.1, q.2.1, q.2.2.1, q'.1, q'.2.1, q'.2.2, q.1, q'.1]
          omega
        · have q := q1_8 ho hp e
          have q' := (q2_8 (E := E) (v := v) ho hp e).2.1 ht
          have hx : (if op (lf p) < 6 then 0 else 1 + n1R op lf rt (lf p)) ≤ if op (lf p) < 6 then 0 else 1 + S2R E v op lf rt (lf p) := by split <;> omega
          have hy : (if op (rt p) < 6 then 0 else 1 + n1R op lf rt (rt p)) ≤ if op (rt p) < 6 then 0 else 1 + S2R E v op lf rt (rt p) := by split <;> omega
          unfold s1R
          rw [q.1, q.2.1, q.2.2.1, q'.1, q'.2.1, q'.2.2]
          omega
        · have q := q1_9 ho hp e
          have q' := (q2_9 (E := E) (v := v) ho hp e).2.1 ht
          have lr := l1_le ho (show rt p < P by omega)
          have es : n1R op lf rt (rt p) - l1R op lf rt (rt p) = s1R op lf rt (rt p) := rfl
          have hi := i2_ge1 (E := E) (v := v) ho (lf p) (by omega) (L2R E v op lf rt (rt p)) (S2R E v op lf rt (rt p) - L2R E v op lf rt (rt p)) (l1R op lf rt (rt p)) (s1R op lf rt (rt p)) iy.2.2.1 iy.2.2.2.2
          have hn : n1R op lf rt p ≤ S2R E v op lf rt p := by
            rw [q.1, q'.1, es]
            unfold n2R
            by_cases g : grR op lf rt (lf p) = true
            · rw [if_pos g, if_pos g]; omega
            · rw [if_neg g, if_neg g]; omega
          have hL : l1R op lf rt p ≤ L2R E v op lf rt p ∧ L2R E v op lf rt p ≤ S2R E v op lf rt p := by
            rw [q'.2.2, q.2.2.1]
            by_cases c : op (lf p) = 9 ∧ t2R E v op lf rt (lf p) = true
            · rw [if_pos c]
              have ql := q1_9 ho (show lf p < P by omega) c.1
              have ql' := (q2_9 (E := E) (v := v) ho (show lf p < P by omega) c.1).2.2 (L2R E v op lf rt (rt p)) (S2R E v op lf rt (rt p) - L2R E v op lf rt (rt p)) (l1R op lf rt (rt p)) (s1R op lf rt (rt p))
              rw [if_pos c.2] at ql'
              constructor
              · rw [q.1, ql.2.2.2.1, ql.2.2.2.2, if_pos rfl]
                unfold s1R
                omega
              · rw [q'.1, es]
                unfold n2R
                rw [ql', ql.2.2.2.2, if_pos rfl]
                omega
            · rw [if_neg c]
              exact ⟨hn, Nat.le_refl _⟩
          refine ⟨hn, ?_, hL.1, hL.2, ?_⟩
          · rw [q.2.1, q'.2.1]
            omega
          · unfold s1R
            rw [q.2.2.1]
            omega
end PRE4
