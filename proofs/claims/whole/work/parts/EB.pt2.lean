/-! THE DEPTH: the potential of all steps keeps what a potential must -/
section PT2
variable {P : Nat} {op lf rt : Nat → Nat} {E v : Nat → Bool}
theorem op_0 (ho : RPo P op lf rt) (hP : 0 < P) : op 0 = 4 := by rcases ho.1 0 hP with h | h | h <;> omega
theorem t2_0 (ho : RPo P op lf rt) (hP : 0 < P) : t2R E v op lf rt 0 = true ∧ w2R E v op lf rt 0 = 0 ∧ sr2R E v op lf rt 0 = 0 ∧ S2R E v op lf rt 0 = 0 := by
  have h := op_0 ho hP
  have q := q2_l (lf := lf) (rt := rt) (E := E) (v := v) (show op 0 < 6 by omega)
  have t : t2R E v op lf rt 0 = true := by rw [q.1, if_neg (by omega)]; simp [h]
  refine ⟨t, ?_, ?_, q.2.1⟩
  · unfold w2R
    rw [if_pos t, if_neg (by omega), if_neg (by omega)]
  · unfold sr2R
    rw [q.2.1]
    exact Nat.zero_sub _
/-- the left of an IF: an AND, an OR -/
theorem left_pos (ho : RPo P op lf rt) {p : Nat} (hp : p < P) (h9 : op p = 9) (h6 : 6 ≤ op (lf p)) (hn : op (lf p) ≠ 9) : 2 ≤ lf (lf p) ∧ 2 ≤ rt (lf p) ∧ lf p < P ∧ rt p < P ∧ lf (lf p) < P ∧ rt (lf p) < P := by
  have hl := (ho.to p hp).2 (by omega)
  obtain ⟨o1, o2, o3, o4, o5, o6, o7, o8, o9⟩ := ho.two (show lf p < P by omega) h6
  have : 2 ≤ rt (lf p) := by
    by_cases r1 : rt (lf p) = 1
    · exact absurd (o9 r1) hn
    · omega
  omega
/-- a side of an OR over the same rest -/
theorem side2 (ho : RPo P op lf rt) {t u c : Nat} (ht : t < P) (hc : c < P) (hu : 2 ≤ u) (h : impS op lf rt t u c) (tt : t2R E v op lf rt t = true) : w2R E v op lf rt t + sr2R E v op lf rt t ≤ i2R E v op lf rt u (L2R E v op lf rt c) (S2R E v op lf rt c - L2R E v op lf rt c) (l1R op lf rt c) (s1R op lf rt c) ∧ (op t = 9 → grR op lf rt (lf t) = true → grR op lf rt u = true ∧ rt t = c) := by
  rcases h with ⟨h, _⟩ | ⟨_, rfl⟩ | ⟨_, _, _, _, t9, t1, t3⟩
  · omega
  · have z := t2_0 (E := E) (v := v) ho (show 0 < P by omega)
    have := op_0 ho (show 0 < P by omega)
    rw [z.2.1, z.2.2.1]
    exact ⟨Nat.zero_le _, fun h => absurd h (by omega)⟩
  · refine ⟨?_, fun _ g => ⟨by rw [← t1]; exact g, t3⟩⟩
    have q := (q2_9 (E := E) (v := v) ho ht t9).2.1 tt
    have hl := (ho.to t ht).2 (by omega)
    unfold w2R sr2R
    rw [if_pos tt, if_pos t9, q.2.2]
    by_cases k : op (lf t) = 9 ∧ t2R E v op lf rt (lf t) = true
    · have g := (q1_9 ho (show lf t < P by omega) k.1).2.2.2.2
      have hr := s2_ge1 (E := E) (v := v) ho (rt t) (by omega)
      have hi := (q2_9 (E := E) (v := v) ho (show lf t < P by omega) k.1).2.2 (L2R E v op lf rt (rt t)) (S2R E v op lf rt (rt t) - L2R E v op lf rt (rt t)) (l1R op lf rt (rt t)) (n1R op lf rt (rt t) - l1R op lf rt (rt t))
      rw [if_pos k.2] at hi
      rw [if_pos k, if_pos k, q.1]
      unfold n2R
      rw [if_pos g, ← t1, ← t3]
      unfold s1R
      generalize i2R E v op lf rt (lf t) (L2R E v op lf rt (rt t)) (S2R E v op lf rt (rt t) - L2R E v op lf rt (rt t)) (l1R op lf rt (rt t)) (n1R op lf rt (rt t) - l1R op lf rt (rt t)) = I at *
      have hm : 1 + L2R E v op lf rt (rt t) ≤ I := by rw [hi]; exact Nat.le_max_left _ _
      clear hi
      omega
    · rw [if_neg k, if_neg k, t1, t3, Nat.sub_self]
      exact Nat.le_refl _
theorem pt2_ok (ho : RPo P op lf rt) : ptOK P op lf rt (grR op lf rt) (okR E v op lf rt) (w2R E v op lf rt) (sr2R E v op lf rt) (S2R E v op lf rt) := by
  refine ⟨fun q hq => ?_, fun p hp h7 k1 k2 => ?_, fun p hp h9 k1 k2 => ?_, fun p s r hp hs hr h9 h7 g1 g2 kr => ?_, fun p s r hp hs hr h9 h8 g1 g2 ks kr => ?_⟩
  · rw [low2_eq ho hq]
    have := s2_ge1 (E := E) (v := v) ho q hq
    unfold sr2R
    omega
  · have hl := (ho.to p hp).2 (by omega)
    have t1 := (oq_t (E := E) (v := v) ho (lf p) (by omega)).2 k1
    have t2 := (oq_t (E := E) (v := v) ho (rt p) (by omega)).2 k2
    have q := q2_7 (E := E) (v := v) ho hp h7
    have t : t2R E v op lf rt p = true := by rw [q.1, t1, t2]; rfl
    unfold w2R
    rw [if_pos t, if_neg (by omega), if_pos h7, (q.2.1 t).1]
    exact Nat.le_refl _
  · have hl := (ho.to p hp).2 (by omega)
    obtain ⟨o1, o2, o3, o4, o5, o6, o7, o8, o9⟩ := ho.two hp (by omega)
    have t2 := (oq_t (E := E) (v := v) ho (rt p) (by omega)).2 k2
    have q := q2_9 (E := E) (v := v) ho hp h9
    have t : t2R E v op lf rt p = true := by rw [q.1, t2, Bool.or_true]
    have f := i2_ge (E := E) (v := v) ho (lf p) o4 (by omega) k1 (L2R E v op lf rt (rt p)) (S2R E v op lf rt (rt p) - L2R E v op lf rt (rt p)) (l1R op lf rt (rt p)) (s1R op lf rt (rt p))
    have hr := s2_ge1 (E := E) (v := v) ho (rt p) (by omega)
    rw [low2_eq ho (show rt p < P by omega)]
    unfold w2R sr2R
    rw [if_pos t, if_pos h9]
    by_cases c : op (lf p) = 9 ∧ t2R E v op lf rt (lf p) = true
    · have g := (q1_9 ho (show lf p < P by omega) c.1).2.2.2.2
      rw [if_pos c]
      refine ⟨fun _ => Nat.le_refl _, fun h => ?_⟩
      rw [g] at h; cases h
    · rw [if_neg c]
      refine ⟨fun _ => f.1, fun h => ?_⟩
      have := f.2 h
      omega
  · obtain ⟨x2, y2, hlP, hrP, hxP, hyP⟩ := left_pos ho hp h9 (by omega) (by omega)
    have z := t2_0 (E := E) (v := v) ho (show 0 < P by omega)
    have tr := (oq_t (E := E) (v := v) ho r hr).2 kr
    have is := imp_t (E := E) (v := v) ho hs hyP y2 z.1 g1
    have ir := imp_t (E := E) (v := v) ho hr hxP x2 z.1 g2
    have q7 := q2_7 (E := E) (v := v) ho hlP h7
    have t : t2R E v op lf rt p = true := by
      rw [(q2_9 (E := E) (v := v) ho hp h9).1, q7.1, ← tr, ir, is]
      cases t2R E v op lf rt (lf (lf p)) <;> cases t2R E v op lf rt (rt (lf p)) <;> rfl
    have ew : w2R E v op lf rt p = i2R E v op lf rt (lf p) (L2R E v op lf rt (rt p)) (S2R E v op lf rt (rt p) - L2R E v op lf rt (rt p)) (l1R op lf rt (rt p)) (s1R op lf rt (rt p)) := by
      unfold w2R
      rw [if_pos t, if_pos h9, if_neg (by omega)]
    rw [ew, q7.2.2]
    rcases g2 with ⟨h, _⟩ | ⟨_, rfl⟩ | ⟨_, _, hs0, _, r9, r1, r3⟩
    · omega
    · rw [z.2.2.2]; exact Nat.zero_le _
    · rcases g1 with ⟨h, _⟩ | ⟨_, h⟩ | ⟨_, _, _, _, s9, s1, s3⟩
      · omega
      · omega
      · have qs := q1_9 ho hs s9
        rw [s1, s3] at qs
        have eo : l1R op lf rt s = o1R op lf rt (rt (lf p)) (l1R op lf rt (rt p)) (s1R op lf rt (rt p)) := by rw [qs.2.2.1, qs.1]; rfl
        have en : n1R op lf rt s = l1R op lf rt s := qs.2.2.1.symm
        rw [((q2_9 (E := E) (v := v) ho hr r9).2.1 tr).1, r1, r3, en, Nat.sub_self, eo]
        by_cases ts : t2R E v op lf rt s = true
        · refine Nat.le_trans (Nat.le_of_eq ?_) (Nat.le_max_left _ _)
          have q := (q2_9 (E := E) (v := v) ho hs s9).2.1 ts
          rw [s1, s3] at q
          have hc := s2_ge1 (E := E) (v := v) ho (rt p) hrP
          have e1 : L2R E v op lf rt s = if op (rt (lf p)) = 9 ∧ t2R E v op lf rt (rt (lf p)) = true then L2R E v op lf rt (rt p) + (S2R E v op lf rt (rt p) - L2R E v op lf rt (rt p)) else n2R E v op lf rt (rt (lf p)) (L2R E v op lf rt (rt p)) (S2R E v op lf rt (rt p) - L2R E v op lf rt (rt p)) (l1R op lf rt (rt p)) (s1R op lf rt (rt p)) := by
            rw [q.2.2, q.1]
            by_cases c : op (rt (lf p)) = 9 ∧ t2R E v op lf rt (rt (lf p)) = true
            · rw [if_pos c, if_pos c]; omega
            · rw [if_neg c, if_neg c]; rfl
          rw [e1, q.1]
          rfl
        · refine Nat.le_trans (Nat.le_of_eq ?_) (Nat.le_max_right _ _)
          have f := q2_f ho hs (eq_false_of_ne_true ts)
          rw [f.1, f.2.2, en, Nat.sub_self, eo]
  · obtain ⟨x2, y2, hlP, hrP, hxP, hyP⟩ := left_pos ho hp h9 (by omega) (by omega)
    have z := t2_0 (E := E) (v := v) ho (show 0 < P by omega)
    have ts := (oq_t (E := E) (v := v) ho s hs).2 ks
    have tr := (oq_t (E := E) (v := v) ho r hr).2 kr
    have is := imp_t (E := E) (v := v) ho hs hxP x2 z.1 g1
    have ir := imp_t (E := E) (v := v) ho hr hyP y2 z.1 g2
    have q8 := q2_8 (E := E) (v := v) ho hlP h8
    have t : t2R E v op lf rt p = true := by
      rw [(q2_9 (E := E) (v := v) ho hp h9).1, q8.1]
      rw [ts] at is
      rw [tr] at ir
      revert is ir
      cases t2R E v op lf rt (lf (lf p)) <;> cases t2R E v op lf rt (rt (lf p)) <;> cases t2R E v op lf rt (rt p) <;> decide
    have ew : w2R E v op lf rt p = i2R E v op lf rt (lf p) (L2R E v op lf rt (rt p)) (S2R E v op lf rt (rt p) - L2R E v op lf rt (rt p)) (l1R op lf rt (rt p)) (s1R op lf rt (rt p)) := by
      unfold w2R
      rw [if_pos t, if_pos h9, if_neg (by omega)]
    obtain ⟨a1, a2⟩ := side2 (E := E) (v := v) ho hs hrP x2 g1 ts
    obtain ⟨b1, b2⟩ := side2 (E := E) (v := v) ho hr hrP y2 g2 tr
    rw [ew, q8.2.2, (q1_8 ho hlP h8).2.2.2.2]
    refine ⟨by omega, fun h1 h2 => ?_, fun h1 h2 => ?_⟩
    · obtain ⟨c1, c2⟩ := a2 h1 h2
      exact ⟨by rw [c1]; rfl, c2⟩
    · obtain ⟨c1, c2⟩ := b2 h1 h2
      exact ⟨by rw [c1, Bool.or_true], c2⟩
end PT2
