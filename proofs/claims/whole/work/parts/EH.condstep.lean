/-! THE DEPTH: what is given can be given, backwards over the steps -/
section CONDSTEP
variable {P : Nat} {op lf rt : Nat → Nat} {E v : Nat → Bool} {Γ : Nat → Bool}
theorem cond_or (ho : RPo P op lf rt) {p x : Nat} (hp : p < P) (h8 : op p = 8) (hx : x = lf p ∨ x = rt p) (hok : ∀ q, upB (upB Γ p false) x true q = true → okR E v op lf rt q = true) (q : Nat) (hq : Γ q = true) : okR E v op lf rt q = true := by
  by_cases e : q = p
  · rw [e, ok_8 ho hp h8, Bool.or_eq_true]
    have := hok x (upB_s _ _ _)
    rcases hx with rfl | rfl
    · exact Or.inl this
    · exact Or.inr this
  · exact hok q (upB_le (by rw [← hq]; exact if_neg e))
theorem cond_second (ho : RPo P op lf rt) {p : Nat} (hp : p < P) (h9 : op p = 9) (hok : ∀ q, upB (upB Γ p false) (rt p) true q = true → okR E v op lf rt q = true) (q : Nat) (hq : Γ q = true) : okR E v op lf rt q = true := by
  by_cases e : q = p
  · have hl := (ho.to p hp).2 (by omega)
    rw [e, ok_9 ho hp h9, (q2_9 (E := E) (v := v) ho hp h9).1, (oq_t (E := E) (v := v) ho (rt p) (by omega)).2 (hok _ (upB_s _ _ _)), Bool.or_true]
  · exact hok q (upB_le (by rw [← hq]; exact if_neg e))
theorem cond_first (ho : RPo P op lf rt) {p r : Nat} (hp : p < P) (hr : r < P) (h9 : op p = 9) (hl9 : op (lf p) = 9) (hri : impS op lf rt r (rt (lf p)) (rt p)) (hy : t2R E v op lf rt (rt (lf p)) = true) (hok : ∀ q, nsA P op lf rt Γ p r q = true → okR E v op lf rt q = true) : t2R E v op lf rt (lf p) = true ∧ t2R E v op lf rt r = true ∧ t2R E v op lf rt p = true ∧ ∀ q, Γ q = true → okR E v op lf rt q = true := by
  have hl := (ho.to p hp).2 (by omega)
  have tl : t2R E v op lf rt (lf p) = true := by rw [(q2_9 (E := E) (v := v) ho (show lf p < P by omega) hl9).1, hy, Bool.or_true]
  have tr := (oq_t (E := E) (v := v) ho r hr).2 (hok r (upB_s _ _ _))
  obtain ⟨o1, o2, o3, o4, o5, o6, o7, o8, o9⟩ := ho.two (show lf p < P by omega) (by omega)
  have tc : t2R E v op lf rt (rt p) = true := by
    by_cases y2 : 2 ≤ rt (lf p)
    · have z := t2_0 (E := E) (v := v) ho (show 0 < P by omega)
      have i := imp_t (E := E) (v := v) ho hr (show rt (lf p) < P by omega) y2 z.1 hri
      rw [tr, hy] at i
      exact i.symm
    · -- the right of the left is F: never true
      have y1 : rt (lf p) = 1 := by omega
      have o5 : op 1 = 5 := by rcases ho.1 1 (by omega) with h | h | h <;> omega
      rw [y1, (q2_l (show op 1 < 6 by omega)).1, if_neg (by omega), o5] at hy
      cases hy
  have tp : t2R E v op lf rt p = true := by rw [(q2_9 (E := E) (v := v) ho hp h9).1, tc, Bool.or_true]
  refine ⟨tl, tr, tp, fun q hq => ?_⟩
  by_cases e : q = p
  · rw [e, ok_9 ho hp h9]; exact tp
  · exact hok q (upB_le (upB_le (by rw [← hq]; exact if_neg e)))
end CONDSTEP
