/-! THE DEPTH: the potential of all steps, an IF -/
section PRE3
variable {P : Nat} {op lf rt : Nat → Nat} {E v : Nat → Bool}
theorem q2_9 (ho : RPo P op lf rt) {p : Nat} (hp : p < P) (h : op p = 9) : t2R E v op lf rt p = (!t2R E v op lf rt (lf p) || t2R E v op lf rt (rt p)) ∧ (t2R E v op lf rt p = true → S2R E v op lf rt p = n2R E v op lf rt (lf p) (L2R E v op lf rt (rt p)) (S2R E v op lf rt (rt p) - L2R E v op lf rt (rt p)) (l1R op lf rt (rt p)) (n1R op lf rt (rt p) - l1R op lf rt (rt p)) ∧ G2R E v op lf rt p = S2R E v op lf rt (lf p) + G2R E v op lf rt (rt p) ∧ L2R E v op lf rt p = if op (lf p) = 9 ∧ t2R E v op lf rt (lf p) = true then S2R E v op lf rt (rt p) else S2R E v op lf rt p) ∧ ∀ l s l1 s1, i2R E v op lf rt p l s l1 s1 = if t2R E v op lf rt p = true then max (1 + l) (1 + G2R E v op lf rt (rt p) + S2R E v op lf rt (lf p) + i2R E v op lf rt (rt p) l s l1 s1) else l1 := by
  have hl := (ho.to p hp).2 (by omega)
  have e := q2_op (E := E) (v := v) ho hp (show 6 ≤ op p by omega)
  have k1 := q1_kd ho (show lf p < P by omega)
  have qr := q2_q1 (E := E) (v := v) ho (rt p) (by omega)
  rw [← q2_q1 (E := E) (v := v) ho (lf p) (by omega)] at k1
  rw [h] at e
  have e9 : ∀ x y, p2B 9 x y = (!x.1 || y.1, n2V x (L2V y) (S2V y - L2V y) y.2.2.2.2.2.2.2.1 (y.2.2.2.2.2.1 - y.2.2.2.2.2.2.2.1), S2V x + G2V y, (if x.2.2.2.2.2.2.2.2.2.2 = 9 ∧ x.1 = true then S2V y else n2V x (L2V y) (S2V y - L2V y) y.2.2.2.2.2.2.2.1 (y.2.2.2.2.2.1 - y.2.2.2.2.2.2.2.1)), (fun l s l1 s1 => if (!x.1 || y.1) = true then max (1 + l) (1 + G2V y + S2V x + y.2.2.2.2.1 l s l1 s1) else l1), p1B 9 x.2.2.2.2.2 y.2.2.2.2.2) := fun x y => (if_neg (by decide)).trans (if_neg (by decide))
  rw [e9, k1] at e
  have a := fun (z1 z2 z3 z4 : Nat) => (n2V_eq (E := E) (v := v) ho (show lf p < P by omega) z1 z2 z3 z4).1
  have en : (q2R E v op lf rt (rt p)).2.2.2.2.2.1 = n1R op lf rt (rt p) := by rw [qr]; rfl
  have el : (q2R E v op lf rt (rt p)).2.2.2.2.2.2.2.1 = l1R op lf rt (rt p) := by rw [qr]; rfl
  rw [en, el] at e
  have et : t2R E v op lf rt p = (!t2R E v op lf rt (lf p) || t2R E v op lf rt (rt p)) := by
    unfold t2R
    rw [e]
  refine ⟨et, fun ht => ?_, fun l s l1 s1 => ?_⟩
  · have ht' := ht
    have eS : S2R E v op lf rt p = n2R E v op lf rt (lf p) (L2R E v op lf rt (rt p)) (S2R E v op lf rt (rt p) - L2R E v op lf rt (rt p)) (l1R op lf rt (rt p)) (n1R op lf rt (rt p) - l1R op lf rt (rt p)) := by
      rw [← a]
      unfold t2R at ht
      unfold S2R L2R
      rw [e] at ht ⊢
      exact if_pos ht
    refine ⟨eS, ?_, ?_⟩
    · unfold t2R at ht
      unfold G2R S2R
      rw [e] at ht ⊢
      exact if_pos ht
    · rw [eS, ← a]
      unfold t2R at ht
      unfold L2R S2R t2R
      rw [e] at ht ⊢
      exact if_pos ht
  · rw [et]
    unfold i2R G2R S2R t2R
    rw [e]
end PRE3
