/-! THE DEPTH: the potential of all steps, by a part's structure -/
def n2R (E v : Nat → Bool) (op lf rt : Nat → Nat) (A l s l1 s1 : Nat) : Nat := i2R E v op lf rt A l s l1 s1 + if grR op lf rt A = true then s else 0
def o1R (op lf rt : Nat → Nat) (A l1 s1 : Nat) : Nat := i1R op lf rt A l1 s1 + if grR op lf rt A = true then s1 else 0
section PRE2
variable {P : Nat} {op lf rt : Nat → Nat} {E v : Nat → Bool}
theorem q2_l {p : Nat} (h : op p < 6) : t2R E v op lf rt p = (if op p < 4 then v (op p) else decide (op p = 4)) ∧ S2R E v op lf rt p = 0 ∧ G2R E v op lf rt p = 0 ∧ L2R E v op lf rt p = 0 ∧ ∀ l s l1 s1, i2R E v op lf rt p l s l1 s1 = if op p < 4 then (if E (op p) = true then l else l1) else 0 := by
  unfold t2R S2R G2R L2R i2R
  rw [q2_lf h]
  refine ⟨rfl, ?_, ?_, ?_, fun _ _ _ _ => rfl⟩
  · show (if _ then 0 else 0) = 0
    split <;> rfl
  · show (if _ then 0 else 0) = 0
    split <;> rfl
  · show (if _ then 0 else 0) = 0
    split <;> rfl
theorem n2V_eq (ho : RPo P op lf rt) {A : Nat} (hA : A < P) (l s l1 s1 : Nat) : n2V (q2R E v op lf rt A) l s l1 s1 = n2R E v op lf rt A l s l1 s1 ∧ o2V (q2R E v op lf rt A) l1 s1 = o1R op lf rt A l1 s1 := by
  unfold n2V o2V n2R o1R i2R i1R grR
  rw [← q2_q1 (E := E) (v := v) ho A hA]
  exact ⟨rfl, rfl⟩
/-- false in v: as the post potential -/
theorem q2_f (ho : RPo P op lf rt) {p : Nat} (hp : p < P) (h : t2R E v op lf rt p = false) : S2R E v op lf rt p = n1R op lf rt p ∧ G2R E v op lf rt p = g1R op lf rt p ∧ L2R E v op lf rt p = l1R op lf rt p := by
  unfold S2R G2R L2R S2V G2V L2V n1R g1R l1R
  unfold t2R at h
  rw [← q2_q1 (E := E) (v := v) ho p hp, h]
  exact ⟨rfl, rfl, rfl⟩
theorem q2_7 (ho : RPo P op lf rt) {p : Nat} (hp : p < P) (h : op p = 7) : t2R E v op lf rt p = (t2R E v op lf rt (lf p) && t2R E v op lf rt (rt p)) ∧ (t2R E v op lf rt p = true → S2R E v op lf rt p = S2R E v op lf rt (lf p) + S2R E v op lf rt (rt p) ∧ G2R E v op lf rt p = 1 + max (G2R E v op lf rt (lf p)) (G2R E v op lf rt (rt p)) ∧ L2R E v op lf rt p = S2R E v op lf rt p) ∧ ∀ l s l1 s1, i2R E v op lf rt p l s l1 s1 = max (n2R E v op lf rt (lf p) (if op (rt p) = 9 ∧ t2R E v op lf rt (rt p) = true then l + s else n2R E v op lf rt (rt p) l s l1 s1) (n2R E v op lf rt (rt p) l s l1 s1 - if op (rt p) = 9 ∧ t2R E v op lf rt (rt p) = true then l + s else n2R E v op lf rt (rt p) l s l1 s1) (o1R op lf rt (rt p) l1 s1) 0) (n2R E v op lf rt (lf p) (o1R op lf rt (rt p) l1 s1) 0 (o1R op lf rt (rt p) l1 s1) 0) := by
  have hl := (ho.to p hp).2 (by omega)
  have e := q2_op (E := E) (v := v) ho hp (show 6 ≤ op p by omega)
  have kd := q1_kd ho (show rt p < P by omega)
  rw [← q2_q1 (E := E) (v := v) ho (rt p) (by omega)] at kd
  rw [h] at e
  have e7 : ∀ x y, p2B 7 x y = (x.1 && y.1, S2V x + S2V y, 1 + max (G2V x) (G2V y), S2V x + S2V y, (fun l s l1 s1 => max (n2V x (if y.2.2.2.2.2.2.2.2.2.2 = 9 ∧ y.1 = true then l + s else n2V y l s l1 s1) (n2V y l s l1 s1 - if y.2.2.2.2.2.2.2.2.2.2 = 9 ∧ y.1 = true then l + s else n2V y l s l1 s1) (o2V y l1 s1) 0) (n2V x (o2V y l1 s1) 0 (o2V y l1 s1) 0)), p1B 7 x.2.2.2.2.2 y.2.2.2.2.2) := fun x y => if_pos rfl
  rw [e7] at e
  refine ⟨?_, fun ht => ?_, fun l s l1 s1 => ?_⟩
  · unfold t2R
    rw [e]
  · unfold t2R at ht
    unfold S2R G2R L2R
    rw [e] at ht ⊢
    refine ⟨if_pos ht, if_pos ht, ?_⟩
    exact (if_pos ht).trans (if_pos ht).symm
  · have a := fun (z1 z2 z3 z4 : Nat) => (n2V_eq (E := E) (v := v) ho (show lf p < P by omega) z1 z2 z3 z4).1
    have c := fun (z1 z2 z3 z4 : Nat) => n2V_eq (E := E) (v := v) ho (show rt p < P by omega) z1 z2 z3 z4
    have ei : i2R E v op lf rt p l s l1 s1 = max (n2V (q2R E v op lf rt (lf p)) (if (q2R E v op lf rt (rt p)).2.2.2.2.2.2.2.2.2.2 = 9 ∧ (q2R E v op lf rt (rt p)).1 = true then l + s else n2V (q2R E v op lf rt (rt p)) l s l1 s1) (n2V (q2R E v op lf rt (rt p)) l s l1 s1 - if (q2R E v op lf rt (rt p)).2.2.2.2.2.2.2.2.2.2 = 9 ∧ (q2R E v op lf rt (rt p)).1 = true then l + s else n2V (q2R E v op lf rt (rt p)) l s l1 s1) (o2V (q2R E v op lf rt (rt p)) l1 s1) 0) (n2V (q2R E v op lf rt (lf p)) (o2V (q2R E v op lf rt (rt p)) l1 s1) 0 (o2V (q2R E v op lf rt (rt p)) l1 s1) 0) := by
      unfold i2R
      rw [e]
    rw [ei, a, a, (c l s l1 s1).1, (c l s l1 s1).2, kd]
    rfl
theorem q2_8 (ho : RPo P op lf rt) {p : Nat} (hp : p < P) (h : op p = 8) : t2R E v op lf rt p = (t2R E v op lf rt (lf p) || t2R E v op lf rt (rt p)) ∧ (t2R E v op lf rt p = true → S2R E v op lf rt p = max (if op (lf p) < 6 then 0 else 1 + S2R E v op lf rt (lf p)) (if op (rt p) < 6 then 0 else 1 + S2R E v op lf rt (rt p)) ∧ G2R E v op lf rt p = 1 + max (G2R E v op lf rt (lf p)) (G2R E v op lf rt (rt p)) ∧ L2R E v op lf rt p = 0) ∧ ∀ l s l1 s1, i2R E v op lf rt p l s l1 s1 = i2R E v op lf rt (lf p) l s l1 s1 + i2R E v op lf rt (rt p) l s l1 s1 := by
  have hl := (ho.to p hp).2 (by omega)
  have e := q2_op (E := E) (v := v) ho hp (show 6 ≤ op p by omega)
  have k1 := q1_kd ho (show lf p < P by omega)
  have k2 := q1_kd ho (show rt p < P by omega)
  rw [← q2_q1 (E := E) (v := v) ho (lf p) (by omega)] at k1
  rw [← q2_q1 (E := E) (v := v) ho (rt p) (by omega)] at k2
  rw [h] at e
  have e8 : ∀ x y, p2B 8 x y = (x.1 || y.1, max (if x.2.2.2.2.2.2.2.2.2.2 < 6 then 0 else 1 + S2V x) (if y.2.2.2.2.2.2.2.2.2.2 < 6 then 0 else 1 + S2V y), 1 + max (G2V x) (G2V y), 0, (fun l s l1 s1 => x.2.2.2.2.1 l s l1 s1 + y.2.2.2.2.1 l s l1 s1), p1B 8 x.2.2.2.2.2 y.2.2.2.2.2) := fun x y => (if_neg (by decide)).trans (if_pos rfl)
  rw [e8, k1, k2] at e
  refine ⟨?_, fun ht => ?_, fun l s l1 s1 => ?_⟩
  · unfold t2R
    rw [e]
  · unfold t2R at ht
    unfold S2R G2R L2R
    rw [e] at ht ⊢
    exact ⟨if_pos ht, if_pos ht, if_pos ht⟩
  · unfold i2R
    rw [e]
end PRE2
