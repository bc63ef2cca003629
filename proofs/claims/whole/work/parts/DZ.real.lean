/-! THE DEPTH: what can be given where the atoms E are known and v is true -/
def okL (E v : Nat → Bool) (k : Nat) : Bool × Bool := (if k < 4 then v k else decide (k = 4), if k < 4 then E k && v k else decide (k = 4))
def okB (k : Nat) (x y : Bool × Bool) : Bool × Bool := if k = 7 then (x.1 && y.1, x.2 && y.2) else if k = 8 then (x.1 || y.1, x.2 || y.2) else (!x.1 || y.1, !x.1 || y.1)
def oqR (E v : Nat → Bool) (op lf rt : Nat → Nat) (p : Nat) : Bool × Bool := qv (okL E v) okB op lf rt (okL E v 4) p
def okR (E v : Nat → Bool) (op lf rt : Nat → Nat) (p : Nat) : Bool := (oqR E v op lf rt p).2
/-- what a part costs that is given, its group on -/
def w2R (E v : Nat → Bool) (op lf rt : Nat → Nat) (p : Nat) : Nat := if t2R E v op lf rt p = true then (if op p = 9 then (if op (lf p) = 9 ∧ t2R E v op lf rt (lf p) = true then L2R E v op lf rt (rt p) else i2R E v op lf rt (lf p) (L2R E v op lf rt (rt p)) (S2R E v op lf rt (rt p) - L2R E v op lf rt (rt p)) (l1R op lf rt (rt p)) (s1R op lf rt (rt p))) else if op p = 7 then S2R E v op lf rt p else 0) else w1R op lf rt p
def sr2R (E v : Nat → Bool) (op lf rt : Nat → Nat) (p : Nat) : Nat := S2R E v op lf rt p - L2R E v op lf rt p
section REAL
variable {P : Nat} {op lf rt : Nat → Nat} {E v : Nat → Bool}
theorem oq_lf {p : Nat} (h : op p < 6) : oqR E v op lf rt p = okL E v (op p) := qv_lf h
theorem oq_op (ho : RPo P op lf rt) {p : Nat} (hp : p < P) (h : 6 ≤ op p) : oqR E v op lf rt p = okB (op p) (oqR E v op lf rt (lf p)) (oqR E v op lf rt (rt p)) := by
  obtain ⟨o1, o2, o3, o4, o5, o6, o7, o8, o9⟩ := ho.two hp h
  exact qv_op h o5 o7
theorem oq_t (ho : RPo P op lf rt) : ∀ p, p < P → (oqR E v op lf rt p).1 = t2R E v op lf rt p ∧ (okR E v op lf rt p = true → t2R E v op lf rt p = true) := by
  intro p
  induction p using Nat.strongRecOn with
  | _ p ih =>
    intro hp
    unfold okR
    by_cases h6 : op p < 6
    · rw [oq_lf h6, (q2_l h6).1]
      refine ⟨rfl, fun h => ?_⟩
      replace h : (if op p < 4 then E (op p) && v (op p) else decide (op p = 4)) = true := h
      by_cases h4 : op p < 4
      · rw [if_pos h4]
        rw [if_pos h4, Bool.and_eq_true] at h
        exact h.2
      · rw [if_neg h4]
        rw [if_neg h4] at h
        exact h
    · obtain ⟨o1, o2, o3, o4, o5, o6, o7, o8, o9⟩ := ho.two hp (by omega)
      have ix := ih _ o5 (by omega)
      have iy := ih _ o7 (by omega)
      unfold okR at ix iy
      rw [oq_op ho hp (by omega)]
      obtain e | e | e : op p = 7 ∨ op p = 8 ∨ op p = 9 := by have := (ho.to p hp).1; omega
      · rw [(q2_7 ho hp e).1, e, show ∀ x y, okB 7 x y = (x.1 && y.1, x.2 && y.2) from fun _ _ => if_pos rfl, ← ix.1, ← iy.1]
        refine ⟨rfl, fun h => ?_⟩
        rw [Bool.and_eq_true] at h ⊢
        exact ⟨ix.1.trans (ix.2 h.1), iy.1.trans (iy.2 h.2)⟩
      · rw [(q2_8 ho hp e).1, e, show ∀ x y, okB 8 x y = (x.1 || y.1, x.2 || y.2) from fun _ _ => (if_neg (by decide)).trans (if_pos rfl), ← ix.1, ← iy.1]
        refine ⟨rfl, fun h => ?_⟩
        rw [Bool.or_eq_true] at h ⊢
        exact h.imp (fun h => ix.1.trans (ix.2 h)) (fun h => iy.1.trans (iy.2 h))
      · rw [(q2_9 ho hp e).1, e, show ∀ x y, okB 9 x y = (!x.1 || y.1, !x.1 || y.1) from fun _ _ => (if_neg (by decide)).trans (if_neg (by decide)), ← ix.1, ← iy.1]
        exact ⟨rfl, fun h => h⟩
theorem ok_7 (ho : RPo P op lf rt) {p : Nat} (hp : p < P) (h : op p = 7) : okR E v op lf rt p = (okR E v op lf rt (lf p) && okR E v op lf rt (rt p)) := by
  unfold okR
  rw [oq_op ho hp (by omega), h]
  rfl
theorem ok_8 (ho : RPo P op lf rt) {p : Nat} (hp : p < P) (h : op p = 8) : okR E v op lf rt p = (okR E v op lf rt (lf p) || okR E v op lf rt (rt p)) := by
  unfold okR
  rw [oq_op ho hp (by omega), h]
  rfl
theorem ok_9 (ho : RPo P op lf rt) {p : Nat} (hp : p < P) (h : op p = 9) : okR E v op lf rt p = t2R E v op lf rt p := by
  have e := (oq_t (E := E) (v := v) ho p hp).1
  rw [← e]
  unfold okR
  rw [oq_op ho hp (by omega), h]
  rfl
/-- what fires costs enough -/
theorem i2_ge (ho : RPo P op lf rt) : ∀ A, 2 ≤ A → A < P → okR E v op lf rt A = true → ∀ l s l1 s1, l ≤ i2R E v op lf rt A l s l1 s1 ∧ (grR op lf rt A = false → l + s ≤ i2R E v op lf rt A l s l1 s1) := by
  intro A
  induction A using Nat.strongRecOn with
  | _ A ih =>
    intro h2 hA hk l s l1 s1
    by_cases h6 : op A < 6
    · have h4 : op A < 4 := by rcases ho.1 A hA with h | h | h <;> omega
      have q := q1_lf (lf := lf) (rt := rt) h6
      have hE : E (op A) = true := by
        unfold okR at hk
        rw [oq_lf h6] at hk
        replace hk : (if op A < 4 then E (op A) && v (op A) else decide (op A = 4)) = true := hk
        rw [if_pos h4, Bool.and_eq_true] at hk
        exact hk.1
      rw [(q2_l h6).2.2.2.2, if_pos h4, if_pos hE]
      refine ⟨Nat.le_refl _, fun h => ?_⟩
      rw [q.2.2.2.2] at h
      simp [h4] at h
    · obtain ⟨o1, o2, o3, o4, o5, o6, o7, o8, o9⟩ := ho.two hA (by omega)
      obtain e | e | e : op A = 7 ∨ op A = 8 ∨ op A = 9 := by omega
      · have r2 : 2 ≤ rt A := by
          by_cases r1 : rt A = 1
          · have := o9 r1; omega
          · omega
        rw [ok_7 ho hA e, Bool.and_eq_true] at hk
        have iy := ih _ o7 r2 (by omega) hk.2 l s l1 s1
        have hL : l + s ≤ if op (rt A) = 9 ∧ t2R E v op lf rt (rt A) = true then l + s else n2R E v op lf rt (rt A) l s l1 s1 := by
          split
          · exact Nat.le_refl _
          · unfold n2R
            by_cases c : grR op lf rt (rt A) = true
            · rw [if_pos c]; omega
            · rw [if_neg c]; have := iy.2 (eq_false_of_ne_true c); omega
        have ei := (q2_7 (E := E) (v := v) ho hA e).2.2 l s l1 s1
        have ix := ih _ o5 o4 (by omega) hk.1 (if op (rt A) = 9 ∧ t2R E v op lf rt (rt A) = true then l + s else n2R E v op lf rt (rt A) l s l1 s1) (n2R E v op lf rt (rt A) l s l1 s1 - if op (rt A) = 9 ∧ t2R E v op lf rt (rt A) = true then l + s else n2R E v op lf rt (rt A) l s l1 s1) (o1R op lf rt (rt A) l1 s1) 0
        have all : l + s ≤ i2R E v op lf rt A l s l1 s1 := by
          rw [ei]
          exact Nat.le_trans hL (Nat.le_trans ix.1 (Nat.le_trans (Nat.le_add_right _ _) (Nat.le_max_left _ _)))
        exact ⟨by omega, fun _ => all⟩
      · have r2 : 2 ≤ rt A := by
          by_cases r1 : rt A = 1
          · have := o9 r1; omega
          · omega
        rw [ok_8 ho hA e, Bool.or_eq_true] at hk
        rw [(q2_8 (E := E) (v := v) ho hA e).2.2, (q1_8 ho hA e).2.2.2.2]
        rcases hk with hk | hk
        · have := ih _ o5 o4 (by omega) hk l s l1 s1
          refine ⟨by omega, fun h => ?_⟩
          rw [Bool.or_eq_false_iff] at h
          have := this.2 h.1
          omega
        · have := ih _ o7 r2 (by omega) hk l s l1 s1
          refine ⟨by omega, fun h => ?_⟩
          rw [Bool.or_eq_false_iff] at h
          have := this.2 h.2
          omega
      · rw [ok_9 ho hA e] at hk
        rw [(q2_9 (E := E) (v := v) ho hA e).2.2, if_pos hk, (q1_9 ho hA e).2.2.2.2]
        refine ⟨?_, fun h => by cases h⟩
        have := Nat.le_max_left (1 + l) (1 + G2R E v op lf rt (rt A) + S2R E v op lf rt (lf A) + i2R E v op lf rt (rt A) l s l1 s1)
        omega
end REAL
