/-! THE DEPTH: the potential of all steps, for atoms E that may become known within a valuation v -/
def S2V (x : Bool × Nat × Nat × Nat × (Nat → Nat → Nat → Nat → Nat) × Nat × Nat × Nat × (Nat → Nat → Nat) × Bool × Nat) : Nat := if x.1 = true then x.2.1 else x.2.2.2.2.2.1
def G2V (x : Bool × Nat × Nat × Nat × (Nat → Nat → Nat → Nat → Nat) × Nat × Nat × Nat × (Nat → Nat → Nat) × Bool × Nat) : Nat := if x.1 = true then x.2.2.1 else x.2.2.2.2.2.2.1
def L2V (x : Bool × Nat × Nat × Nat × (Nat → Nat → Nat → Nat → Nat) × Nat × Nat × Nat × (Nat → Nat → Nat) × Bool × Nat) : Nat := if x.1 = true then x.2.2.2.1 else x.2.2.2.2.2.2.2.1
/-- the cost of a part that is given for (y > c), c's numbers l s l1 s1 -/
def n2V (y : Bool × Nat × Nat × Nat × (Nat → Nat → Nat → Nat → Nat) × Nat × Nat × Nat × (Nat → Nat → Nat) × Bool × Nat) (l s l1 s1 : Nat) : Nat := y.2.2.2.2.1 l s l1 s1 + if y.2.2.2.2.2.2.2.2.2.1 = true then s else 0
def o2V (y : Bool × Nat × Nat × Nat × (Nat → Nat → Nat → Nat → Nat) × Nat × Nat × Nat × (Nat → Nat → Nat) × Bool × Nat) (l1 s1 : Nat) : Nat := y.2.2.2.2.2.2.2.2.1 l1 s1 + if y.2.2.2.2.2.2.2.2.2.1 = true then s1 else 0
def p2L (E v : Nat → Bool) (k : Nat) : Bool × Nat × Nat × Nat × (Nat → Nat → Nat → Nat → Nat) × Nat × Nat × Nat × (Nat → Nat → Nat) × Bool × Nat := (if k < 4 then v k else decide (k = 4), 0, 0, 0, (fun l _ l1 _ => if k < 4 then (if E k = true then l else l1) else 0), p1L k)
def p2B (k : Nat) (x y : Bool × Nat × Nat × Nat × (Nat → Nat → Nat → Nat → Nat) × Nat × Nat × Nat × (Nat → Nat → Nat) × Bool × Nat) : Bool × Nat × Nat × Nat × (Nat → Nat → Nat → Nat → Nat) × Nat × Nat × Nat × (Nat → Nat → Nat) × Bool × Nat :=
  if k = 7 then (x.1 && y.1, S2V x + S2V y, 1 + max (G2V x) (G2V y), S2V x + S2V y, (fun l s l1 s1 => max (n2V x (if y.2.2.2.2.2.2.2.2.2.2 = 9 ∧ y.1 = true then l + s else n2V y l s l1 s1) (n2V y l s l1 s1 - if y.2.2.2.2.2.2.2.2.2.2 = 9 ∧ y.1 = true then l + s else n2V y l s l1 s1) (o2V y l1 s1) 0) (n2V x (o2V y l1 s1) 0 (o2V y l1 s1) 0)), p1B k x.2.2.2.2.2 y.2.2.2.2.2)
  else if k = 8 then (x.1 || y.1, max (if x.2.2.2.2.2.2.2.2.2.2 < 6 then 0 else 1 + S2V x) (if y.2.2.2.2.2.2.2.2.2.2 < 6 then 0 else 1 + S2V y), 1 + max (G2V x) (G2V y), 0, (fun l s l1 s1 => x.2.2.2.2.1 l s l1 s1 + y.2.2.2.2.1 l s l1 s1), p1B k x.2.2.2.2.2 y.2.2.2.2.2)
  else (!x.1 || y.1, n2V x (L2V y) (S2V y - L2V y) y.2.2.2.2.2.2.2.1 (y.2.2.2.2.2.1 - y.2.2.2.2.2.2.2.1), S2V x + G2V y, (if x.2.2.2.2.2.2.2.2.2.2 = 9 ∧ x.1 = true then S2V y else n2V x (L2V y) (S2V y - L2V y) y.2.2.2.2.2.2.2.1 (y.2.2.2.2.2.1 - y.2.2.2.2.2.2.2.1)), (fun l s l1 s1 => if (!x.1 || y.1) = true then max (1 + l) (1 + G2V y + S2V x + y.2.2.2.2.1 l s l1 s1) else l1), p1B k x.2.2.2.2.2 y.2.2.2.2.2)
def q2R (E v : Nat → Bool) (op lf rt : Nat → Nat) (p : Nat) : Bool × Nat × Nat × Nat × (Nat → Nat → Nat → Nat → Nat) × Nat × Nat × Nat × (Nat → Nat → Nat) × Bool × Nat := qv (p2L E v) p2B op lf rt (p2L E v 4) p
def t2R (E v : Nat → Bool) (op lf rt : Nat → Nat) (p : Nat) : Bool := (q2R E v op lf rt p).1
def i2R (E v : Nat → Bool) (op lf rt : Nat → Nat) (p : Nat) : Nat → Nat → Nat → Nat → Nat := (q2R E v op lf rt p).2.2.2.2.1
/-- the cost of a part, of a goal, and what of it stays where the part stays -/
def S2R (E v : Nat → Bool) (op lf rt : Nat → Nat) (p : Nat) : Nat := S2V (q2R E v op lf rt p)
def G2R (E v : Nat → Bool) (op lf rt : Nat → Nat) (p : Nat) : Nat := G2V (q2R E v op lf rt p)
def L2R (E v : Nat → Bool) (op lf rt : Nat → Nat) (p : Nat) : Nat := L2V (q2R E v op lf rt p)
section PRE
variable {P : Nat} {op lf rt : Nat → Nat} {E v : Nat → Bool}
theorem q2_lf {p : Nat} (h : op p < 6) : q2R E v op lf rt p = p2L E v (op p) := qv_lf h
theorem q2_op (ho : RPo P op lf rt) {p : Nat} (hp : p < P) (h : 6 ≤ op p) : q2R E v op lf rt p = p2B (op p) (q2R E v op lf rt (lf p)) (q2R E v op lf rt (rt p)) := by
  obtain ⟨o1, o2, o3, o4, o5, o6, o7, o8, o9⟩ := ho.two hp h
  exact qv_op h o5 o7
/-- the numbers of ORs and goals alone lie within -/
theorem q2_q1 (ho : RPo P op lf rt) : ∀ p, p < P → (q2R E v op lf rt p).2.2.2.2.2 = q1R op lf rt p := by
  intro p
  induction p using Nat.strongRecOn with
  | _ p ih =>
    intro hp
    by_cases h6 : op p < 6
    · rw [q2_lf h6]
      unfold q1R
      rw [qv_lf h6]
      rfl
    · obtain ⟨o1, o2, o3, o4, o5, o6, o7, o8, o9⟩ := ho.two hp (by omega)
      rw [q2_op ho hp (by omega), q1_op ho hp (by omega), ← ih _ o5 (by omega), ← ih _ o7 (by omega)]
      unfold p2B
      by_cases e7 : op p = 7
      · rw [if_pos e7]
      · rw [if_neg e7]
        by_cases e8 : op p = 8
        · rw [if_pos e8]
        · rw [if_neg e8]
end PRE
