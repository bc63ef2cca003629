/-! THE DEPTH: the potential of ORs and goals alone -/
def p1L (k : Nat) : Nat × Nat × Nat × (Nat → Nat → Nat) × Bool × Nat := (0, 0, 0, (fun l _ => if k < 4 then l else 0), decide (k < 4), k)
def p1B (k : Nat) (x y : Nat × Nat × Nat × (Nat → Nat → Nat) × Bool × Nat) : Nat × Nat × Nat × (Nat → Nat → Nat) × Bool × Nat :=
  if k = 7 then (x.1 + y.1, 1 + max x.2.1 y.2.1, x.1 + y.1, (fun l s => x.2.2.2.1 (y.2.2.2.1 l s + if y.2.2.2.2.1 = true then s else 0) 0), false, k)
  else if k = 8 then (max (if x.2.2.2.2.2 < 6 then 0 else 1 + x.1) (if y.2.2.2.2.2 < 6 then 0 else 1 + y.1), 1 + max x.2.1 y.2.1, 0, (fun l s => x.2.2.2.1 l s + y.2.2.2.1 l s), x.2.2.2.2.1 || y.2.2.2.2.1, k)
  else (x.2.2.2.1 y.2.2.1 (y.1 - y.2.2.1) + (if x.2.2.2.2.1 = true then y.1 - y.2.2.1 else 0), x.1 + y.2.1, x.2.2.2.1 y.2.2.1 (y.1 - y.2.2.1) + (if x.2.2.2.2.1 = true then y.1 - y.2.2.1 else 0), (fun l _ => l), true, k)
def q1R (op lf rt : Nat → Nat) (p : Nat) : Nat × Nat × Nat × (Nat → Nat → Nat) × Bool × Nat := qv p1L p1B op lf rt (p1L 4) p
def n1R (op lf rt : Nat → Nat) (p : Nat) : Nat := (q1R op lf rt p).1
def g1R (op lf rt : Nat → Nat) (p : Nat) : Nat := (q1R op lf rt p).2.1
def l1R (op lf rt : Nat → Nat) (p : Nat) : Nat := (q1R op lf rt p).2.2.1
def i1R (op lf rt : Nat → Nat) (p : Nat) : Nat → Nat → Nat := (q1R op lf rt p).2.2.2.1
def grR (op lf rt : Nat → Nat) (p : Nat) : Bool := (q1R op lf rt p).2.2.2.2.1
def s1R (op lf rt : Nat → Nat) (p : Nat) : Nat := n1R op lf rt p - l1R op lf rt p
def w1R (op lf rt : Nat → Nat) (p : Nat) : Nat := if op p = 9 then i1R op lf rt (lf p) (l1R op lf rt (rt p)) (s1R op lf rt (rt p)) else if op p = 7 then n1R op lf rt p else 0
theorem p1B_7 (x y : Nat × Nat × Nat × (Nat → Nat → Nat) × Bool × Nat) : p1B 7 x y = (x.1 + y.1, 1 + max x.2.1 y.2.1, x.1 + y.1, (fun l s => x.2.2.2.1 (y.2.2.2.1 l s + if y.2.2.2.2.1 = true then s else 0) 0), false, 7) := if_pos rfl
theorem p1B_8 (x y : Nat × Nat × Nat × (Nat → Nat → Nat) × Bool × Nat) : p1B 8 x y = (max (if x.2.2.2.2.2 < 6 then 0 else 1 + x.1) (if y.2.2.2.2.2 < 6 then 0 else 1 + y.1), 1 + max x.2.1 y.2.1, 0, (fun l s => x.2.2.2.1 l s + y.2.2.2.1 l s), x.2.2.2.2.1 || y.2.2.2.2.1, 8) := (if_neg (by decide)).trans (if_pos rfl)
theorem p1B_9 (x y : Nat × Nat × Nat × (Nat → Nat → Nat) × Bool × Nat) : p1B 9 x y = (x.2.2.2.1 y.2.2.1 (y.1 - y.2.2.1) + (if x.2.2.2.2.1 = true then y.1 - y.2.2.1 else 0), x.1 + y.2.1, x.2.2.2.1 y.2.2.1 (y.1 - y.2.2.1) + (if x.2.2.2.2.1 = true then y.1 - y.2.2.1 else 0), (fun l _ => l), true, 9) := (if_neg (by decide)).trans (if_neg (by decide))
section POST
variable {P : Nat} {op lf rt : Nat → Nat}
theorem q1_lf {p : Nat} (h : op p < 6) : n1R op lf rt p = 0 ∧ g1R op lf rt p = 0 ∧ l1R op lf rt p = 0 ∧ (∀ l s, i1R op lf rt p l s = if op p < 4 then l else 0) ∧ grR op lf rt p = decide (op p < 4) := by
  unfold n1R g1R l1R i1R grR q1R
  rw [qv_lf h]
  exact ⟨rfl, rfl, rfl, fun _ _ => rfl, rfl⟩
theorem q1_op (ho : RPo P op lf rt) {p : Nat} (hp : p < P) (h : 6 ≤ op p) : q1R op lf rt p = p1B (op p) (q1R op lf rt (lf p)) (q1R op lf rt (rt p)) := by
  obtain ⟨o1, o2, o3, o4, o5, o6, o7, o8, o9⟩ := ho.two hp h
  exact qv_op h o5 o7
theorem q1_kd (ho : RPo P op lf rt) {p : Nat} (hp : p < P) : (q1R op lf rt p).2.2.2.2.2 = op p := by
  by_cases h6 : op p < 6
  · unfold q1R
    rw [qv_lf h6]; rfl
  · rw [q1_op ho hp (by omega)]
    have := (ho.to p hp).1
    obtain e | e | e : op p = 7 ∨ op p = 8 ∨ op p = 9 := by have := (ho.two hp (by omega)).2.1; omega
    · rw [e, p1B_7]
    · rw [e, p1B_8]
    · rw [e, p1B_9]
theorem q1_7 (ho : RPo P op lf rt) {p : Nat} (hp : p < P) (h : op p = 7) : n1R op lf rt p = n1R op lf rt (lf p) + n1R op lf rt (rt p) ∧ g1R op lf rt p = 1 + max (g1R op lf rt (lf p)) (g1R op lf rt (rt p)) ∧ l1R op lf rt p = n1R op lf rt p ∧ (∀ l s, i1R op lf rt p l s = i1R op lf rt (lf p) (i1R op lf rt (rt p) l s + if grR op lf rt (rt p) = true then s else 0) 0) ∧ grR op lf rt p = false := by
  have e := q1_op ho hp (show 6 ≤ op p by omega)
  rw [h, p1B_7] at e
  unfold n1R g1R l1R i1R grR
  rw [e]
  exact ⟨rfl, rfl, rfl, fun _ _ => rfl, rfl⟩
theorem q1_8 (ho : RPo P op lf rt) {p : Nat} (hp : p < P) (h : op p = 8) : n1R op lf rt p = max (if op (lf p) < 6 then 0 else 1 + n1R op lf rt (lf p)) (if op (rt p) < 6 then 0 else 1 + n1R op lf rt (rt p)) ∧ g1R op lf rt p = 1 + max (g1R op lf rt (lf p)) (g1R op lf rt (rt p)) ∧ l1R op lf rt p = 0 ∧ (∀ l s, i1R op lf rt p l s = i1R op lf rt (lf p) l s + i1R op lf rt (rt p) l s) ∧ grR op lf rt p = (grR op lf rt (lf p) || grR op lf rt (rt p)) := by
  have e := q1_op ho hp (show 6 ≤ op p by omega)
  rw [h, p1B_8] at e
  have k1 := q1_kd ho (show lf p < P by have := (ho.to p hp).2 (by omega); omega)
  have k2 := q1_kd ho (show rt p < P by have := (ho.to p hp).2 (by omega); omega)
  rw [k1, k2] at e
  unfold n1R g1R l1R i1R grR
  rw [e]
  exact ⟨rfl, rfl, rfl, fun _ _ => rfl, rfl⟩
theorem q1_9 (ho : RPo P op lf rt) {p : Nat} (hp : p < P) (h : op p = 9) : n1R op lf rt p = i1R op lf rt (lf p) (l1R op lf rt (rt p)) (s1R op lf rt (rt p)) + (if grR op lf rt (lf p) = true then s1R op lf rt (rt p) else 0) ∧ g1R op lf rt p = n1R op lf rt (lf p) + g1R op lf rt (rt p) ∧ l1R op lf rt p = n1R op lf rt p ∧ (∀ l s, i1R op lf rt p l s = l) ∧ grR op lf rt p = true := by
  have e := q1_op ho hp (show 6 ≤ op p by omega)
  rw [h, p1B_9] at e
  unfold s1R n1R g1R l1R i1R grR
  rw [e]
  exact ⟨rfl, rfl, rfl, fun _ _ => rfl, rfl⟩
theorem l1_le (ho : RPo P op lf rt) {p : Nat} (hp : p < P) : l1R op lf rt p ≤ n1R op lf rt p := by
  by_cases h6 : op p < 6
  · rw [(q1_lf h6).2.2.1]; exact Nat.zero_le _
  · have := (ho.to p hp).1
    obtain e | e | e : op p = 7 ∨ op p = 8 ∨ op p = 9 := by have := (ho.two hp (by omega)).2.1; omega
    · rw [(q1_7 ho hp e).2.2.1]; exact Nat.le_refl _
    · rw [(q1_8 ho hp e).2.2.1]; exact Nat.zero_le _
    · rw [(q1_9 ho hp e).2.2.1]; exact Nat.le_refl _
theorem low1_eq (ho : RPo P op lf rt) {p : Nat} (hp : p < P) : lowA op lf rt (grR op lf rt) (w1R op lf rt) (s1R op lf rt) p = l1R op lf rt p := by
  unfold lowA w1R
  by_cases h6 : op p < 6
  · rw [if_neg (by omega), if_neg (by omega), if_neg (by omega), (q1_lf h6).2.2.1]
  · obtain e | e | e : op p = 7 ∨ op p = 8 ∨ op p = 9 := by have := (ho.two hp (by omega)).2.1; have := (ho.to p hp).1; omega
    · rw [if_neg (by omega), if_pos e, if_neg (by omega), (q1_7 ho hp e).2.2.1]
      rfl
    · rw [if_neg (by omega), if_neg (by omega), if_neg (by omega), (q1_8 ho hp e).2.2.1]
    · rw [if_pos e, (q1_9 ho hp e).2.2.1, (q1_9 ho hp e).1]
      by_cases c : grR op lf rt (lf p) = true
      · rw [if_pos ⟨e, c⟩, if_pos c]
      · rw [if_neg (fun h => c h.2), if_neg c]
/-- what fires costs enough -/
theorem i1_ge (ho : RPo P op lf rt) : ∀ A, 2 ≤ A → A < P → (grR op lf rt A = true → ∀ l s, l ≤ i1R op lf rt A l s) ∧ (grR op lf rt A = false → ∀ l s, l + s ≤ i1R op lf rt A l s) := by
  intro A
  induction A using Nat.strongRecOn with
  | _ A ih =>
    intro h2 hA
    by_cases h6 : op A < 6
    · have h4 : op A < 4 := by rcases ho.1 A hA with h | h | h <;> omega
      have q := q1_lf (lf := lf) (rt := rt) h6
      refine ⟨fun _ l s => ?_, fun h => ?_⟩
      · rw [q.2.2.2.1, if_pos h4]; exact Nat.le_refl _
      · rw [q.2.2.2.2] at h
        simp [h4] at h
    · obtain ⟨o1, o2, o3, o4, o5, o6, o7, o8, o9⟩ := ho.two hA (by omega)
      obtain e | e | e : op A = 7 ∨ op A = 8 ∨ op A = 9 := by omega
      · have q := q1_7 ho hA e
        have r2 : 2 ≤ rt A := by
          by_cases r1 : rt A = 1
          · have := o9 r1; omega
          · omega
        have ix := ih _ o5 o4 (by omega)
        have iy := ih _ o7 r2 (by omega)
        refine ⟨fun h => (by rw [q.2.2.2.2] at h; cases h), fun _ l s => ?_⟩
        rw [q.2.2.2.1]
        have hn : l + s ≤ i1R op lf rt (rt A) l s + if grR op lf rt (rt A) = true then s else 0 := by
          by_cases c : grR op lf rt (rt A) = true
          · rw [if_pos c]; have := iy.1 c l s; omega
          · rw [if_neg c]; have := iy.2 (eq_false_of_ne_true c) l s; omega
        generalize (i1R op lf rt (rt A) l s + if grR op lf rt (rt A) = true then s else 0) = n at *
        by_cases c : grR op lf rt (lf A) = true
        · exact Nat.le_trans hn (ix.1 c n 0)
        · have := ix.2 (eq_false_of_ne_true c) n 0; omega
      · have q := q1_8 ho hA e
        have r2 : 2 ≤ rt A := by
          by_cases r1 : rt A = 1
          · have := o9 r1; omega
          · omega
        have ix := ih _ o5 o4 (by omega)
        have iy := ih _ o7 r2 (by omega)
        refine ⟨fun h l s => ?_, fun h l s => ?_⟩
        · rw [q.2.2.2.2, Bool.or_eq_true] at h
          rw [q.2.2.2.1]
          rcases h with h | h
          · have := ix.1 h l s; omega
          · have := iy.1 h l s; omega
        · rw [q.2.2.2.2, Bool.or_eq_false_iff] at h
          rw [q.2.2.2.1]
          have := ix.2 h.1 l s
          omega
      · have q := q1_9 ho hA e
        refine ⟨fun _ l s => ?_, fun h => ?_⟩
        · rw [q.2.2.2.1]; exact Nat.le_refl _
        · rw [q.2.2.2.2] at h; cases h
/-- the potential of ORs and goals keeps what a potential must -/
theorem pt1_ok (ho : RPo P op lf rt) : ptOK P op lf rt (grR op lf rt) (fun _ => true) (w1R op lf rt) (s1R op lf rt) (n1R op lf rt) := by
  have z : n1R op lf rt 0 = 0 ∧ w1R op lf rt 0 = 0 ∧ s1R op lf rt 0 = 0 ∨ P = 0 := by
    by_cases hP : P = 0
    · exact Or.inr hP
    · have h6 : op 0 < 6 := by rcases ho.1 0 (by omega) with h | h | h <;> omega
      left
      unfold w1R s1R
      rw [if_neg (by omega), if_neg (by omega), (q1_lf h6).1]
      exact ⟨rfl, rfl, Nat.zero_sub _⟩
  have pos : ∀ p, p < P → op p = 9 → 6 ≤ op (lf p) → 2 ≤ lf (lf p) ∧ 1 ≤ rt (lf p) ∧ (op (lf p) ≠ 9 → 2 ≤ rt (lf p)) ∧ lf p < P := fun p hp h9 h6 => by
    have hl := (ho.to p hp).2 (by omega)
    obtain ⟨o1, o2, o3, o4, o5, o6, o7, o8, o9⟩ := ho.two (show lf p < P by omega) h6
    refine ⟨o4, o6, fun h => ?_, by omega⟩
    by_cases r1 : rt (lf p) = 1
    · exact absurd (o9 r1) h
    · omega
  refine ⟨fun q hq => ?_, fun p hp h7 _ _ => ?_, fun p hp h9 _ _ => ?_, fun p s r hp hs hr h9 h7 g1 g2 _ => ?_, fun p s r hp hs hr h9 h8 g1 g2 _ _ => ?_⟩
  · rw [low1_eq ho hq]
    have := l1_le ho hq
    unfold s1R
    omega
  · unfold w1R
    rw [if_neg (by omega), if_pos h7, (q1_7 ho hp h7).1]
    exact Nat.le_refl _
  · obtain ⟨o1, o2, o3, o4, o5, o6, o7, o8, o9⟩ := ho.two hp (by omega)
    have hi := i1_ge ho (lf p) o4 (by omega)
    have e : w1R op lf rt p = i1R op lf rt (lf p) (l1R op lf rt (rt p)) (s1R op lf rt (rt p)) := if_pos h9
    rw [e, low1_eq ho (by omega)]
    exact ⟨fun h => hi.1 h _ _, fun h => hi.2 h _ _⟩
  · obtain ⟨x2, _, y2, hlP⟩ := pos p hp h9 (by omega)
    have y2 := y2 (by omega)
    have hP : P ≠ 0 := by omega
    have zz := z.resolve_right hP
    have e : w1R op lf rt p = i1R op lf rt (lf p) (l1R op lf rt (rt p)) (s1R op lf rt (rt p)) := if_pos h9
    rw [e, (q1_7 ho hlP h7).2.2.2.1]
    rcases g2 with ⟨h, _⟩ | ⟨_, h⟩ | ⟨_, _, hs0, _, r9, r1, r3⟩
    · omega
    · rw [h, zz.1]; exact Nat.zero_le _
    · rcases g1 with ⟨h, _⟩ | ⟨_, h⟩ | ⟨_, _, _, _, s9, s1, s3⟩
      · omega
      · omega
      · have qs := q1_9 ho hs s9
        rw [s1, s3] at qs
        have ss : s1R op lf rt s = 0 := by unfold s1R; rw [qs.2.2.1]; exact Nat.sub_self _
        rw [(q1_9 ho hr r9).1, r1, r3, ss, qs.2.2.1, qs.1]
        have e0 : (if grR op lf rt (lf (lf p)) = true then 0 else 0) = 0 := by split <;> rfl
        rw [e0]
        exact Nat.le_refl _
  · obtain ⟨x2, _, y2, hlP⟩ := pos p hp h9 (by omega)
    have y2 := y2 (by omega)
    have zz := z.resolve_right (by omega)
    have e : w1R op lf rt p = i1R op lf rt (lf p) (l1R op lf rt (rt p)) (s1R op lf rt (rt p)) := if_pos h9
    have q8 := q1_8 ho hlP h8
    have op0 : op 0 < 6 := by rcases ho.1 0 (by omega) with h | h | h <;> omega
    have one : ∀ t u, t < P → 2 ≤ u → impS op lf rt t u (rt p) → w1R op lf rt t + s1R op lf rt t ≤ i1R op lf rt u (l1R op lf rt (rt p)) (s1R op lf rt (rt p)) ∧ (op t = 9 → grR op lf rt (lf t) = true → grR op lf rt u = true ∧ rt t = rt p) := fun t u ht hu hi => by
      rcases hi with ⟨h, _⟩ | ⟨_, h⟩ | ⟨_, _, _, _, t9, t1, t3⟩
      · omega
      · rw [h, zz.2.1, zz.2.2]
        exact ⟨Nat.zero_le _, fun h => absurd h (by omega)⟩
      · have et : w1R op lf rt t = i1R op lf rt (lf t) (l1R op lf rt (rt t)) (s1R op lf rt (rt t)) := if_pos t9
        have es : s1R op lf rt t = 0 := by unfold s1R; rw [(q1_9 ho ht t9).2.2.1]; exact Nat.sub_self _
        rw [et, es, t1, t3]
        exact ⟨Nat.le_refl _, fun _ h => ⟨h, rfl⟩⟩
    obtain ⟨a1, a2⟩ := one s _ hs x2 g1
    obtain ⟨b1, b2⟩ := one r _ hr y2 g2
    rw [e, q8.2.2.2.1, q8.2.2.2.2]
    refine ⟨by omega, fun h1 h2 => ?_, fun h1 h2 => ?_⟩
    · obtain ⟨c1, c2⟩ := a2 h1 h2
      exact ⟨by rw [c1]; rfl, c2⟩
    · obtain ⟨c1, c2⟩ := b2 h1 h2
      exact ⟨by rw [c1, Bool.or_true], c2⟩
end POST
