/-! THE DEPTH'S NUMBERS: the tables hold for lefts: OR, AND -/
section LEFT2
variable {A : Nat → Nat → Nat → Nat → Nat → Nat} {R C : Nat → Nat → Nat → Nat} {nr nc G : Nat → Nat} {W N : Nat} {pa pl : Bool} {P : Nat} {op lf rt : Nat → Nat} {E v : Nat → Bool} {r : Nat}
theorem orB_a {m e a b x y : Nat} (h : orB A R pa pl m e a b x y = true) (hp : pa = false) (ha : a = 1) (hb : b = 1) : cond (Nat.beq (tOr x y) 0) (R m e 2) (R m e 0) + R m e 2 ≤ A m e 2 (a + 1 + b) (4 * tOr x y) ∧ 1 + cond (Nat.beq (tOr x y) 0) (R m e 2) (R m e 0) + R m e 2 ≤ A m e 2 (a + 1 + b) (4 * tOr x y + 1) ∧ R m e 1 + R m e 2 ≤ A m e 2 (a + 1 + b) (4 * tOr x y + 2) ∧ 1 + R m e 1 + R m e 2 ≤ A m e 2 (a + 1 + b) (4 * tOr x y + 3) := by
  unfold orB at h
  rw [show (!pa && (Nat.beq a 1 && Nat.beq b 1)) = true by rw [hp, nb_t ha, nb_t hb]; rfl, cond_true] at h
  simp only [Bool.and_eq_true, Nat.ble_eq] at h
  exact h
theorem orB_l {m e a b x y : Nat} (h : orB A R pa pl m e a b x y = true) (hp : pl = false) (ha : a = 2) (hb : b = 2) : cond (Nat.beq (tOr x y) 0) (R m e 2) (1 + R m e 0) + R m e 2 ≤ A m e 2 (a + 1 + b) (4 * tOr x y) ∧ 1 + cond (Nat.beq (tOr x y) 0) (R m e 2) (1 + R m e 0) + R m e 2 ≤ A m e 2 (a + 1 + b) (4 * tOr x y + 1) ∧ tOr x y + R m e 1 + R m e 2 ≤ A m e 2 (a + 1 + b) (4 * tOr x y + 2) ∧ 1 + tOr x y + R m e 1 + R m e 2 ≤ A m e 2 (a + 1 + b) (4 * tOr x y + 3) := by
  unfold orB at h
  rw [show (!pa && (Nat.beq a 1 && Nat.beq b 1)) = false by rw [nb_f (show a ≠ 1 by omega)]; exact Bool.and_false _, cond_false, show (!pl && (Nat.beq a 2 && Nat.beq b 2)) = true by rw [hp, nb_t ha, nb_t hb]; rfl, cond_true] at h
  simp only [Bool.and_eq_true, Nat.ble_eq] at h
  exact h
theorem orB_g {m e a b x y : Nat} (h : orB A R pa pl m e a b x y = true) (h1 : ¬ (pa = false ∧ a = 1 ∧ b = 1)) (h2 : ¬ (pl = false ∧ a = 2 ∧ b = 2)) : A m e 2 a (4 * x) + A m e 1 b (4 * y) ≤ A m e 2 (a + 1 + b) (4 * tOr x y) ∧ 1 + A m e 2 a (4 * x + 1) + A m e 1 b (4 * y) ≤ A m e 2 (a + 1 + b) (4 * tOr x y + 1) ∧ 1 + A m e 2 a (4 * x) + A m e 1 b (4 * y + 1) ≤ A m e 2 (a + 1 + b) (4 * tOr x y + 1) ∧ A m e 2 a (4 * x + 2) + A m e 1 b (4 * y) ≤ A m e 2 (a + 1 + b) (4 * tOr x y + 2) ∧ A m e 2 a (4 * x) + A m e 1 b (4 * y + 2) ≤ A m e 2 (a + 1 + b) (4 * tOr x y + 2) ∧ 1 + A m e 2 a (4 * x + 3) + A m e 1 b (4 * y) ≤ A m e 2 (a + 1 + b) (4 * tOr x y + 3) ∧ 1 + A m e 2 a (4 * x) + A m e 1 b (4 * y + 3) ≤ A m e 2 (a + 1 + b) (4 * tOr x y + 3) := by
  have three : ∀ (p : Bool) (k : Nat), ¬ (p = false ∧ a = k ∧ b = k) → (!p && (Nat.beq a k && Nat.beq b k)) = false := fun p k h => by
    cases p with
    | true => rfl
    | false =>
      by_cases e1 : a = k
      · by_cases e2 : b = k
        · exact absurd ⟨rfl, e1, e2⟩ h
        · rw [nb_f e2, Bool.and_false, Bool.and_false]
      · rw [nb_f e1, Bool.false_and, Bool.and_false]
  unfold orB at h
  rw [three pa 1 h1, cond_false, three pl 2 h2, cond_false] at h
  simp only [Bool.and_eq_true, Nat.ble_eq] at h
  exact h
/-- an OR's class, goal's cost -/
theorem or_cls (ho : RPo P op lf rt) (hr : r < P) (h8 : op r = 8) : clsN E v op lf rt r = tOr (clsN E v op lf rt (lf r)) (clsN E v op lf rt (rt r)) ∧ G2R E v op lf rt r = 1 + max (G2R E v op lf rt (lf r)) (G2R E v op lf rt (rt r)) := by
  have q := q2_8 (E := E) (v := v) ho hr h8
  have q1 := q1_8 ho hr h8
  have hl := (ho.to r hr).2 (by omega)
  unfold tOr
  cases c : t2R E v op lf rt r with
  | true =>
    refine ⟨?_, (q.2.1 c).2.1⟩
    have e := q.1
    rw [c] at e
    have : clsN E v op lf rt (lf r) + clsN E v op lf rt (rt r) ≠ 0 := by
      intro h
      have e1 := cls_f0 (show clsN E v op lf rt (lf r) = 0 by omega)
      have e2 := cls_f0 (show clsN E v op lf rt (rt r) = 0 by omega)
      rw [e1, e2] at e
      cases e
    rw [cls_1 c (by omega), nb_f this]
    rfl
  | false =>
    have e := q.1
    rw [c] at e
    have e2 := Bool.or_eq_false_iff.mp e.symm
    rw [cls_0 c, cls_0 e2.1, cls_0 e2.2, (q2_f ho hr c).2.1, (q2_f ho (show lf r < P by omega) e2.1).2.1, (q2_f ho (show rt r < P by omega) e2.2).2.1]
    exact ⟨rfl, q1.2.1⟩
theorem and_cls (ho : RPo P op lf rt) (hr : r < P) (h7 : op r = 7) : clsN E v op lf rt r = tAn (clsN E v op lf rt (lf r)) (clsN E v op lf rt (rt r)) ∧ G2R E v op lf rt r ≤ 1 + max (G2R E v op lf rt (lf r)) (G2R E v op lf rt (rt r)) := by
  have q := q2_7 (E := E) (v := v) ho hr h7
  have q1 := q1_7 ho hr h7
  have hl := (ho.to r hr).2 (by omega)
  unfold tAn
  cases c : t2R E v op lf rt r with
  | true =>
    have e := q.1
    rw [c] at e
    have e2 := (Bool.and_eq_true _ _).mp e.symm
    have c1 := cls_t e2.1
    have c2 := cls_t e2.2
    refine ⟨?_, Nat.le_of_eq (q.2.1 c).2.1⟩
    rw [cls_1 c (by omega), nb_f (Nat.mul_ne_zero c1 c2)]
    rfl
  | false =>
    have e := q.1
    rw [c] at e
    have : clsN E v op lf rt (lf r) * clsN E v op lf rt (rt r) = 0 := by
      rcases Bool.and_eq_false_iff.mp e.symm with h | h
      · rw [cls_0 h, Nat.zero_mul]
      · rw [cls_0 h, Nat.mul_zero]
    rw [cls_0 c, nb_t this, (q2_f ho hr c).2.1]
    refine ⟨rfl, ?_⟩
    have g1 := (s2_ge1 (E := E) (v := v) ho (lf r) (by omega)).2.1
    have g2 := (s2_ge1 (E := E) (v := v) ho (rt r) (by omega)).2.1
    rw [q1.2.1]
    omega
/-- an atom as a left -/
theorem i2_at (ho : RPo P op lf rt) {p : Nat} (hp : p < P) (h2 : 2 ≤ p) (h6 : op p < 6) (l s l1 s1 : Nat) : op p < 4 ∧ i2R E v op lf rt p l s l1 s1 = (if E (op p) = true then l else l1) ∧ t2R E v op lf rt p = v (op p) ∧ G2R E v op lf rt p = 0 ∧ S2R E v op lf rt p = 0 ∧ grR op lf rt p = true := by
  have h4 : op p < 4 := by rcases ho.1 p hp with h | h | h <;> omega
  have q := q2_l (lf := lf) (rt := rt) (E := E) (v := v) h6
  have hi := q.2.2.2.2 l s l1 s1
  rw [if_pos h4] at hi
  have ht := q.1
  rw [if_pos h4] at ht
  refine ⟨h4, hi, ht, q.2.2.1, q.2.1, ?_⟩
  rw [(q1_lf h6).2.2.2.2]
  exact decide_eq_true h4
/-- a literal as a left -/
theorem i2_lit (ho : RPo P op lf rt) {p : Nat} (hp : p < P) (h9 : op p = 9) (h4 : op (lf p) < 4) (h1 : rt p = 1) (l s l1 s1 : Nat) : i2R E v op lf rt p l s l1 s1 = (if v (op (lf p)) = true then l1 else 1 + l) ∧ t2R E v op lf rt p = !v (op (lf p)) ∧ G2R E v op lf rt p = 0 ∧ grR op lf rt p = true := by
  obtain ⟨o1, o2, o3, o4, o5, o6, o7, o8, o9⟩ := ho.two hp (by omega)
  have a := i2_at (E := E) (v := v) ho (show lf p < P by omega) o4 (by omega) l s l1 s1
  have e5 : op 1 = 5 := by rcases ho.1 1 (by omega) with h | h | h <;> omega
  have q5 := q2_l (lf := lf) (rt := rt) (E := E) (v := v) (show op 1 < 6 by omega)
  have f := q5.1
  rw [if_neg (by omega), decide_eq_false (by omega)] at f
  have hi5 := q5.2.2.2.2 l s l1 s1
  rw [if_neg (by omega)] at hi5
  have q := q2_9 (E := E) (v := v) ho hp h9
  have ht := q.1
  rw [h1, f, Bool.or_false, a.2.2.1] at ht
  have hi := q.2.2 l s l1 s1
  rw [h1, q5.2.2.1, a.2.2.2.2.1, hi5, ht] at hi
  refine ⟨?_, ht, ?_, (q1_9 ho hp h9).2.2.2.2⟩
  · rw [hi]
    cases v (op (lf p))
    · rw [if_pos (show (!false) = true from rfl), if_neg (by decide)]; omega
    · rw [if_neg (by decide), if_pos rfl]
  · cases c : t2R E v op lf rt p with
    | true => rw [(q.2.1 c).2.1, a.2.2.2.2.1, h1, q5.2.2.1]
    | false =>
      rw [(q2_f ho hp c).2.1, (q1_9 ho hp h9).2.1, h1, (q1_lf (lf := lf) (rt := rt) (show op 1 < 6 by omega)).2.1, (q1_lf (lf := lf) (rt := rt) (show op (lf p) < 6 by omega)).1]
theorem qA_or (ht : tabOK A R C nr nc G W N pa pl) (hk : kOK pa pl E v) (ho : RPo P op lf rt) (hr : r < P) (h8 : op r = 8) {a b : Nat} (ha : 1 ≤ a) (hb : 1 ≤ b) (hx : qT A R C nr nc G N E v op lf rt 2 a (lf r)) (hy : qT A R C nr nc G N E v op lf rt 1 b (rt r)) : qA A R nr N E v op lf rt 2 (a + 1 + b) r := by
  intro m e he hN l s l1 s1 hd
  obtain ⟨p1, p2, p3, p4⟩ := pairB_out ((restB_out (ht.1 m e he (by omega))).2.2.2.2 (a - 1) (b - 1) (by omega) (by omega))
  rw [show a - 1 + 1 = a by omega, show b - 1 + 1 = b by omega] at p1 p2 p3 p4
  have hB := (p4 (clsN E v op lf rt (lf r)) (clsN E v op lf rt (rt r)) cls_lt cls_lt (skp_f hx.2.2.2.1 hx.2.2.2.2) (skp_f hy.2.2.2.1 hy.2.2.2.2)).1
  obtain ⟨o1, o2, o3, o4, o5, o6, o7, o8, o9⟩ := ho.two hr (by omega)
  have r2 : 2 ≤ rt r := by
    by_cases r1 : rt r = 1
    · have := o9 r1; omega
    · omega
  have q := q2_8 (E := E) (v := v) ho hr h8
  have q1 := q1_8 ho hr h8
  obtain ⟨x0, x1, x2, x3, x4, x5⟩ := hx.1 m e he (by omega) l s l1 s1 hd
  obtain ⟨y0, y1, y2, y3, y4, y5⟩ := hy.1 m e he (by omega) l s l1 s1 hd
  have hi := q.2.2 l s l1 s1
  have hi1 := q1.2.2.2.1 l1 s1
  obtain ⟨hc, hG⟩ := or_cls (E := E) (v := v) ho hr h8
  have hn : n2R E v op lf rt r l s l1 s1 ≤ n2R E v op lf rt (lf r) l s l1 s1 + i2R E v op lf rt (rt r) l s l1 s1 ∨ n2R E v op lf rt r l s l1 s1 ≤ i2R E v op lf rt (lf r) l s l1 s1 + n2R E v op lf rt (rt r) l s l1 s1 := by
    unfold n2R
    rw [q1.2.2.2.2, hi]
    cases grR op lf rt (lf r) <;> cases grR op lf rt (rt r) <;> simp <;> omega
  have ho1 : o1R op lf rt r l1 s1 ≤ o1R op lf rt (lf r) l1 s1 + i1R op lf rt (rt r) l1 s1 ∨ o1R op lf rt r l1 s1 ≤ i1R op lf rt (lf r) l1 s1 + o1R op lf rt (rt r) l1 s1 := by
    unfold o1R
    rw [q1.2.2.2.2, hi1]
    cases grR op lf rt (lf r) <;> cases grR op lf rt (rt r) <;> simp <;> omega
  unfold or1B at p1
  simp only [Bool.and_eq_true, Nat.ble_eq] at p1
  obtain ⟨d0, d1, d2, d3, d4, d5⟩ := hd
  suffices hs : i2R E v op lf rt r l s l1 s1 ≤ A m e 2 (a + 1 + b) (4 * clsN E v op lf rt r) ∧ i2R E v op lf rt r l s l1 s1 + G2R E v op lf rt r ≤ A m e 2 (a + 1 + b) (4 * clsN E v op lf rt r + 1) ∧ n2R E v op lf rt r l s l1 s1 ≤ A m e 2 (a + 1 + b) (4 * clsN E v op lf rt r + 2) ∧ i2R E v op lf rt r l s l1 s1 + s + G2R E v op lf rt r ≤ A m e 2 (a + 1 + b) (4 * clsN E v op lf rt r + 3) by
    refine ⟨hs.1, hs.2.1, hs.2.2.1, hs.2.2.2, ?_, ?_⟩
    · rw [hi1]; omega
    · omega
  by_cases s1' : pa = false ∧ a = 1 ∧ b = 1
  · -- two atoms
    obtain ⟨z0, z1, z2, z3⟩ := orB_a hB s1'.1 s1'.2.1 s1'.2.2
    have ax := i2_at (E := E) (v := v) ho (show lf r < P by omega) o4 (hx.2.2.2.1 s1'.2.1) l s l1 s1
    have ay := i2_at (E := E) (v := v) ho (show rt r < P by omega) r2 (hy.2.2.2.1 s1'.2.2) l s l1 s1
    have hne : op (lf r) ≠ op (rt r) := fun e => by
      have e1 := ho.1 (lf r) (by omega)
      have e2 := ho.1 (rt r) (by omega)
      exact o8 (ho.2 _ _ (by omega) (by omega) e (by omega) (by omega))
    have gr : n2R E v op lf rt r l s l1 s1 = i2R E v op lf rt r l s l1 s1 + s := by
      unfold n2R
      rw [q1.2.2.2.2, ax.2.2.2.2.2, Bool.true_or, if_pos rfl]
    rw [gr, hG, ax.2.2.2.1, ay.2.2.2.1, hi, ax.2.1, ay.2.1, hc]
    by_cases c : tOr (clsN E v op lf rt (lf r)) (clsN E v op lf rt (rt r)) = 0
    · -- both false
      have hcr : clsN E v op lf rt r = 0 := by rw [hc]; exact c
      have e := q.1
      rw [cls_f0 hcr] at e
      have e2 := Bool.or_eq_false_iff.mp e.symm
      rw [ax.2.2.1, ay.2.2.1] at e2
      have n1 : E (op (lf r)) ≠ true := fun h => by rw [hk.1 _ ax.1 h] at e2; cases e2.1
      have n2 : E (op (rt r)) ≠ true := fun h => by rw [hk.1 _ ay.1 h] at e2; cases e2.2
      rw [nb_t c, cond_true] at z0 z1
      rw [if_neg n1, if_neg n2]
      omega
    · rw [nb_f c, cond_false] at z0 z1
      by_cases n1 : E (op (lf r)) = true
      · have n2 : E (op (rt r)) ≠ true := fun h => hne (hk.2.1 s1'.1 _ _ ax.1 ay.1 n1 h)
        rw [if_pos n1, if_neg n2]
        omega
      · rw [if_neg n1]
        by_cases n2 : E (op (rt r)) = true
        · rw [if_pos n2]; omega
        · rw [if_neg n2]; omega
  by_cases s2' : pl = false ∧ a = 2 ∧ b = 2
  · -- two literals
    obtain ⟨z0, z1, z2, z3⟩ := orB_l hB s2'.1 s2'.2.1 s2'.2.2
    have lx := hx.2.2.2.2 s2'.2.1
    have ly := hy.2.2.2.2 s2'.2.2
    have ax := i2_lit (E := E) (v := v) ho (show lf r < P by omega) lx.1 lx.2.1 lx.2.2 l s l1 s1
    have ay := i2_lit (E := E) (v := v) ho (show rt r < P by omega) ly.1 ly.2.1 ly.2.2 l s l1 s1
    have tx := ho.two (show lf r < P by omega) (by omega)
    have ty := ho.two (show rt r < P by omega) (by omega)
    have hne : op (lf (lf r)) ≠ op (lf (rt r)) := fun e => by
      have e1 := ho.1 (lf (lf r)) (by omega)
      have e2 := ho.1 (lf (rt r)) (by omega)
      have := ho.2 _ _ (show lf (lf r) < P by omega) (show lf (rt r) < P by omega) e (by omega) (by omega)
      exact o8 (ho.2 _ _ (by omega) (by omega) (by omega) this (by omega))
    have gr : n2R E v op lf rt r l s l1 s1 = i2R E v op lf rt r l s l1 s1 + s := by
      unfold n2R
      rw [q1.2.2.2.2, ax.2.2.2, Bool.true_or, if_pos rfl]
    rw [gr, hG, ax.2.2.1, ay.2.2.1, hi, ax.1, ay.1, hc]
    by_cases c : tOr (clsN E v op lf rt (lf r)) (clsN E v op lf rt (rt r)) = 0
    · have hcr : clsN E v op lf rt r = 0 := by rw [hc]; exact c
      have e := q.1
      rw [cls_f0 hcr] at e
      have e2 := Bool.or_eq_false_iff.mp e.symm
      rw [ax.2.1, ay.2.1, Bool.not_eq_false', Bool.not_eq_false'] at e2
      rw [nb_t c, cond_true] at z0 z1
      rw [if_pos e2.1, if_pos e2.2]
      omega
    · have hc1 : tOr (clsN E v op lf rt (lf r)) (clsN E v op lf rt (rt r)) = 1 := by
        revert c
        unfold tOr
        cases Nat.beq (clsN E v op lf rt (lf r) + clsN E v op lf rt (rt r)) 0
        · intro _; rfl
        · intro h; exact absurd rfl h
      rw [nb_f c, cond_false] at z0 z1
      by_cases n1 : v (op (lf (lf r))) = true
      · rw [if_pos n1]
        by_cases n2 : v (op (lf (rt r))) = true
        · rw [if_pos n2]; omega
        · rw [if_neg n2]; omega
      · have n2 : v (op (lf (rt r))) = true := by
          apply Classical.byContradiction
          intro n2
          exact hne (hk.2.2 s2'.1 _ _ lx.2.1 ly.2.1 (eq_false_of_ne_true n1) (eq_false_of_ne_true n2))
        rw [if_neg n1, if_pos n2]
        omega
  obtain ⟨z0, z1, z2, z3, z4, z5, z6⟩ := orB_g hB s1' s2'
  rw [hG, hc]
  rw [hi]
  omega
theorem anB_out {m e a b x y l n w : Nat} (h : anB A R C nr m e a b x y l n w = true) : ∃ k, k < nr (b + 1 + m) ∧ domB R (b + 1 + m) k l n w = true ∧ A (b + 1 + m) k 1 a (4 * x + 2) ≤ A m e 1 (a + 1 + b) (4 * tAn x y) ∧ A (b + 1 + m) k 1 a (4 * x + 2) ≤ A m e 1 (a + 1 + b) (4 * tAn x y + 2) ∧ A (b + 1 + m) k 1 a (4 * x + 2) + 1 + C 1 a (2 * x + 1) ≤ A m e 1 (a + 1 + b) (4 * tAn x y + 1) ∧ A (b + 1 + m) k 1 a (4 * x + 2) + 1 + C 0 b (2 * y + 1) ≤ A m e 1 (a + 1 + b) (4 * tAn x y + 1) ∧ A (b + 1 + m) k 1 a (4 * x + 2) + 1 + C 1 a (2 * x + 1) + R m e 1 ≤ A m e 1 (a + 1 + b) (4 * tAn x y + 3) ∧ A (b + 1 + m) k 1 a (4 * x + 2) + 1 + C 0 b (2 * y + 1) + R m e 1 ≤ A m e 1 (a + 1 + b) (4 * tAn x y + 3) := by
  unfold anB at h
  obtain ⟨k, hk, h⟩ := anyB_iff.mp h
  simp only [Bool.and_eq_true, Nat.ble_eq] at h
  exact ⟨k, hk, h⟩
theorem qA_and (ht : tabOK A R C nr nc G W N pa pl) (hk : kOK pa pl E v) (ho : RPo P op lf rt) (hr : r < P) (h7 : op r = 7) {a b : Nat} (ha : 1 ≤ a) (hb : 1 ≤ b) (hx : qT A R C nr nc G N E v op lf rt 1 a (lf r)) (hy : qT A R C nr nc G N E v op lf rt 0 b (rt r)) : qA A R nr N E v op lf rt 1 (a + 1 + b) r := by
  intro m e he hN l s l1 s1 hd
  obtain ⟨p1, p2, p3, p4⟩ := pairB_out ((restB_out (ht.1 m e he (by omega))).2.2.2.2 (a - 1) (b - 1) (by omega) (by omega))
  rw [show a - 1 + 1 = a by omega, show b - 1 + 1 = b by omega] at p1 p2 p3 p4
  have hB := (p4 (clsN E v op lf rt (lf r)) (clsN E v op lf rt (rt r)) cls_lt cls_lt (skp_f hx.2.2.2.1 hx.2.2.2.2) (skp_f hy.2.2.2.1 hy.2.2.2.2)).2.2
  obtain ⟨o1, o2, o3, o4, o5, o6, o7, o8, o9⟩ := ho.two hr (by omega)
  have q := q2_7 (E := E) (v := v) ho hr h7
  have q1 := q1_7 ho hr h7
  obtain ⟨y0, y1, y2, y3, y4, y5⟩ := hy.1 m e he (by omega) l s l1 s1 hd
  have hi := q.2.2 l s l1 s1
  have hi1 := q1.2.2.2.1 l1 s1
  obtain ⟨hc, hG⟩ := and_cls (E := E) (v := v) ho hr h7
  have gr := q1.2.2.2.2
  have hn : n2R E v op lf rt r l s l1 s1 = i2R E v op lf rt r l s l1 s1 := by
    unfold n2R
    rw [gr, if_neg (by decide), Nat.add_zero]
  have ho1 : o1R op lf rt r l1 s1 = i1R op lf rt r l1 s1 := by
    unfold o1R
    rw [gr, if_neg (by decide), Nat.add_zero]
  have hi1' : i1R op lf rt r l1 s1 = i1R op lf rt (lf r) (o1R op lf rt (rt r) l1 s1) 0 := hi1
  obtain ⟨d0, d1, d2, d3, d4, d5⟩ := hd
  -- without truth
  unfold an1B at p3
  obtain ⟨k1, hk1, p3⟩ := anyB_iff.mp p3
  simp only [Bool.and_eq_true, Nat.ble_eq] at p3
  have z1 := (hx.1 (b + 1 + m) k1 hk1 (by omega) (o1R op lf rt (rt r) l1 s1) 0 (o1R op lf rt (rt r) l1 s1) 0 (domB_P p3.1 y5 y5 y5 (Nat.le_refl _) (Nat.le_refl _))).2.2.2.2.1
  have hxG := hx.2.1.2.1
  have hyG := hy.2.1.2.1
  -- what one of the two rests gives
  have one : ∀ L S, ∀ ll nn ww, anB A R C nr m e a b (clsN E v op lf rt (lf r)) (clsN E v op lf rt (rt r)) ll nn ww = true → L ≤ ll → L + S ≤ nn → o1R op lf rt (rt r) l1 s1 ≤ ww → o1R op lf rt (rt r) l1 s1 ≤ L → n2R E v op lf rt (lf r) L S (o1R op lf rt (rt r) l1 s1) 0 ≤ A m e 1 (a + 1 + b) (4 * clsN E v op lf rt r) ∧ n2R E v op lf rt (lf r) L S (o1R op lf rt (rt r) l1 s1) 0 + G2R E v op lf rt r ≤ A m e 1 (a + 1 + b) (4 * clsN E v op lf rt r + 1) ∧ n2R E v op lf rt (lf r) L S (o1R op lf rt (rt r) l1 s1) 0 ≤ A m e 1 (a + 1 + b) (4 * clsN E v op lf rt r + 2) ∧ n2R E v op lf rt (lf r) L S (o1R op lf rt (rt r) l1 s1) 0 + s + G2R E v op lf rt r ≤ A m e 1 (a + 1 + b) (4 * clsN E v op lf rt r + 3) := fun L S ll nn ww h b1 b2 b3 b4 => by
    obtain ⟨k, hk, hdm, w0, w1, w2, w3, w4, w5⟩ := anB_out h
    have hv := (hx.1 (b + 1 + m) k hk (by omega) L S (o1R op lf rt (rt r) l1 s1) 0 (domB_P hdm b1 b2 (by omega) b4 (Nat.zero_le _))).2.2.1
    rw [hc]
    omega
  rcases hB with ⟨f1, f2, f3, f4, f5⟩ | ⟨hM, hB2, hB1⟩
  · -- two literals that are both true are one
    exfalso
    have lx := hx.2.2.2.2 f2
    have ly := hy.2.2.2.2 f3
    have tx := ho.two (show lf r < P by omega) (by omega)
    have ty := ho.two (show rt r < P by omega) (by omega)
    have ax := i2_lit (E := E) (v := v) ho (show lf r < P by omega) lx.1 lx.2.1 lx.2.2 l s l1 s1
    have ay := i2_lit (E := E) (v := v) ho (show rt r < P by omega) ly.1 ly.2.1 ly.2.2 l s l1 s1
    have vx : v (op (lf (lf r))) = false := by
      cases c : v (op (lf (lf r))) with
      | false => rfl
      | true =>
        have : clsN E v op lf rt (lf r) = 0 := cls_0 (by rw [ax.2.1, c]; rfl)
        omega
    have vy : v (op (lf (rt r))) = false := by
      cases c : v (op (lf (rt r))) with
      | false => rfl
      | true =>
        have : clsN E v op lf rt (rt r) = 0 := cls_0 (by rw [ay.2.1, c]; rfl)
        omega
    have e := hk.2.2 f1 _ _ lx.2.1 ly.2.1 vx vy
    have e1 := ho.1 (lf (lf r)) (by omega)
    have e2 := ho.1 (lf (rt r)) (by omega)
    have := ho.2 _ _ (show lf (lf r) < P by omega) (show lf (rt r) < P by omega) e (by omega) (by omega)
    exact o8 (ho.2 _ _ (by omega) (by omega) (by omega) this (by omega))
  obtain ⟨u0, u1, u2, u3⟩ := one (o1R op lf rt (rt r) l1 s1) 0 _ _ _ hM y5 y5 y5 (Nat.le_refl _)
  have fin : i2R E v op lf rt r l s l1 s1 ≤ A m e 1 (a + 1 + b) (4 * clsN E v op lf rt r) ∧ i2R E v op lf rt r l s l1 s1 + G2R E v op lf rt r ≤ A m e 1 (a + 1 + b) (4 * clsN E v op lf rt r + 1) ∧ i2R E v op lf rt r l s l1 s1 ≤ A m e 1 (a + 1 + b) (4 * clsN E v op lf rt r + 2) ∧ i2R E v op lf rt r l s l1 s1 + s + G2R E v op lf rt r ≤ A m e 1 (a + 1 + b) (4 * clsN E v op lf rt r + 3) := by
    by_cases c : op (rt r) = 9 ∧ t2R E v op lf rt (rt r) = true
    · have c2 := cls_2 c.2 c.1
      have qy := q1_9 ho (show rt r < P by omega) c.1
      have hyi := (q2_9 (E := E) (v := v) ho (show rt r < P by omega) c.1).2.2 l s l1 s1
      rw [if_pos c.2] at hyi
      have n2y : n2R E v op lf rt (rt r) l s l1 s1 = i2R E v op lf rt (rt r) l s l1 s1 + s := by
        unfold n2R
        rw [qy.2.2.2.2, if_pos rfl]
      have o1y : o1R op lf rt (rt r) l1 s1 = l1 + s1 := by
        unfold o1R
        rw [qy.2.2.2.2, if_pos rfl, qy.2.2.2.1]
      rw [if_pos c] at hi
      rw [c2] at y2
      have hy2 : n2R E v op lf rt (rt r) l s l1 s1 ≤ A m e 0 b 10 := y2
      have hge : l + s ≤ n2R E v op lf rt (rt r) l s l1 s1 := by
        have := Nat.le_max_left (1 + l) (1 + G2R E v op lf rt (rt (rt r)) + S2R E v op lf rt (lf (rt r)) + i2R E v op lf rt (rt (rt r)) l s l1 s1)
        omega
      obtain ⟨v0, v1, v2, v3⟩ := one (l + s) (n2R E v op lf rt (rt r) l s l1 s1 - (l + s)) _ _ _ (hB2 c2) d1 (by omega) (mnN_le y5 (by omega)) (by omega)
      rw [hi]
      omega
    · have c2 : clsN E v op lf rt (rt r) ≠ 2 := by
        cases ct : t2R E v op lf rt (rt r) with
        | false => rw [cls_0 ct]; decide
        | true => rw [cls_1 ct (fun h9 => c ⟨h9, ct⟩)]; decide
      rw [if_neg c, Nat.sub_self] at hi
      have h1 := i2_ge1 (E := E) (v := v) ho (rt r) (by omega) l s l1 s1 d4 d5
      have hle : o1R op lf rt (rt r) l1 s1 ≤ n2R E v op lf rt (rt r) l s l1 s1 := by
        unfold o1R n2R
        by_cases g : grR op lf rt (rt r) = true
        · rw [if_pos g, if_pos g]; omega
        · rw [if_neg g, if_neg g]; omega
      obtain ⟨v0, v1, v2, v3⟩ := one (n2R E v op lf rt (rt r) l s l1 s1) 0 _ _ _ (hB1 c2) y2 y2 (mnN_le y5 (Nat.le_trans hle y2)) hle
      rw [hi]
      omega
  rw [hn, ho1, hi1']
  exact ⟨fin.1, fin.2.1, fin.2.2.1, fin.2.2.2, Nat.le_trans z1 p3.2.1, Nat.le_trans z1 p3.2.2⟩
end LEFT2
