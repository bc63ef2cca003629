/-! THE DEPTH'S NUMBERS: the tables hold for claims -/
section CLAIMS
variable {A : Nat → Nat → Nat → Nat → Nat → Nat} {R C : Nat → Nat → Nat → Nat} {nr nc G : Nat → Nat} {W N : Nat} {pa pl : Bool} {P : Nat} {op lf rt : Nat → Nat} {E v : Nat → Bool} {r : Nat}
theorem clmB_out {a b : Nat} (h : clmB A R C nc G a b = true) :
    (C 1 a 0 + C 0 b 0 ≤ C 1 (a + 1 + b) 0 ∧ 1 + C 1 a 1 ≤ C 1 (a + 1 + b) 1 ∧ 1 + C 0 b 1 ≤ C 1 (a + 1 + b) 1 ∧ rstB R nc (a + 1 + b) (C 1 a 0 + C 0 b 0) (C 1 a 0 + C 0 b 0) (C 1 a 0 + C 0 b 0) = true) ∧
    (sdN a (C 2 a 0) ≤ C 2 (a + 1 + b) 0 ∧ sdN b (C 1 b 0) ≤ C 2 (a + 1 + b) 0 ∧ 1 + C 2 a 1 ≤ C 2 (a + 1 + b) 1 ∧ 1 + C 1 b 1 ≤ C 2 (a + 1 + b) 1) ∧
    C 2 a 0 + C 3 b 1 ≤ C 3 (a + 1 + b) 1 ∧
    (∀ x y, x < 3 → y < 3 → skp a x = false → skp b y = false →
      (x * y ≠ 0 → C 1 a (2 * x) + C 0 b (2 * y) ≤ C 1 (a + 1 + b) 2 ∧ 1 + C 1 a (2 * x + 1) ≤ C 1 (a + 1 + b) 3 ∧ 1 + C 0 b (2 * y + 1) ≤ C 1 (a + 1 + b) 3 ∧ 1 + G a + C 0 b (2 * y) ≤ G (a + 1 + b) ∧ 1 + C 1 a (2 * x) + G b ≤ G (a + 1 + b) ∧ rstB R nc (a + 1 + b) (C 1 a (2 * x) + C 0 b (2 * y)) (C 1 a (2 * x) + C 0 b (2 * y)) (mnN (C 1 a 0 + C 0 b 0) (C 1 a (2 * x) + C 0 b (2 * y))) = true) ∧
      (x + y ≠ 0 → sdN a (C 2 a (2 * x)) ≤ C 2 (a + 1 + b) 2 ∧ sdN b (C 1 b (2 * y)) ≤ C 2 (a + 1 + b) 2 ∧ 1 + C 2 a (2 * x + 1) ≤ C 2 (a + 1 + b) 3 ∧ 1 + C 1 b (2 * y + 1) ≤ C 2 (a + 1 + b) 3 ∧ sdN a (C 2 a (2 * x)) + 1 + C 2 a (2 * x + 1) ≤ G (a + 1 + b) ∧ sdN a (C 2 a (2 * x)) + 1 + C 1 b (2 * y + 1) ≤ G (a + 1 + b) ∧ sdN b (C 1 b (2 * y)) + 1 + C 2 a (2 * x + 1) ≤ G (a + 1 + b) ∧ sdN b (C 1 b (2 * y)) + 1 + C 1 b (2 * y + 1) ≤ G (a + 1 + b)) ∧
      ∃ k, k < nc (a + 1 + b) ∧ sdN a (C 2 a (2 * x)) ≤ R (a + 1 + b) k 1 ∧ sdN b (C 1 b (2 * y)) ≤ R (a + 1 + b) k 1 ∧ sdN a (C 2 a 0) ≤ R (a + 1 + b) k 3 ∧ sdN b (C 1 b 0) ≤ R (a + 1 + b) k 3) ∧
    ∀ k, k < nc b → A b k 2 a 13 ≤ C 3 (a + 1 + b) 0 ∧ rstB R nc (a + 1 + b) (A b k 2 a 13) (A b k 2 a 13) (A b k 2 a 13) = true ∧ ∀ x y, x < 3 → y < 3 → skp a x = false → skp b y = false → (x = 0 ∨ y ≠ 0) → A b k 2 a (4 * x + 2) ≤ C 3 (a + 1 + b) 4 ∧ C 2 a (2 * x) + C 3 b (2 * y + 1) ≤ C 3 (a + 1 + b) 5 ∧ A b k 2 a (4 * x + 2) + (C 2 a (2 * x) + C 3 b (2 * y + 1)) ≤ G (a + 1 + b) ∧ (x = 2 → rstB R nc (a + 1 + b) (R b k 1) (A b k 2 a 10) (mnN (A b k 2 a 13) (R b k 1)) = true) ∧ (x ≠ 2 → rstB R nc (a + 1 + b) (A b k 2 a (4 * x + 2)) (A b k 2 a (4 * x + 2)) (mnN (A b k 2 a 13) (A b k 2 a (4 * x + 2))) = true) := by
  unfold clmB at h
  obtain ⟨h1, h⟩ := Eq.mp (Bool.and_eq_true _ _) h
  obtain ⟨h2, h⟩ := Eq.mp (Bool.and_eq_true _ _) h
  obtain ⟨h3, h⟩ := Eq.mp (Bool.and_eq_true _ _) h
  obtain ⟨h4, h5⟩ := Eq.mp (Bool.and_eq_true _ _) h
  simp only [Bool.and_eq_true, Nat.ble_eq] at h1 h2
  rw [Nat.ble_eq] at h3
  refine ⟨h1, h2, h3, fun x y hx hy sx sy => ?_, fun k hk => ?_⟩
  · have := allB_iff.mp h4 x hx
    rw [sx, Bool.false_or] at this
    have := allB_iff.mp this y hy
    rw [sy, Bool.false_or] at this
    unfold clmX at this
    rw [Bool.and_eq_true, Bool.and_eq_true] at this
    obtain ⟨t1, t2, t3⟩ := this
    refine ⟨fun hn => ?_, fun hn => ?_, ?_⟩
    · rw [nb_f hn, Bool.false_or] at t1
      simp only [Bool.and_eq_true, Nat.ble_eq] at t1
      exact t1
    · rw [nb_f hn, Bool.false_or] at t2
      simp only [Bool.and_eq_true, Nat.ble_eq] at t2
      exact t2
    · obtain ⟨k, hk, t3⟩ := anyB_iff.mp t3
      simp only [Bool.and_eq_true, Nat.ble_eq] at t3
      exact ⟨k, hk, t3⟩
  · have := allB_iff.mp h5 k hk
    unfold clmK at this
    rw [Bool.and_eq_true, Bool.and_eq_true, Nat.ble_eq] at this
    obtain ⟨t1, t2, t3⟩ := this
    refine ⟨t1, t2, fun x y hx hy sx sy hxy => ?_⟩
    have := allB_iff.mp t3 x hx
    rw [sx, Bool.false_or] at this
    have := allB_iff.mp this y hy
    have e : (!Nat.beq x 0 && Nat.beq y 0) = false := by
      rcases hxy with h | h
      · rw [nb_t h]; rfl
      · rw [nb_f h, Bool.and_false]
    rw [sy, Bool.false_or, e, Bool.false_or, Bool.and_eq_true, Bool.and_eq_true, Bool.and_eq_true, Nat.ble_eq, Nat.ble_eq, Nat.ble_eq] at this
    obtain ⟨u1, u2, u3, u4⟩ := this
    refine ⟨u1, u2, u3, fun e => ?_, fun e => ?_⟩
    · rw [nb_t e, cond_true] at u4; exact u4
    · rw [nb_f e, cond_false] at u4; exact u4
theorem oneB_out {n : Nat} (h : oneB A R C nc G W N n = true) :
    (∀ lv f, lv < 3 → f < 6 → C lv n f ≤ C (lv + 1) n f) ∧
    (2 < n → n + W ≤ N → (∀ f, f < 6 → C 3 n f ≤ C 0 (n + W) f) ∧ G n ≤ G (n + W) ∧ ∀ k, k < nc n → ∃ j, j < nc (n + W) ∧ R n k 0 ≤ R (n + W) j 0 ∧ R n k 1 ≤ R (n + W) j 1 ∧ R n k 2 ≤ R (n + W) j 2 ∧ R n k 3 ≤ R (n + W) j 3) ∧
    (n < N → A 0 0 0 n 13 ≤ C 0 (n + 1) 0 ∧ C 0 n 0 ≤ C 0 (n + 1) 1 ∧ rstB R nc (n + 1) (A 0 0 0 n 13) (A 0 0 0 n 13) (A 0 0 0 n 13) = true ∧ A 0 0 0 n 2 ≤ C 0 (n + 1) 4 ∧ C 0 n 0 ≤ C 0 (n + 1) 5 ∧ A 0 0 0 n 2 + C 0 n 0 ≤ G (n + 1) ∧ rstB R nc (n + 1) (A 0 0 0 n 2) (A 0 0 0 n 2) (mnN (A 0 0 0 n 13) (A 0 0 0 n 2)) = true) := by
  unfold oneB at h
  rw [Bool.and_eq_true, Bool.and_eq_true] at h
  obtain ⟨h1, h2, h3⟩ := h
  refine ⟨fun lv f hl hf => ?_, fun hn hW => ?_, fun hn => ?_⟩
  · have := allB_iff.mp (allB_iff.mp h1 lv hl) f hf
    rw [Nat.ble_eq] at this
    exact this
  · rw [Bool.or_eq_true, Nat.ble_eq, Bool.or_eq_true, Nat.ble_eq] at h2
    have := (h2.resolve_left (by omega)).resolve_left (by omega)
    rw [Bool.and_eq_true, Bool.and_eq_true, Nat.ble_eq] at this
    obtain ⟨t1, t2, t3⟩ := this
    refine ⟨fun f hf => ?_, t2, fun k hk => ?_⟩
    · have := allB_iff.mp t1 f hf
      rw [Nat.ble_eq] at this
      exact this
    · obtain ⟨j, hj, u⟩ := anyB_iff.mp (allB_iff.mp t3 k hk)
      simp only [Bool.and_eq_true, Nat.ble_eq] at u
      exact ⟨j, hj, u⟩
  · rw [Bool.or_eq_true, Nat.ble_eq] at h3
    have := h3.resolve_left (by omega)
    have sk : skp n 0 = false := by
      unfold skp
      rw [nb_f (show (0 : Nat) ≠ 2 by decide), nb_f (show (0 : Nat) ≠ 1 by decide), Bool.and_false, Bool.and_false]
      rfl
    rw [sk, Bool.false_or] at this
    simp only [Bool.and_eq_true, Nat.ble_eq] at this
    exact this
theorem qR_of (ho : RPo P op lf rt) (hr : r < P) {n l z w : Nat} (h : rstB R nc n l z w = true) (h1 : L2R E v op lf rt r ≤ l) (h2 : S2R E v op lf rt r ≤ z) (h3 : n1R op lf rt r ≤ w) : qR R nc E v op lf rt n r := by
  obtain ⟨k, hk, h⟩ := anyB_iff.mp h
  have s := s2_ge1 (E := E) (v := v) ho r hr
  have l1 := l1_le ho hr
  refine ⟨k, hk, domB_P h h1 ?_ ?_ s.2.2.1 s.2.2.2.2⟩
  · omega
  · unfold s1R; omega
theorem qT_atom (ht : tabOK A R C nr nc G W N pa pl) (hk : kOK pa pl E v) (h6 : op r < 6) : qT A R C nr nc G N E v op lf rt 0 1 r := by
  have q := q2_l (lf := lf) (rt := rt) (E := E) (v := v) h6
  have q1 := q1_lf (lf := lf) (rt := rt) h6
  refine ⟨qA_atom ht hk h6, ⟨?_, ?_, ?_, ?_, fun _ => ?_⟩, ⟨0, ht.2.2.2.2.1, ?_⟩, fun _ => h6, fun h => absurd h (by decide)⟩
  · rw [q.2.1]; exact Nat.zero_le _
  · rw [q.2.2.1]; exact Nat.zero_le _
  · rw [q1.1]; exact Nat.zero_le _
  · rw [q1.2.1]; exact Nat.zero_le _
  · rw [q.2.1, q.2.2.1]; exact Nat.zero_le _
  · unfold domP s1R
    rw [q.2.2.2.1, q.2.1, q1.2.2.1, q1.1]
    omega
theorem qT_lift (ht : tabOK A R C nr nc G W N pa pl) {lv i : Nat} (hl : lv < 3) (h1 : 1 ≤ i) (hi : i ≤ N) (h : qT A R C nr nc G N E v op lf rt lv i r) : qT A R C nr nc G N E v op lf rt (lv + 1) i r := by
  obtain ⟨a1, ⟨c1, c2, c3, c4, c5⟩, a3, a4, a5⟩ := h
  have o := (oneB_out (ht.2.2.1 i h1 hi)).1
  have c : clsN E v op lf rt r < 3 := cls_lt
  exact ⟨qA_lift ht hl h1 a1, ⟨Nat.le_trans c1 (o _ _ hl (by omega)), Nat.le_trans c2 (o _ _ hl (by omega)), Nat.le_trans c3 (o _ _ hl (by omega)), Nat.le_trans c4 (o _ _ hl (by omega)), c5⟩, a3, a4, a5⟩
theorem qT_par (ht : tabOK A R C nr nc G W N pa pl) {i : Nat} (h3 : 3 ≤ i) (hi : i + W ≤ N) (h : qT A R C nr nc G N E v op lf rt 3 i r) : qT A R C nr nc G N E v op lf rt 0 (i + W) r := by
  obtain ⟨a1, ⟨c1, c2, c3, c4, c5⟩, ⟨k, hk, d0, d1, d2, d3, d4, d5⟩, a4, a5⟩ := h
  obtain ⟨o1, o2, o3⟩ := (oneB_out (ht.2.2.1 i (by omega) (by omega))).2.1 (by omega) hi
  have c : clsN E v op lf rt r < 3 := cls_lt
  obtain ⟨j, hj, e0, e1, e2, e3⟩ := o3 k hk
  exact ⟨qA_par ht h3 a1, ⟨Nat.le_trans c1 (o1 _ (by omega)), Nat.le_trans c2 (o1 _ (by omega)), Nat.le_trans c3 (o1 _ (by omega)), Nat.le_trans c4 (o1 _ (by omega)), fun t => Nat.le_trans (c5 t) o2⟩, ⟨j, hj, Nat.le_trans d0 e0, Nat.le_trans d1 e1, Nat.le_trans d2 e2, Nat.le_trans d3 e3, d4, d5⟩, fun h => by omega, fun h => by omega⟩
theorem qT_not (ht : tabOK A R C nr nc G W N pa pl) (ho : RPo P op lf rt) (hr : r < P) (h9 : op r = 9) (h1 : rt r = 1) {a : Nat} (ha : 1 ≤ a) (hN : a + 1 ≤ N) (hx : qT A R C nr nc G N E v op lf rt 0 a (lf r)) : qT A R C nr nc G N E v op lf rt 0 (a + 1) r := by
  obtain ⟨o1, o2, o3, o4, o5, o6, o7, o8, o9⟩ := ho.two hr (by omega)
  have sk := skp_f (E := E) (v := v) hx.2.2.2.1 hx.2.2.2.2
  obtain ⟨z1, z2, z3, z4, z5, z6, z7⟩ := (oneB_out (ht.2.2.1 a ha (by omega))).2.2 (by omega)
  have e5 : op 1 = 5 := by rcases ho.1 1 (by omega) with h | h | h <;> omega
  have q5 := q2_l (lf := lf) (rt := rt) (E := E) (v := v) (show op 1 < 6 by omega)
  have q15 := q1_lf (lf := lf) (rt := rt) (show op 1 < 6 by omega)
  have f5 := q5.1
  rw [if_neg (by omega), decide_eq_false (by omega)] at f5
  have q := q2_9 (E := E) (v := v) ho hr h9
  have q1 := q1_9 ho hr h9
  obtain ⟨x0, x1, x2, x3, x4, x5⟩ := hx.1 0 0 ht.2.2.2.2.2.1 (by omega) 0 0 0 0 ⟨Nat.zero_le _, Nat.zero_le _, Nat.zero_le _, Nat.zero_le _, Nat.le_refl _, Nat.le_refl _⟩
  have hn1 : n1R op lf rt r = o1R op lf rt (lf r) 0 0 := by
    rw [q1.1]
    unfold s1R o1R
    rw [h1, q15.2.2.1, q15.1]
  have hg1 : g1R op lf rt r = n1R op lf rt (lf r) := by rw [q1.2.1, h1, q15.2.1, Nat.add_zero]
  have b1 : n1R op lf rt r ≤ C 0 (a + 1) 0 := by rw [hn1]; omega
  have b2 : g1R op lf rt r ≤ C 0 (a + 1) 1 := by rw [hg1]; exact Nat.le_trans hx.2.1.2.2.1 z2
  refine ⟨qA_not ht ho hr h9 h1 ha hx.2.1 sk, ?_, ?_, fun h => by omega, fun h => ?_⟩
  · cases c : t2R E v op lf rt r with
    | false =>
      have f := q2_f ho hr c
      refine ⟨?_, ?_, b1, b2, fun h => by rw [c] at h; cases h⟩
      · rw [cls_0 c, f.1]; exact b1
      · rw [cls_0 c, f.2.1]; exact b2
    | true =>
      have e := q.1
      rw [c, h1, f5, Bool.or_false] at e
      have tx : t2R E v op lf rt (lf r) = false := by
        revert e
        cases t2R E v op lf rt (lf r)
        · intro _; rfl
        · intro h; cases h
      have cx := cls_0 tx
      rw [cx] at x2
      obtain ⟨s1', s2', s3'⟩ := q.2.1 c
      have hS : S2R E v op lf rt r = n2R E v op lf rt (lf r) 0 0 0 0 := by
        rw [s1', h1, q5.2.2.2.1, q5.2.1, q15.2.2.1, q15.1]
      have hG : G2R E v op lf rt r = S2R E v op lf rt (lf r) := by rw [s2', h1, q5.2.2.1, Nat.add_zero]
      have hSx := hx.2.1.1
      rw [cx] at hSx
      have x2' : n2R E v op lf rt (lf r) 0 0 0 0 ≤ A 0 0 0 a 2 := x2
      have hSx' : S2R E v op lf rt (lf r) ≤ C 0 a 0 := hSx
      rw [← hS] at x2'
      rw [← hG] at hSx'
      refine ⟨?_, ?_, b1, b2, fun _ => by omega⟩
      · rw [cls_2 c h9]; exact Nat.le_trans x2' z4
      · rw [cls_2 c h9]; exact Nat.le_trans hSx' z5
  · cases c : t2R E v op lf rt r with
    | false =>
      have f := q2_f ho hr c
      refine qR_of ho hr z3 ?_ ?_ ?_
      · rw [f.2.2, q1.2.2.1, hn1]; exact x5
      · rw [f.1, hn1]; exact x5
      · rw [hn1]; exact x5
    | true =>
      have e := q.1
      rw [c, h1, f5, Bool.or_false] at e
      have tx : t2R E v op lf rt (lf r) = false := by
        revert e
        cases t2R E v op lf rt (lf r)
        · intro _; rfl
        · intro h; cases h
      have cx := cls_0 tx
      rw [cx] at x2
      obtain ⟨s1', s2', s3'⟩ := q.2.1 c
      have hS : S2R E v op lf rt r = n2R E v op lf rt (lf r) 0 0 0 0 := by
        rw [s1', h1, q5.2.2.2.1, q5.2.1, q15.2.2.1, q15.1]
      have x2' : n2R E v op lf rt (lf r) 0 0 0 0 ≤ A 0 0 0 a 2 := x2
      rw [← hS] at x2'
      rw [if_neg (fun h => by rw [tx] at h; exact absurd h.2 (by decide))] at s3'
      have s := (s2_ge1 (E := E) (v := v) ho r hr).1
      exact qR_of ho hr z7 (by rw [s3']; exact x2') x2' (mnN_le (by rw [hn1]; exact x5) (Nat.le_trans s x2'))
  · have := hx.2.2.2.1 (by omega)
    have : op (lf r) < 4 := by rcases ho.1 (lf r) (by omega) with h | h | h <;> omega
    exact ⟨h9, this, h1⟩
theorem qT_if (ht : tabOK A R C nr nc G W N pa pl) (ho : RPo P op lf rt) (hr : r < P) (h9 : op r = 9) {a b : Nat} (ha : 1 ≤ a) (hb : 1 ≤ b) (hN : a + 1 + b ≤ N) (hx : qT A R C nr nc G N E v op lf rt 2 a (lf r)) (hy : qT A R C nr nc G N E v op lf rt 3 b (rt r)) : qT A R C nr nc G N E v op lf rt 3 (a + 1 + b) r := by
  have hl := (ho.to r hr).2 (by omega)
  have sx := skp_f (E := E) (v := v) hx.2.2.2.1 hx.2.2.2.2
  have sy := skp_f (E := E) (v := v) hy.2.2.2.1 hy.2.2.2.2
  obtain ⟨_, _, zg, _, zz⟩ := clmB_out (ht.2.1 a b ha hb hN)
  obtain ⟨k, hk, hd⟩ := hy.2.2.1
  obtain ⟨z1, z2, z3⟩ := zz k hk
  obtain ⟨x0, x1, x2, x3, x4, x5⟩ := hx.1 b k (Nat.lt_of_lt_of_le hk (ht.2.2.2.1 b (by omega))) hN _ _ _ _ hd
  have q := q2_9 (E := E) (v := v) ho hr h9
  have q1 := q1_9 ho hr h9
  have hn1 : n1R op lf rt r = o1R op lf rt (lf r) (l1R op lf rt (rt r)) (s1R op lf rt (rt r)) := q1.1
  have b1 : n1R op lf rt r ≤ A b k 2 a 13 := by rw [hn1]; exact x5
  have b2 : g1R op lf rt r ≤ C 3 (a + 1 + b) 1 := by
    rw [q1.2.1]
    exact Nat.le_trans (Nat.add_le_add hx.2.1.2.2.1 hy.2.1.2.2.2.1) zg
  cases c : t2R E v op lf rt r with
  | false =>
    have f := q2_f ho hr c
    refine ⟨qA_if ht ho hr h9 ha hb hx hy, ⟨?_, ?_, Nat.le_trans b1 z1, b2, fun h => by rw [c] at h; cases h⟩, ?_, fun h => by omega, fun h => by omega⟩
    · rw [cls_0 c, f.1]; exact Nat.le_trans b1 z1
    · rw [cls_0 c, f.2.1]; exact b2
    · exact qR_of ho hr z2 (by rw [f.2.2, q1.2.2.1]; exact b1) (by rw [f.1]; exact b1) b1
  | true =>
    have hxy : clsN E v op lf rt (lf r) = 0 ∨ clsN E v op lf rt (rt r) ≠ 0 := by
      have e := q.1
      rw [c] at e
      cases cx : t2R E v op lf rt (lf r) with
      | false => exact Or.inl (cls_0 cx)
      | true =>
        right
        refine cls_t ?_
        rw [cx] at e
        exact e.symm
    obtain ⟨w1, w2, w3, w4, w5⟩ := z3 _ _ cls_lt cls_lt sx sy hxy
    obtain ⟨s1', s2', s3'⟩ := q.2.1 c
    have hS : S2R E v op lf rt r = n2R E v op lf rt (lf r) (L2R E v op lf rt (rt r)) (S2R E v op lf rt (rt r) - L2R E v op lf rt (rt r)) (l1R op lf rt (rt r)) (s1R op lf rt (rt r)) := s1'
    rw [← hS] at x2
    have hG : G2R E v op lf rt r ≤ C 2 a (2 * clsN E v op lf rt (lf r)) + C 3 b (2 * clsN E v op lf rt (rt r) + 1) := by
      rw [s2']
      exact Nat.add_le_add hx.2.1.1 hy.2.1.2.1
    have sge := s2_ge1 (E := E) (v := v) ho r hr
    have sgy := s2_ge1 (E := E) (v := v) ho (rt r) (by omega)
    refine ⟨qA_if ht ho hr h9 ha hb hx hy, ⟨?_, ?_, Nat.le_trans b1 z1, b2, fun _ => by omega⟩, ?_, fun h => by omega, fun h => by omega⟩
    · rw [cls_2 c h9]; exact Nat.le_trans x2 w1
    · rw [cls_2 c h9]; exact Nat.le_trans hG w2
    · by_cases cn : op (lf r) = 9 ∧ t2R E v op lf rt (lf r) = true
      · have c2 := cls_2 cn.2 cn.1
        rw [if_pos cn] at s3'
        rw [c2] at x2
        have hL : L2R E v op lf rt r ≤ R b k 1 := by
          rw [s3']
          have := hd.2.1
          omega
        have hl1 : n1R op lf rt r ≤ R b k 1 := by
          have := sge.2.2.1
          rw [q1.2.2.1] at this
          omega
        exact qR_of ho hr (w4 c2) hL x2 (mnN_le b1 hl1)
      · have c2 : clsN E v op lf rt (lf r) ≠ 2 := by
          cases ct : t2R E v op lf rt (lf r) with
          | false => rw [cls_0 ct]; decide
          | true => rw [cls_1 ct (fun h9 => cn ⟨h9, ct⟩)]; decide
        rw [if_neg cn] at s3'
        exact qR_of ho hr (w5 c2) (by rw [s3']; exact x2) x2 (mnN_le b1 (Nat.le_trans sge.1 x2))
theorem sd_le {p a x n : Nat} (h1 : a = 1 → op p < 6) (h : x ≤ n) : (if op p < 6 then 0 else 1 + x) ≤ sdN a n := by
  unfold sdN
  by_cases e : a = 1
  · rw [if_pos (h1 e)]; exact Nat.zero_le _
  · rw [nb_f e, cond_false]
    split <;> omega
theorem qT_or (ht : tabOK A R C nr nc G W N pa pl) (hk : kOK pa pl E v) (ho : RPo P op lf rt) (hr : r < P) (h8 : op r = 8) {a b : Nat} (ha : 1 ≤ a) (hb : 1 ≤ b) (hN : a + 1 + b ≤ N) (hx : qT A R C nr nc G N E v op lf rt 2 a (lf r)) (hy : qT A R C nr nc G N E v op lf rt 1 b (rt r)) : qT A R C nr nc G N E v op lf rt 2 (a + 1 + b) r := by
  have hl := (ho.to r hr).2 (by omega)
  have sx := skp_f (E := E) (v := v) hx.2.2.2.1 hx.2.2.2.2
  have sy := skp_f (E := E) (v := v) hy.2.2.2.1 hy.2.2.2.2
  obtain ⟨_, ⟨u1, u2, u3, u4⟩, _, zz, _⟩ := clmB_out (ht.2.1 a b ha hb hN)
  obtain ⟨_, z2, k, hk3, r1, r2, r3, r4⟩ := zz _ _ cls_lt cls_lt sx sy
  have q := q2_8 (E := E) (v := v) ho hr h8
  have q1 := q1_8 ho hr h8
  obtain ⟨hc, hG⟩ := or_cls (E := E) (v := v) ho hr h8
  have e1 := sd_le (op := op) hx.2.2.2.1 hx.2.1.2.2.1
  have e2 := sd_le (op := op) hy.2.2.2.1 hy.2.1.2.2.1
  have e3 := sd_le (op := op) hx.2.2.2.1 hx.2.1.1
  have e4 := sd_le (op := op) hy.2.2.2.1 hy.2.1.1
  have b1 : n1R op lf rt r ≤ C 2 (a + 1 + b) 0 := by rw [q1.1]; omega
  have b2 : g1R op lf rt r ≤ C 2 (a + 1 + b) 1 := by
    rw [q1.2.1]
    have := hx.2.1.2.2.2.1
    have := hy.2.1.2.2.2.1
    omega
  have gx := hx.2.1.2.1
  have gy := hy.2.1.2.1
  cases c : t2R E v op lf rt r with
  | false =>
    have f := q2_f ho hr c
    refine ⟨qA_or ht hk ho hr h8 ha hb hx hy, ⟨?_, ?_, b1, b2, fun h => by rw [c] at h; cases h⟩, ⟨k, hk3, ?_⟩, fun h => by omega, fun h => by omega⟩
    · rw [cls_0 c, f.1]; exact b1
    · rw [cls_0 c, f.2.1]; exact b2
    · have e := q.1
      rw [c] at e
      have e' := Bool.or_eq_false_iff.mp e.symm
      have fx := (q2_f ho (show lf r < P by omega) e'.1).1
      have fy := (q2_f ho (show rt r < P by omega) e'.2).1
      rw [fx] at e3
      rw [fy] at e4
      unfold domP s1R
      rw [f.2.2, f.1, q1.2.2.1, q1.1]
      omega
  | true =>
    have hne : clsN E v op lf rt (lf r) + clsN E v op lf rt (rt r) ≠ 0 := by
      intro h
      have e1 := cls_f0 (show clsN E v op lf rt (lf r) = 0 by omega)
      have e2 := cls_f0 (show clsN E v op lf rt (rt r) = 0 by omega)
      have e := q.1
      rw [c, e1, e2] at e
      cases e
    obtain ⟨w1, w2, w3, w4, w5, w6, w7, w8⟩ := z2 hne
    obtain ⟨s1', s2', s3'⟩ := q.2.1 c
    refine ⟨qA_or ht hk ho hr h8 ha hb hx hy, ⟨?_, ?_, b1, b2, fun _ => ?_⟩, ⟨k, hk3, ?_⟩, fun h => by omega, fun h => by omega⟩
    · rw [cls_1 c (by omega), s1']; show _ ≤ C 2 (a + 1 + b) 2; omega
    · rw [cls_1 c (by omega), s2']; show _ ≤ C 2 (a + 1 + b) 3; omega
    · rw [s1', s2']; omega
    · have sge := s2_ge1 (E := E) (v := v) ho r hr
      unfold domP
      have h5 := sge.2.2.2.2
      unfold s1R at h5 ⊢
      rw [s3', q1.2.2.1] at h5 ⊢
      rw [s1', q1.1] at h5 ⊢
      omega
theorem qT_and (ht : tabOK A R C nr nc G W N pa pl) (hk : kOK pa pl E v) (ho : RPo P op lf rt) (hr : r < P) (h7 : op r = 7) {a b : Nat} (ha : 1 ≤ a) (hb : 1 ≤ b) (hN : a + 1 + b ≤ N) (hx : qT A R C nr nc G N E v op lf rt 1 a (lf r)) (hy : qT A R C nr nc G N E v op lf rt 0 b (rt r)) : qT A R C nr nc G N E v op lf rt 1 (a + 1 + b) r := by
  have hl := (ho.to r hr).2 (by omega)
  have sx := skp_f (E := E) (v := v) hx.2.2.2.1 hx.2.2.2.2
  have sy := skp_f (E := E) (v := v) hy.2.2.2.1 hy.2.2.2.2
  obtain ⟨⟨u1, u2, u3, u4⟩, _, _, zz, _⟩ := clmB_out (ht.2.1 a b ha hb hN)
  obtain ⟨z1, _, _⟩ := zz _ _ cls_lt cls_lt sx sy
  have q := q2_7 (E := E) (v := v) ho hr h7
  have q1 := q1_7 ho hr h7
  have nx := hx.2.1.2.2.1
  have ny := hy.2.1.2.2.1
  have b1 : n1R op lf rt r ≤ C 1 (a + 1 + b) 0 := by rw [q1.1]; omega
  have b2 : g1R op lf rt r ≤ C 1 (a + 1 + b) 1 := by
    rw [q1.2.1]
    have := hx.2.1.2.2.2.1
    have := hy.2.1.2.2.2.1
    omega
  have gx := hx.2.1.2.1
  have gy := hy.2.1.2.1
  have Sx := hx.2.1.1
  have Sy := hy.2.1.1
  cases c : t2R E v op lf rt r with
  | false =>
    have f := q2_f ho hr c
    refine ⟨qA_and ht hk ho hr h7 ha hb hx hy, ⟨?_, ?_, b1, b2, fun h => by rw [c] at h; cases h⟩, ?_, fun h => by omega, fun h => by omega⟩
    · rw [cls_0 c, f.1]; exact b1
    · rw [cls_0 c, f.2.1]; exact b2
    · exact qR_of ho hr u4 (by rw [f.2.2, q1.2.2.1, q1.1]; omega) (by rw [f.1, q1.1]; omega) (by rw [q1.1]; omega)
  | true =>
    have e := q.1
    rw [c] at e
    have e2 := (Bool.and_eq_true _ _).mp e.symm
    obtain ⟨w1, w2, w3, w4, w5, w6⟩ := z1 (Nat.mul_ne_zero (cls_t e2.1) (cls_t e2.2))
    obtain ⟨s1', s2', s3'⟩ := q.2.1 c
    have jx := hx.2.1.2.2.2.2 e2.1
    have jy := hy.2.1.2.2.2.2 e2.2
    have sge := (s2_ge1 (E := E) (v := v) ho r hr).1
    refine ⟨qA_and ht hk ho hr h7 ha hb hx hy, ⟨?_, ?_, b1, b2, fun _ => ?_⟩, ?_, fun h => by omega, fun h => by omega⟩
    · rw [cls_1 c (by omega), s1']; show _ ≤ C 1 (a + 1 + b) 2; omega
    · rw [cls_1 c (by omega), s2']; show _ ≤ C 1 (a + 1 + b) 3; omega
    · rw [s1', s2']; omega
    · exact qR_of ho hr w6 (by rw [s3', s1']; omega) (by rw [s1']; omega) (mnN_le (by rw [q1.1]; omega) (by rw [s1'] at sge; omega))
end CLAIMS
