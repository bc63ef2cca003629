/-! THE DEPTH'S NUMBERS: the tables hold for lefts -/
section LEFT
variable {A : Nat → Nat → Nat → Nat → Nat → Nat} {R C : Nat → Nat → Nat → Nat} {nr nc G : Nat → Nat} {W N : Nat} {pa pl : Bool} {P : Nat} {op lf rt : Nat → Nat} {E v : Nat → Bool} {r : Nat}
theorem qA_atom (ht : tabOK A R C nr nc G W N pa pl) (hk : kOK pa pl E v) (h6 : op r < 6) : qA A R nr N E v op lf rt 0 1 r := by
  intro m e he hN l s l1 s1 hd
  obtain ⟨⟨b0, b1, b2, b3, b4, b5, b6, b7, b8, b9⟩, _⟩ := restB_out (ht.1 m e he (by omega))
  obtain ⟨d0, d1, d2, d3, d4, d5⟩ := hd
  have q := q2_l (lf := lf) (rt := rt) (E := E) (v := v) h6
  have q1 := q1_lf (lf := lf) (rt := rt) h6
  have hi := q.2.2.2.2 l s l1 s1
  have hg : G2R E v op lf rt r = 0 := q.2.2.1
  have hi1 := q1.2.2.2.1 l1 s1
  have hgr := q1.2.2.2.2
  have n2 : n2R E v op lf rt r l s l1 s1 ≤ l + s := by
    unfold n2R
    rw [hi, hgr]
    by_cases h4 : op r < 4
    · rw [if_pos h4, if_pos (decide_eq_true h4)]
      by_cases hE : E (op r) = true
      · rw [if_pos hE]; exact Nat.le_refl _
      · rw [if_neg hE]; omega
    · rw [if_neg h4, decide_eq_false h4, if_neg (by decide)]; omega
  have o1 : o1R op lf rt r l1 s1 ≤ l1 + s1 := by
    unfold o1R
    rw [hi1, hgr]
    by_cases h4 : op r < 4
    · rw [if_pos h4, if_pos (decide_eq_true h4)]; exact Nat.le_refl _
    · rw [if_neg h4, decide_eq_false h4, if_neg (by decide)]; omega
  have i1 : i1R op lf rt r l1 s1 ≤ l1 := by
    rw [hi1]
    by_cases h4 : op r < 4
    · rw [if_pos h4]; exact Nat.le_refl _
    · rw [if_neg h4]; exact Nat.zero_le _
  have i2 : i2R E v op lf rt r l s l1 s1 ≤ l := by
    rw [hi]
    by_cases h4 : op r < 4
    · rw [if_pos h4]
      by_cases hE : E (op r) = true
      · rw [if_pos hE]; exact Nat.le_refl _
      · rw [if_neg hE]; exact d4
    · rw [if_neg h4]; exact Nat.zero_le _
  cases c : t2R E v op lf rt r with
  | true =>
    rw [cls_1 c (by omega), hg]
    refine ⟨?_, ?_, ?_, ?_, ?_, ?_⟩ <;> (try simp only [Nat.mul_one, Nat.reduceAdd]) <;> omega
  | false =>
    have i20 : i2R E v op lf rt r l s l1 s1 ≤ l1 := by
      rw [hi]
      by_cases h4 : op r < 4
      · rw [if_pos h4]
        have hv : v (op r) = false := by
          have := q.1
          rw [c, if_pos h4] at this
          exact this.symm
        have hE : E (op r) ≠ true := fun hE => by
          rw [hk.1 _ h4 hE] at hv; cases hv
        rw [if_neg hE]; exact Nat.le_refl _
      · rw [if_neg h4]; exact Nat.zero_le _
    rw [cls_0 c, hg]
    refine ⟨?_, ?_, ?_, ?_, ?_, ?_⟩ <;> (try simp only [Nat.mul_zero, Nat.zero_add]) <;> omega
theorem qA_lift (ht : tabOK A R C nr nc G W N pa pl) {lv i : Nat} (hl : lv < 3) (h1 : 1 ≤ i) (h : qA A R nr N E v op lf rt lv i r) : qA A R nr N E v op lf rt (lv + 1) i r := by
  intro m e he hN l s l1 s1 hd
  have b := (restB_out (ht.1 m e he (by omega))).2.1
  obtain ⟨a0, a1, a2, a3, a4, a5⟩ := h m e he hN l s l1 s1 hd
  obtain ⟨j, rfl⟩ : ∃ j, i = j + 1 := ⟨i - 1, by omega⟩
  have c : clsN E v op lf rt r < 3 := cls_lt
  exact ⟨Nat.le_trans a0 (b j lv _ (by omega) hl (by omega)), Nat.le_trans a1 (b j lv _ (by omega) hl (by omega)), Nat.le_trans a2 (b j lv _ (by omega) hl (by omega)), Nat.le_trans a3 (b j lv _ (by omega) hl (by omega)), Nat.le_trans a4 (b j lv _ (by omega) hl (by omega)), Nat.le_trans a5 (b j lv _ (by omega) hl (by omega))⟩
theorem qA_par (ht : tabOK A R C nr nc G W N pa pl) {i : Nat} (h3 : 3 ≤ i) (h : qA A R nr N E v op lf rt 3 i r) : qA A R nr N E v op lf rt 0 (i + W) r := by
  intro m e he hN l s l1 s1 hd
  have b := (restB_out (ht.1 m e he (by omega))).2.2.1
  obtain ⟨a0, a1, a2, a3, a4, a5⟩ := h m e he (by omega) l s l1 s1 hd
  obtain ⟨j, rfl⟩ : ∃ j, i = j + 3 := ⟨i - 3, by omega⟩
  have c : clsN E v op lf rt r < 3 := cls_lt
  exact ⟨Nat.le_trans a0 (b j _ (by omega) (by omega)), Nat.le_trans a1 (b j _ (by omega) (by omega)), Nat.le_trans a2 (b j _ (by omega) (by omega)), Nat.le_trans a3 (b j _ (by omega) (by omega)), Nat.le_trans a4 (b j _ (by omega) (by omega)), Nat.le_trans a5 (b j _ (by omega) (by omega))⟩
/-- an IF on the left -/
theorem if_core (ho : RPo P op lf rt) (hr : r < P) (h9 : op r = 9) {Z : Nat → Nat} {m e l s l1 s1 n1 sx g1 gy y1 y3 : Nat} (hd : domP R m e l s l1 s1) (hB : ifB R Z m e (clsN E v op lf rt (lf r)) (clsN E v op lf rt (rt r)) n1 sx g1 gy y1 y3 = true) (hB1 : if1B R Z m e = true) (a1 : n1R op lf rt (lf r) ≤ n1) (a2 : S2R E v op lf rt (lf r) ≤ sx) (a3 : g1R op lf rt (rt r) ≤ g1) (a4 : G2R E v op lf rt (rt r) ≤ gy) (a5 : i2R E v op lf rt (rt r) l s l1 s1 + G2R E v op lf rt (rt r) ≤ y1) (a6 : i2R E v op lf rt (rt r) l s l1 s1 + s + G2R E v op lf rt (rt r) ≤ y3) :
    i2R E v op lf rt r l s l1 s1 ≤ Z (4 * clsN E v op lf rt r) ∧ i2R E v op lf rt r l s l1 s1 + G2R E v op lf rt r ≤ Z (4 * clsN E v op lf rt r + 1) ∧ n2R E v op lf rt r l s l1 s1 ≤ Z (4 * clsN E v op lf rt r + 2) ∧ i2R E v op lf rt r l s l1 s1 + s + G2R E v op lf rt r ≤ Z (4 * clsN E v op lf rt r + 3) ∧ i1R op lf rt r l1 s1 ≤ Z 12 ∧ o1R op lf rt r l1 s1 ≤ Z 13 := by
  obtain ⟨d0, d1, d2, d3, d4, d5⟩ := hd
  have q := q2_9 (E := E) (v := v) ho hr h9
  have q1 := q1_9 ho hr h9
  have hi := q.2.2 l s l1 s1
  have hi1 := q1.2.2.2.1 l1 s1
  have hn : n2R E v op lf rt r l s l1 s1 = i2R E v op lf rt r l s l1 s1 + s := by
    unfold n2R
    rw [q1.2.2.2.2, if_pos rfl]
  have ho1 : o1R op lf rt r l1 s1 = l1 + s1 := by
    unfold o1R
    rw [q1.2.2.2.2, if_pos rfl, hi1]
  unfold if1B at hB1
  simp only [Bool.and_eq_true, Nat.ble_eq] at hB1
  rw [hn, ho1, hi1]
  cases c : t2R E v op lf rt r with
  | true =>
    have hl : clsN E v op lf rt (lf r) = 0 ∨ clsN E v op lf rt (rt r) ≠ 0 := by
      have e := q.1
      rw [c] at e
      cases cx : t2R E v op lf rt (lf r) with
      | false => exact Or.inl (cls_0 cx)
      | true =>
        right
        refine cls_t ?_
        rw [cx] at e
        exact e.symm
    obtain ⟨z1, z2, z3, z4, z5, z6, z7, z8⟩ := if_live hB hl
    have hG := (q.2.1 c).2.1
    rw [c, if_pos rfl] at hi
    rw [cls_2 c h9, hi, hG]
    show _ ≤ Z 8 ∧ _ ≤ Z 9 ∧ _ ≤ Z 10 ∧ _ ≤ Z 11 ∧ _ ∧ _
    omega
  | false =>
    have e := q.1
    rw [c] at e
    have e2 := Bool.or_eq_false_iff.mp e.symm
    have cx : t2R E v op lf rt (lf r) = true := by
      have := e2.1
      revert this
      cases t2R E v op lf rt (lf r)
      · intro h; cases h
      · intro _; rfl
    obtain ⟨z1, z2, z3, z4⟩ := if_dead hB (cls_t cx) (cls_0 e2.2)
    have hG := (q2_f ho hr c).2.1
    rw [q1.2.1] at hG
    rw [c, if_neg (by decide)] at hi
    rw [cls_0 c, hi, hG]
    show _ ≤ Z 0 ∧ _ ≤ Z 1 ∧ _ ≤ Z 2 ∧ _ ≤ Z 3 ∧ _ ∧ _
    omega
theorem qA_if (ht : tabOK A R C nr nc G W N pa pl) (ho : RPo P op lf rt) (hr : r < P) (h9 : op r = 9) {a b : Nat} (ha : 1 ≤ a) (hb : 1 ≤ b) (hx : qT A R C nr nc G N E v op lf rt 2 a (lf r)) (hy : qT A R C nr nc G N E v op lf rt 3 b (rt r)) : qA A R nr N E v op lf rt 3 (a + 1 + b) r := by
  intro m e he hN l s l1 s1 hd
  obtain ⟨p1, p2, p3, p4⟩ := pairB_out ((restB_out (ht.1 m e he (by omega))).2.2.2.2 (a - 1) (b - 1) (by omega) (by omega))
  rw [show a - 1 + 1 = a by omega, show b - 1 + 1 = b by omega] at p1 p2 p3 p4
  have hB := (p4 (clsN E v op lf rt (lf r)) (clsN E v op lf rt (rt r)) cls_lt cls_lt (skp_f hx.2.2.2.1 hx.2.2.2.2) (skp_f hy.2.2.2.1 hy.2.2.2.2)).2.1
  obtain ⟨y0, y1, y2, y3, y4, y5⟩ := hy.1 m e he (by omega) l s l1 s1 hd
  exact if_core ho hr h9 hd hB p2 hx.2.1.2.2.1 hx.2.1.1 hy.2.1.2.2.2.1 hy.2.1.2.1 y1 y3
theorem qA_not (ht : tabOK A R C nr nc G W N pa pl) (ho : RPo P op lf rt) (hr : r < P) (h9 : op r = 9) (h1 : rt r = 1) {a : Nat} (ha : 1 ≤ a) (hx : qC C G E v op lf rt 0 a (lf r)) (hs : skp a (clsN E v op lf rt (lf r)) = false) : qA A R nr N E v op lf rt 0 (a + 1) r := by
  intro m e he hN l s l1 s1 hd
  obtain ⟨b1, b2⟩ := (restB_out (ht.1 m e he (by omega))).2.2.2.1 (a - 1) (by omega)
  have hl := (ho.to r hr).2 (by omega)
  have o5 : op 1 = 5 := by rcases ho.1 1 (by omega) with h | h | h <;> omega
  have q := q2_l (lf := lf) (rt := rt) (E := E) (v := v) (show op 1 < 6 by omega)
  have q1 := q1_lf (lf := lf) (rt := rt) (show op 1 < 6 by omega)
  have hi := q.2.2.2.2 l s l1 s1
  rw [if_neg (by omega)] at hi
  have c0 : clsN E v op lf rt (rt r) = 0 := by
    rw [h1]
    exact cls_0 (by rw [q.1, if_neg (by omega)]; exact decide_eq_false (by omega))
  rw [show a - 1 + 1 = a by omega, show a - 1 + 2 = a + 1 by omega] at b2
  rw [show a - 1 + 2 = a + 1 by omega] at b1
  have hB : ifB R (fun f => A m e 0 (a + 1) f) m e (clsN E v op lf rt (lf r)) (clsN E v op lf rt (rt r)) (C 0 a 0) (C 0 a (2 * clsN E v op lf rt (lf r))) 0 0 0 (R m e 1) = true := by
    rw [c0]
    exact b2 _ cls_lt hs
  refine if_core ho hr h9 hd hB b1 hx.2.2.1 hx.1 ?_ ?_ ?_ ?_
  · rw [h1, q1.2.1]; exact Nat.zero_le _
  · rw [h1, q.2.2.1]; exact Nat.zero_le _
  · rw [h1, q.2.2.1, hi]; exact Nat.zero_le _
  · rw [h1, q.2.2.1, hi]
    have := hd.2.1
    omega
end LEFT
