section FIRST
variable {b : Nat} {ia fi : Nat → Nat → Int32} {fl : Nat → Nat → Int64} {qa : Nat → Nat → Option Nat} {f : mmF} {S : Nat} {kd lf rt : Nat → Nat}
/-- what is to be settled: nothing more is known at once, no 'or' is open, what must not hold is told -/
def setl (S : Nat) (kd lf rt : Nat → Nat) (K D : Nat → Bool) (g : Nat) : Prop := K 5 = false ∧ K g = false ∧ (∀ p, 6 ≤ p → p < S → kd p = 8 → K p = true → K (lf p) = true ∨ K (rt p) = true) ∧ D g = true ∧ ∀ p, 6 ≤ p → p < S → dcl kd lf rt K D p
/-- the first trial's answer -/
def ftR (b j S : Nat) (kd lf rt : Nat → Nat) (g : Nat) (t : Int32) (fl : Nat → Nat → Int64) : Prop := (t = -1 ∧ (sB fl (lA b j 1) 5 = true ∨ sB fl (lA b j 1) g = true)) ∨ (∃ p, t = nI p ∧ 6 ≤ p ∧ p < S ∧ kd p = 8 ∧ sB fl (lA b j 1) p = true ∧ sB fl (lA b j 1) (lf p) = false ∧ sB fl (lA b j 1) (rt p) = false) ∨ (setl S kd lf rt (sB fl (lA b j 1)) (fun r => sB fl (lA b j 3) r || decide (192 ≤ r)) g ∧ (∀ q, q < 192 → sB fl (lA b j 4) q = true) ∧ ((∃ p, t = nI p ∧ 6 ≤ p ∧ p < S ∧ triB kd lf (sB fl (lA b j 1)) (sB fl (lA b j 3)) p) ∨ (t = -2 ∧ ∀ p, 6 ≤ p → p < S → ¬ triB kd lf (sB fl (lA b j 1)) (sB fl (lA b j 3)) p)))
theorem first_32 {j g : Nat} (hj : j < 153) (h : LX b ia fi S kd lf rt) (hg : g < S) (k5 : sB fl (lA b j 1) 5 = false) (kg : sB fl (lA b j 1) g = false) : ∀ (m p q : Nat), p + m = S → 6 ≤ p → m < q → (∀ r, 6 ≤ r → r < p → kd r = 8 → sB fl (lA b j 1) r = true → sB fl (lA b j 1) (lf r) = true ∨ sB fl (lA b j 1) (rt r) = true) → ∃ (t : Int32) (fl1 : Nat → Nat → Int64), f_X5_firstTrial_32 q (b + 20) (lV b j) (nI g) (lA b j 1) (nI p) (wr (SK b) ia fi fl qa f) = some (t, wr (SK b) ia fi fl1 qa f) ∧ (∀ c, c ≠ lA b j 3 → c ≠ lA b j 4 → fl1 c = fl c) ∧ ftR b j S kd lf rt g t fl1 := by
  have ho := h.2.1
  have hS := ho.2.1
  have hK1 := K_lA (b := b) hj (Nat.le_refl 1) (show 1 ≤ 4 by decide)
  have hK4 := K_lA (b := b) hj (show 1 ≤ 4 by decide) (Nat.le_refl 4)
  intro m
  induction m with
  | zero =>
    intro p q hp h6 hq hor
    obtain ⟨q, rfl⟩ : ∃ k, q = k + 1 := ⟨q - 1, by omega⟩
    have e : p = S := by omega
    subst e
    obtain ⟨fl1, a1, a2, a3, a4⟩ := doubt_c (fl := fl) (qa := qa) (f := f) hj h hg
    obtain ⟨fl2, b1, b2⟩ := fill_s (ia := ia) (fi := fi) (fl := fl1) (qa := qa) (f := f) hK4 (1 : Int32)
    rw [if_neg (show ¬ (1 : Int32) = 0 by decide)] at b2
    have eK : sB fl2 (lA b j 1) = sB fl (lA b j 1) := by
      funext r
      unfold sB
      rw [b2.1 _ (lA_ne (by decide)), a2 _ (lA_ne (by decide))]
    have eD : sB fl2 (lA b j 3) = sB fl1 (lA b j 3) := by
      funext r
      unfold sB
      rw [b2.1 _ (lA_ne (by decide))]
    have hset : setl p kd lf rt (sB fl2 (lA b j 1)) (fun r => sB fl2 (lA b j 3) r || decide (192 ≤ r)) g := by
      rw [eK, eD]
      exact ⟨k5, kg, hor, (by show (sB fl1 (lA b j 3) g || _) = true; rw [a3, Bool.true_or]), a4⟩
    have hfr : ∀ c, c ≠ lA b j 3 → c ≠ lA b j 4 → fl2 c = fl c := fun c c3 c4 => (b2.1 c c4).trans (a2 c c3)
    have base : ∀ t : Int32, f_X5_nextTrial (b + 20) (lV b j) (wr (SK b) ia fi fl2 qa f) = some t → f_X5_firstTrial_32 (q + 1) (b + 20) (lV b j) (nI g) (lA b j 1) (nI p) (wr (SK b) ia fi fl qa f) = some (t, wr (SK b) ia fi fl2 qa f) := fun t ht => by
      rw [f_X5_firstTrial_32]
      simp only [R_20_1, I_22_0, h.1.1, Option.bind_some, if_pos (Int32.le_refl _), ck_20, a1, R_lv hj (show 3 < 4 by decide), ps_ck hK4, b1, ht]
    rcases next_c (fl := fl2) (qa := qa) (f := f) hj h with ⟨r, r1, r2, r3, r4⟩ | ⟨r1, r2⟩
    · exact ⟨nI r, fl2, base _ r4, hfr, Or.inr (Or.inr ⟨hset, b2.2, Or.inl ⟨r, rfl, r1, r2, r3⟩⟩)⟩
    · exact ⟨-2, fl2, base _ r2, hfr, Or.inr (Or.inr ⟨hset, b2.2, Or.inr ⟨rfl, r1⟩⟩)⟩
  | succ m ih =>
    intro p q hp h6 hq hor
    obtain ⟨q, rfl⟩ : ∃ k, q = k + 1 := ⟨q - 1, by omega⟩
    have hpS : p < S := by omega
    obtain ⟨o1, o2, o3, o4, o5⟩ := ho.2.2.2.1 p h6 hpS
    have hm := h.1.2.2 p h6 hpS
    have q8 : (nI (kd p) = (8 : Int32)) = (kd p = 8) := propext (nI_eq (b := 8) (by omega) (by decide))
    have next : (kd p = 8 → sB fl (lA b j 1) p = true → sB fl (lA b j 1) (lf p) = true ∨ sB fl (lA b j 1) (rt p) = true) → ∃ (t : Int32) (fl1 : Nat → Nat → Int64), f_X5_firstTrial_105 (fun a0 a1 a2 a3 a4 a5 => f_X5_firstTrial_32 q a0 a1 a2 a3 a4 a5) (b + 20) (lV b j) (nI g) (lA b j 1) (nI p) (wr (SK b) ia fi fl qa f) = some (t, wr (SK b) ia fi fl1 qa f) ∧ (∀ c, c ≠ lA b j 3 → c ≠ lA b j 4 → fl1 c = fl c) ∧ ftR b j S kd lf rt g t fl1 := by
      intro h8
      unfold f_X5_firstTrial_105
      rw [nI_1]
      exact ih (p + 1) q (by omega) (by omega) (by omega) (fun r r6 hr => by
        by_cases e : r = p
        · subst e; exact h8
        · exact hor r r6 (by omega))
    rw [f_X5_firstTrial_32]
    simp only [R_20_1, I_22_0, h.1.1, Option.bind_some, if_neg (nI_ge hpS (show S < 2 ^ 31 by omega)), R_22_1, R_22_2, R_22_3, An_23 (show p < 151 by omega), An_24 (show p < 151 by omega), An_25 (show p < 151 by omega), hm.1, hm.2, h.1.2.1 p hpS, q8, ps_ck hK1, has_s hK1 (show p < 192 by omega), has_s hK1 (show lf p < 192 by omega), has_s hK1 (show rt p < 192 by omega), b01]
    by_cases c8 : kd p = 8
    · rw [if_pos c8]
      cases hk : sB fl (lA b j 1) p with
      | false =>
        rw [if_pos (rfl : false = false)]
        exact next (fun _ h => by rw [hk] at h; cases h)
      | true =>
        rw [if_neg (show ¬ true = false by decide)]
        cases hl : sB fl (lA b j 1) (lf p) with
        | true =>
          rw [if_neg (show ¬ true = false by decide)]
          exact next (fun _ _ => Or.inl hl)
        | false =>
          rw [if_pos (rfl : false = false)]
          cases hr : sB fl (lA b j 1) (rt p) with
          | true =>
            rw [if_neg (show ¬ true = false by decide)]
            exact next (fun _ _ => Or.inr hr)
          | false =>
            rw [if_pos (rfl : false = false)]
            exact ⟨nI p, fl, rfl, fun _ _ _ => rfl, Or.inr (Or.inl ⟨p, rfl, h6, hpS, c8, hk, hl, hr⟩)⟩
    · rw [if_neg c8]
      exact next (fun e => absurd e c8)
theorem first_c {j g : Nat} (hj : j < 153) (h : LX b ia fi S kd lf rt) (hg : g < S) (hin : inS S (sB fl (lA b j 1))) (h1 : 1 ≤ cnS (sB fl (lA b j 1)) S) : ∃ (t : Int32) (fl1 : Nat → Nat → Int64), f_X5_firstTrial (b + 20) (lV b j) (nI g) (wr (SK b) ia fi fl qa f) = some (t, wr (SK b) ia fi fl1 qa f) ∧ (∀ c, c ≠ lA b j 1 → c ≠ lA b j 3 → c ≠ lA b j 4 → fl1 c = fl c) ∧ cqS S kd lf rt (sB fl (lA b j 1)) (sB fl1 (lA b j 1)) ∧ inS S (sB fl1 (lA b j 1)) ∧ (∀ p, 6 ≤ p → p < S → stS kd lf rt (sB fl1 (lA b j 1)) p) ∧ ftR b j S kd lf rt g t fl1 := by
  obtain ⟨qf, hqf⟩ := FU_1000
  have ho := h.2.1
  have hS := ho.2.1
  have hS6 := ho.1
  have hK1 := K_lA (b := b) hj (Nat.le_refl 1) (show 1 ≤ 4 by decide)
  obtain ⟨fl1, a1, a2, a3, a4, a5⟩ := spread_c (qa := qa) (f := f) hj h h1
  have h5 := has_s (ia := ia) (fi := fi) (fl := fl1) (qa := qa) (f := f) hK1 (show 5 < 192 by decide)
  rw [show nI 5 = (5 : Int32) from rfl] at h5
  unfold f_X5_firstTrial
  simp only [R_lv hj (show 0 < 4 by decide), Nat.zero_add, ck_20, a1, ps_ck hK1, h5, has_s hK1 (show g < 192 by omega), Option.bind_some, b01]
  cases c5 : sB fl1 (lA b j 1) 5 with
  | true =>
    rw [if_neg (show ¬ true = false by decide)]
    exact ⟨-1, fl1, rfl, fun c c1 _ _ => a2 c c1, a3, a4 hin, a5, Or.inl ⟨rfl, Or.inl c5⟩⟩
  | false =>
    rw [if_pos (rfl : false = false)]
    cases cg : sB fl1 (lA b j 1) g with
    | true =>
      rw [if_neg (show ¬ true = false by decide)]
      exact ⟨-1, fl1, rfl, fun c c1 _ _ => a2 c c1, a3, a4 hin, a5, Or.inl ⟨rfl, Or.inr cg⟩⟩
    | false =>
      rw [if_pos (rfl : false = false)]
      obtain ⟨t, fl2, b1, b2, b3⟩ := first_32 (qa := qa) (f := f) hj h hg c5 cg (S - 6) 6 FU (by omega) (Nat.le_refl _) (by omega) (fun r r1 r2 => by omega)
      rw [show nI 6 = (6 : Int32) from rfl] at b1
      have eK : sB fl2 (lA b j 1) = sB fl1 (lA b j 1) := by
        funext r
        unfold sB
        rw [b2 _ (lA_ne (by decide)) (lA_ne (by decide))]
      exact ⟨t, fl2, b1, fun c c1 c3 c4 => (b2 c c3 c4).trans (a2 c c1), by rw [eK]; exact a3, by rw [eK]; exact a4 hin, by rw [eK]; exact a5, b3⟩
theorem has_any {a : Nat} (h : SK b a = some pset) (v : Int32) : ∃ x, f_X3_has a v (wr (SK b) ia fi fl qa f) = some x := by
  have h31 : ∀ y : Int64, ∃ x, f_X3_has_31 (wr (SK b) ia fi fl qa f) v y = some x := fun y => by
    unfold f_X3_has_31
    split
    · exact ⟨_, rfl⟩
    · exact ⟨_, rfl⟩
  unfold f_X3_has
  by_cases c1 : (64 : Int32) ≤ v
  · rw [if_pos c1]
    by_cases c2 : (128 : Int32) ≤ v
    · rw [if_pos c2, ps_J h (by decide)]; exact h31 _
    · rw [if_neg c2, ps_J h (by decide)]; exact h31 _
  · rw [if_neg c1, ps_J h (by decide)]; exact h31 _
/-- what the met stage is made of -/
def meV (kd lf rt : Nat → Nat) (K F F1 : Nat → Bool) (p : Nat) : Prop := (p < 6 → F1 p = K p) ∧ (6 ≤ p → (kd p = 7 → (F1 p = true ↔ F1 (lf p) = true ∧ F1 (rt p) = true)) ∧ (kd p = 8 → (F1 p = true ↔ F1 (lf p) = true ∨ F1 (rt p) = true)) ∧ (kd p = 9 ∨ kd p = 6 → (F1 p = true ↔ F p = true ∧ (F1 (lf p) = true → F1 (rt p) = true))))
theorem meV.up {K F F1 F2 : Nat → Bool} {p : Nat} (ho : PTo S kd lf rt) (hp : p < S) (h : meV kd lf rt K F F1 p) (e : ∀ q, q ≤ p → F2 q = F1 q) : meV kd lf rt K F F2 p := by
  refine ⟨fun h6 => by rw [e p (Nat.le_refl _)]; exact h.1 h6, fun h6 => ?_⟩
  obtain ⟨o1, o2, o3, o4, o5⟩ := ho.2.2.2.1 p h6 hp
  rw [e p (Nat.le_refl _), e (lf p) (by omega), e (rt p) (by omega)]
  exact h.2 h6
theorem meet_7 {j n0 x0 : Nat} {K F : Nat → Bool} (hj : j < 153) (h : LX b ia fi S kd lf rt) (hq : QF b qa) (hn : n0 ≤ 128) (hx : x0 ≤ n0) (m0 : fi (b + 34) 0 = nI n0) (m3 : fi (b + 34) 3 = nI x0) : ∀ (m p q : Nat) (fl : Nat → Nat → Int64), p + m = S → m < q → (∀ r, r < S → sB fl (lA b j 1) r = K r) → (∀ r, p ≤ r → r < S → sB fl (lA b j 4) r = F r) → (∀ r, r < p → meV kd lf rt K F (sB fl (lA b j 4)) r) → ∃ (ia1 fi1 : Nat → Nat → Int32) (fl1 : Nat → Nat → Int64) (n1 y : Nat), f_X5_meet_7 q (b + 20) (lV b j) (lA b j 4) (nI p) (wr (SK b) ia fi fl qa f) = some (wr (SK b) ia1 fi1 fl1 qa f) ∧ (∀ r, r < S → meV kd lf rt K F (sB fl1 (lA b j 4)) r) ∧ y < 128 ∧ (∀ c, c ≠ lA b j 4 → c ≠ b + (37 + y) → fl1 c = fl c) ∧ (∀ r, r < 192 → sB fl1 (b + (37 + y)) r = sB fl1 (lA b j 4) r) ∧ n1 ≤ 128 ∧ y + 1 ≤ n1 ∧ fi1 (b + 34) 0 = nI n1 ∧ fi1 (b + 34) 3 = nI (y + 1) ∧ (∀ i, i < n1 → i ≠ y → i < n0) ∧ (∀ c, c ≠ b + 36 → ia1 c = ia c) ∧ ∀ c i, c ≠ b + 34 → fi1 c i = fi c i := by
  have ho := h.2.1
  have hS := ho.2.1
  have hK1 := K_lA (b := b) hj (Nat.le_refl 1) (show 1 ≤ 4 by decide)
  have hK4 := K_lA (b := b) hj (show 1 ≤ 4 by decide) (Nat.le_refl 4)
  intro m
  induction m with
  | zero =>
    intro p q fl hp hq1 hKK hF hV
    obtain ⟨q, rfl⟩ : ∃ k, q = k + 1 := ⟨q - 1, by omega⟩
    have e : p = S := by omega
    subst e
    obtain ⟨ia1, fi1, fl1, n1, y, z1, z2, z3, z4, z5, z6, z7, z8, z9, z10, _⟩ := add_m (ia := ia) (fi := fi) (fl := fl) (f := f) (g := 0) hK4 (by unfold lA; omega) hq hn hx m0 m3
    rw [show nI 0 = (0 : Int32) from rfl] at z1
    have e4 : sB fl1 (lA b j 4) = sB fl (lA b j 4) := z3.o (by unfold lA; omega)
    refine ⟨ia1, fi1, fl1, n1, y, ?_, by rw [e4]; exact hV, z2, fun c c4 cy => z3.1 c cy, fun r hr => by rw [z3.2 r hr, e4], z4, z5, z6, z7, z8, z9, z10⟩
    rw [f_X5_meet_7]
    simp only [R_20_1, I_22_0, h.1.1, Option.bind_some, if_pos (Int32.le_refl _), R_20_3, ck_34, z1]
  | succ m ih =>
    intro p q fl hp hq1 hKK hF hV
    obtain ⟨q, rfl⟩ : ∃ k, q = k + 1 := ⟨q - 1, by omega⟩
    have hpS : p < S := by omega
    have h151 : p < 151 := by omega
    -- the part is set, and we go on
    have next : ∀ (v : Int32) (x : Bool), (if v = 0 then false else true) = x → meV kd lf rt K F (upB (sB fl (lA b j 4)) p x) p → ∃ (ia1 fi1 : Nat → Nat → Int32) (fl1 : Nat → Nat → Int64) (n1 y : Nat), f_X5_meet_151 (fun a0 a1 a2 a3 a4 => f_X5_meet_7 q a0 a1 a2 a3 a4) (b + 20) (lV b j) (lA b j 4) (nI p) (lA b j 4) (nI p) v (wr (SK b) ia fi fl qa f) = some (wr (SK b) ia1 fi1 fl1 qa f) ∧ (∀ r, r < S → meV kd lf rt K F (sB fl1 (lA b j 4)) r) ∧ y < 128 ∧ (∀ c, c ≠ lA b j 4 → c ≠ b + (37 + y) → fl1 c = fl c) ∧ (∀ r, r < 192 → sB fl1 (b + (37 + y)) r = sB fl1 (lA b j 4) r) ∧ n1 ≤ 128 ∧ y + 1 ≤ n1 ∧ fi1 (b + 34) 0 = nI n1 ∧ fi1 (b + 34) 3 = nI (y + 1) ∧ (∀ i, i < n1 → i ≠ y → i < n0) ∧ (∀ c, c ≠ b + 36 → ia1 c = ia c) ∧ ∀ c i, c ≠ b + 34 → fi1 c i = fi c i := by
      intro v x hv hm
      obtain ⟨fl1, a1, a2⟩ := set_s (ia := ia) (fi := fi) (fl := fl) (qa := qa) (f := f) hK4 (show p < 192 by omega) v
      rw [hv] at a2
      have e1 : sB fl1 (lA b j 1) = sB fl (lA b j 1) := a2.o (lA_ne (by decide))
      obtain ⟨ia2, fi2, fl2, n1, y, b1, b2, b3, b4, b5⟩ := ih (p + 1) q fl1 (by omega) (by omega) (by rw [e1]; exact hKK) (fun r r1 r2 => by
        rw [a2.2 r (by omega)]
        unfold upB
        rw [if_neg (by omega)]
        exact hF r (by omega) r2) (fun r hr => by
        by_cases e : r = p
        · subst e
          exact hm.up ho hpS (fun q hq => a2.2 q (by omega))
        · refine (hV r (by omega)).up ho (by omega) (fun q hq => ?_)
          rw [a2.2 q (by omega)]
          unfold upB
          rw [if_neg (by omega)])
      refine ⟨ia2, fi2, fl2, n1, y, ?_, b2, b3, fun c c4 cy => (b4 c c4 cy).trans (a2.1 c c4), b5⟩
      unfold f_X5_meet_151
      simp only [ps_ck hK4, a1, Option.bind_some, nI_1]
      exact b1
    rw [f_X5_meet_7]
    simp only [R_20_1, I_22_0, h.1.1, Option.bind_some, if_neg (nI_ge hpS (show S < 2 ^ 31 by omega)), R_22_1, R_22_2, R_22_3, An_23 h151, An_24 h151, An_25 h151, h.1.2.1 p hpS, ps_ck hK4]
    by_cases c6 : p < 6
    · have ek := ho.2.2.1 p c6
      obtain ⟨v1, hv1⟩ := has_any (ia := ia) (fi := fi) (fl := fl) (qa := qa) (f := f) hK4 (ia (b + 24) p)
      obtain ⟨v2, hv2⟩ := has_any (ia := ia) (fi := fi) (fl := fl) (qa := qa) (f := f) hK4 (ia (b + 25) p)
      simp only [hv1, hv2, Option.bind_some]
      rw [if_neg (show ¬ (5 : Int32) < nI (kd p) from nI_nlt (a := 5) (b := kd p) (by omega) (by decide))]
      simp only [R_lv hj (show 0 < 4 by decide), Nat.zero_add, ps_ck hK1, has_s hK1 (show p < 192 by omega), Option.bind_some]
      refine next _ (sB fl (lA b j 1) p) (by cases sB fl (lA b j 1) p <;> rfl) ⟨fun _ => by rw [upB_s]; exact hKK p hpS, fun h6 => by omega⟩
    · obtain ⟨o1, o2, o3, o4, o5⟩ := ho.2.2.2.1 p (by omega) hpS
      have hm := h.1.2.2 p (by omega) hpS
      have q7 : (nI (kd p) = (7 : Int32)) = (kd p = 7) := propext (nI_eq (b := 7) (by omega) (by decide))
      have q8 : (nI (kd p) = (8 : Int32)) = (kd p = 8) := propext (nI_eq (b := 8) (by omega) (by decide))
      have hFp := hF p (Nat.le_refl _) hpS
      simp only [hm.1, hm.2, has_s hK4 (show lf p < 192 by omega), has_s hK4 (show rt p < 192 by omega), has_s hK4 (show p < 192 by omega), Option.bind_some, q7, q8, b01]
      rw [if_pos (show (5 : Int32) < nI (kd p) from nI_lt (a := 5) (by omega) (by omega))]
      -- the value that is due
      have fin : ∀ x : Bool, ((kd p = 7 → (x = true ↔ sB fl (lA b j 4) (lf p) = true ∧ sB fl (lA b j 4) (rt p) = true)) ∧ (kd p = 8 → (x = true ↔ sB fl (lA b j 4) (lf p) = true ∨ sB fl (lA b j 4) (rt p) = true)) ∧ (kd p = 9 ∨ kd p = 6 → (x = true ↔ F p = true ∧ (sB fl (lA b j 4) (lf p) = true → sB fl (lA b j 4) (rt p) = true)))) → meV kd lf rt K F (upB (sB fl (lA b j 4)) p x) p := fun x hx => ⟨fun h => by omega, fun _ => by
        have e1 : upB (sB fl (lA b j 4)) p x (lf p) = sB fl (lA b j 4) (lf p) := if_neg (by omega)
        have e2 : upB (sB fl (lA b j 4)) p x (rt p) = sB fl (lA b j 4) (rt p) := if_neg (by omega)
        rw [upB_s, e1, e2]
        exact hx⟩
      by_cases c7 : kd p = 7
      · rw [if_pos c7]
        cases hl : sB fl (lA b j 4) (lf p) with
        | false =>
          rw [if_pos (rfl : false = false)]
          exact next 0 false rfl (fin false ⟨fun _ => by rw [hl]; simp, fun e => by omega, fun e => by omega⟩)
        | true =>
          rw [if_neg (show ¬ true = false by decide)]
          cases hr : sB fl (lA b j 4) (rt p) with
          | false =>
            rw [if_pos (rfl : false = false)]
            exact next 0 false rfl (fin false ⟨fun _ => by rw [hr]; simp, fun e => by omega, fun e => by omega⟩)
          | true =>
            rw [if_neg (show ¬ true = false by decide)]
            exact next 1 true rfl (fin true ⟨fun _ => by rw [hl, hr]; simp, fun e => by omega, fun e => by omega⟩)
      · rw [if_neg c7]
        by_cases c8 : kd p = 8
        · rw [if_pos c8]
          cases hl : sB fl (lA b j 4) (lf p) with
          | true =>
            rw [if_neg (show ¬ true = false by decide)]
            exact next 1 true rfl (fin true ⟨fun e => by omega, fun _ => by rw [hl]; simp, fun e => by omega⟩)
          | false =>
            rw [if_pos (rfl : false = false)]
            cases hr : sB fl (lA b j 4) (rt p) with
            | false =>
              rw [if_pos (rfl : false = false)]
              exact next 0 false rfl (fin false ⟨fun e => by omega, fun _ => by rw [hl, hr]; simp, fun e => by omega⟩)
            | true =>
              rw [if_neg (show ¬ true = false by decide)]
              exact next 1 true rfl (fin true ⟨fun e => by omega, fun _ => by rw [hr]; simp, fun e => by omega⟩)
        · rw [if_neg c8, hFp]
          cases hf : F p with
          | false =>
            rw [if_pos (rfl : false = false)]
            exact next 0 false rfl (fin false ⟨fun e => by omega, fun e => by omega, fun _ => by rw [hf]; simp⟩)
          | true =>
            rw [if_neg (show ¬ true = false by decide)]
            cases hl : sB fl (lA b j 4) (lf p) with
            | false =>
              rw [if_pos (rfl : false = false)]
              exact next 1 true rfl (fin true ⟨fun e => by omega, fun e => by omega, fun _ => by rw [hf, hl]; simp⟩)
            | true =>
              rw [if_neg (show ¬ true = false by decide)]
              cases hr : sB fl (lA b j 4) (rt p) with
              | false =>
                rw [if_pos (rfl : false = false)]
                exact next 0 false rfl (fin false ⟨fun e => by omega, fun e => by omega, fun _ => by rw [hl, hr]; simp⟩)
              | true =>
                rw [if_neg (show ¬ true = false by decide)]
                exact next 1 true rfl (fin true ⟨fun e => by omega, fun e => by omega, fun _ => by rw [hf, hr]; simp⟩)
end FIRST
