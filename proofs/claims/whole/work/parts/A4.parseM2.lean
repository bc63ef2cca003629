/-! TEXTS ARE READ: the reference, whole -/
def FM2 (b : Nat) (ia fi ia1 fi1 : Nat → Nat → Int32) : Prop := (∀ a : Nat, a ≠ b + 90 → a ≠ b + 91 → ia1 a = ia a) ∧ ∀ a j : Nat, a ≠ b + 83 ∨ (j ≠ 9 ∧ j ≠ 11 ∧ j ≠ 13) → fi1 a j = fi a j
section PARSEM2
variable {b : Nat} {fl : Nat → Nat → Int64} {qa : Nat → Nat → Option Nat} {f : mmF} {tx : Nat → Nat} {len : Nat}
theorem FM2.rf {ia fi : Nat → Nat → Int32} : FM2 b ia fi ia fi := ⟨fun _ _ _ => rfl, fun _ _ _ => rfl⟩
theorem FM2.tr {ia fi ia1 fi1 ia2 fi2 : Nat → Nat → Int32} (h : FM2 b ia fi ia1 fi1) (h2 : FM2 b ia1 fi1 ia2 fi2) : FM2 b ia fi ia2 fi2 := ⟨fun a x y => (h2.1 a x y).trans (h.1 a x y), fun a j x => (h2.2 a j x).trans (h.2 a j x)⟩
theorem FM.to2 {ia fi ia1 fi1 : Nat → Nat → Int32} (h : FM b ia fi ia1 fi1) : FM2 b ia fi ia1 fi1 := ⟨h.1, fun a j x => h.2 a j (by omega)⟩
theorem FM2.one {ia fi : Nat → Nat → Int32} {v : Int32} : FM2 b ia fi ia (u2 fi (b + 83) 9 v) := ⟨fun _ _ _ => rfl, fun a j h => by
  rcases h with h | h
  · exact u2_a _ _ h
  · exact u2_i _ _ (by omega)⟩
abbrev PMP (b : Nat) (ia fi : Nat → Nat → Int32) (P : pS) : Prop := PM b ia fi P.1 P.2.1 P.2.2.1 P.2.2.2.1
def bF (P : pS) : Int32 := if P.2.2.2.2.2 = true then 0 else 1
theorem m_ic (hlen : len ≤ 30) (htx5 : ∀ j, j < len → tx j < 65536) : ∀ (m i q : Nat) (P : pS) (ia fi : Nat → Nat → Int32), i + m = len → m < q → WP i P → PMP b ia fi P → fi (b + 83) 9 = nI i → fi (b + 83) 7 = nI len → (∀ j, j < len → ia (b + 89) j = nI (tx j)) → ∃ ia1 fi1 : Nat → Nat → Int32, FM2 b ia fi ia1 fi1 ∧ ((∃ k, pr (fun j => sgn (tx j)) m i P = .inl k ∧ f_X10_isClaim_19 q (b + 83) (nI P.2.2.2.2.1) (bF P) (wr (SK b) ia fi fl qa f) = some (0, wr (SK b) ia1 fi1 fl qa f) ∧ fi1 (b + 83) 9 = nI k) ∨ ∃ (g : Nat → Nat) (k : Nat), pr (fun j => sgn (tx j)) m i P = .inr (g, k) ∧ f_X10_isClaim_19 q (b + 83) (nI P.2.2.2.2.1) (bF P) (wr (SK b) ia fi fl qa f) = some (1, wr (SK b) ia1 fi1 fl qa f) ∧ fi1 (b + 83) 11 = nI k ∧ ∀ j, j < k → ia1 (b + 90) j = nI (g j)) := by
  intro m
  induction m with
  | zero =>
    intro i q P ia fi hi hq w h h9 h7 htx
    obtain ⟨q, rfl⟩ : ∃ k, q = k + 1 := ⟨q - 1, by omega⟩
    have hil : i = len := by omega
    subst hil
    obtain ⟨rd, rl, wt, wl, op, due⟩ := P
    obtain ⟨w1, w2, w3, w4, w5, w6⟩ := w
    dsimp only at w1 w2 w3 w4 w5 w6
    replace h : PM b ia fi rd rl wt wl := h
    rw [f_X10_isClaim_19]
    unfold pr bF
    dsimp only
    simp only [I_83_9, I_83_7, Option.bind_some, h9, h7, if_pos (Int32.le_refl (nI i))]
    cases due with
    | true =>
      rw [if_pos (Or.inl rfl), if_pos rfl, if_pos rfl]
      exact ⟨ia, fi, FM2.rf, Or.inl ⟨i, rfl, rfl, h9⟩⟩
    | false =>
      simp only [Bool.false_eq_true, if_false, i10, false_or]
      by_cases ho : 0 < op
      · rw [if_pos ho, if_neg (show ¬ nI op ≤ (0 : Int32) from nI_ge (a := 0) ho (by omega))]
        exact ⟨ia, fi, FM2.rf, Or.inl ⟨i, rfl, rfl, h9⟩⟩
      · have ho0 : op = 0 := by omega
        rw [if_neg ho, if_pos (show nI op ≤ (0 : Int32) by rw [ho0]; decide)]
        obtain ⟨ia1, fi1, y1, y2, y3⟩ := m_comes (fl := fl) (qa := qa) (f := f) (s := 10) (by decide) h (by omega) w4
        refine ⟨ia1, fi1, y3.to2, Or.inr ⟨_, _, rfl, ?_, y2.1, y2.2.2.1⟩⟩
        rw [show (10 : Int32) = nI 10 from rfl]
        simp only [ck_83, y1, Option.bind_some]
  | succ m ih =>
    intro i q P ia fi hi hq w h h9 h7 htx
    obtain ⟨q, rfl⟩ : ∃ k, q = k + 1 := ⟨q - 1, by omega⟩
    have hil : i < len := by omega
    have hlt : ¬ nI len ≤ nI i := nI_ge hil (by omega)
    have hc := htx5 i hil
    obtain ⟨rd, rl, wt, wl, op, due⟩ := P
    have w' := w
    obtain ⟨w1, w2, w3, w4, w5, w6⟩ := w
    dsimp only at w1 w2 w3 w4 w5 w6
    replace h : PM b ia fi rd rl wt wl := h
    -- on with the next sign
    have next : ∀ (P1 : pS) (ia1 fi1 : Nat → Nat → Int32) (v2 : Int32), stp (sgn (tx i)) (rd, rl, wt, wl, op, due) = some P1 → PMP b ia1 fi1 P1 → FM b ia fi ia1 fi1 → v2 = bF P1 → ∃ ia2 fi2 : Nat → Nat → Int32, FM2 b ia fi ia2 fi2 ∧ ((∃ k, pr (fun j => sgn (tx j)) (m + 1) i (rd, rl, wt, wl, op, due) = .inl k ∧ f_X10_isClaim_171 (fun a0 a1 a2 a3 => f_X10_isClaim_19 q a0 a1 a2 a3) (b + 83) (nI P1.2.2.2.2.1) v2 (wr (SK b) ia1 fi1 fl qa f) = some (0, wr (SK b) ia2 fi2 fl qa f) ∧ fi2 (b + 83) 9 = nI k) ∨ ∃ (g : Nat → Nat) (k : Nat), pr (fun j => sgn (tx j)) (m + 1) i (rd, rl, wt, wl, op, due) = .inr (g, k) ∧ f_X10_isClaim_171 (fun a0 a1 a2 a3 => f_X10_isClaim_19 q a0 a1 a2 a3) (b + 83) (nI P1.2.2.2.2.1) v2 (wr (SK b) ia1 fi1 fl qa f) = some (1, wr (SK b) ia2 fi2 fl qa f) ∧ fi2 (b + 83) 11 = nI k ∧ ∀ j, j < k → ia2 (b + 90) j = nI (g j)) := by
      intro P1 ia1 fi1 v2 e hP hF hv
      have h9' : fi1 (b + 83) 9 = nI i := by rw [hF.2 _ _ (by omega)]; exact h9
      have hP2 : PMP b ia1 (u2 fi1 (b + 83) 9 (nI (i + 1))) P1 := ⟨by rw [u2_i _ _ (by decide)]; exact hP.1, by rw [u2_i _ _ (by decide)]; exact hP.2.1, hP.2.2⟩
      obtain ⟨ia2, fi2, z1, z2⟩ := ih (i + 1) q P1 ia1 (u2 fi1 (b + 83) 9 (nI (i + 1))) (by omega) (by omega) (stp_ok w' e) hP2 (u2_s _ _ _ _) (by rw [u2_i _ _ (by decide), hF.2 _ _ (by omega)]; exact h7) (fun j hj => by rw [hF.1 _ (by omega) (by omega)]; exact htx j hj)
      have ep : pr (fun j => sgn (tx j)) (m + 1) i (rd, rl, wt, wl, op, due) = pr (fun j => sgn (tx j)) m (i + 1) P1 := by rw [pr, e]
      have e171 : f_X10_isClaim_171 (fun a0 a1 a2 a3 => f_X10_isClaim_19 q a0 a1 a2 a3) (b + 83) (nI P1.2.2.2.2.1) v2 (wr (SK b) ia1 fi1 fl qa f) = f_X10_isClaim_19 q (b + 83) (nI P1.2.2.2.2.1) (bF P1) (wr (SK b) ia1 (u2 fi1 (b + 83) 9 (nI (i + 1))) fl qa f) := by
        unfold f_X10_isClaim_171
        simp only [I_83_9, Option.bind_some, h9', nI_1, sI_83_9, hv]
      rw [ep, e171]
      exact ⟨ia2, fi2, (hF.to2.tr FM2.one).tr z1, z2⟩
    have none : stp (sgn (tx i)) (rd, rl, wt, wl, op, due) = none → pr (fun j => sgn (tx j)) (m + 1) i (rd, rl, wt, wl, op, due) = .inl i := fun e => by rw [pr, e]
    have q126 : (nI (tx i) = (126 : Int32)) = (tx i = 126) := propext (nI_eq (b := 126) (by omega) (by decide))
    have q40 : (nI (tx i) = (40 : Int32)) = (tx i = 40) := propext (nI_eq (b := 40) (by omega) (by decide))
    have q41 : (nI (tx i) = (41 : Int32)) = (tx i = 41) := propext (nI_eq (b := 41) (by omega) (by decide))
    have hs126 : tx i = 126 ↔ sgn (tx i) = 6 := by
      rcases sgn_all (tx i) with h | h | h | h | h | h | h | h | h | h | h | h | h <;> omega
    have hs40 : tx i = 40 ↔ sgn (tx i) = 10 := by
      rcases sgn_all (tx i) with h | h | h | h | h | h | h | h | h | h | h | h | h <;> omega
    have hs41 : tx i = 41 ↔ sgn (tx i) = 11 := by
      rcases sgn_all (tx i) with h | h | h | h | h | h | h | h | h | h | h | h | h <;> omega
    rw [f_X10_isClaim_19]
    simp only [I_83_9, I_83_7, Option.bind_some, h9, h7, if_neg hlt, R_83_8, An_89 (show i < 30 by omega), htx i hil]
    cases due with
    | true =>
      rw [if_pos rfl] at w2
      have hb0 : bF (rd, rl, wt, wl, op, true) = 0 := rfl
      rw [hb0, if_pos rfl]
      -- a sign that stands alone, or a fault
      have alone : sgn (tx i) ≠ 6 → ¬ (sgn (tx i) = 10 ∧ op < 6) → ∃ ia2 fi2 : Nat → Nat → Int32, FM2 b ia fi ia2 fi2 ∧ ((∃ k, pr (fun j => sgn (tx j)) (m + 1) i (rd, rl, wt, wl, op, true) = .inl k ∧ f_X10_isClaim_147 (fun a0 a1 a2 a3 => f_X10_isClaim_19 q a0 a1 a2 a3) (b + 83) (nI op) (nI (tx i)) (wr (SK b) ia fi fl qa f) = some (0, wr (SK b) ia2 fi2 fl qa f) ∧ fi2 (b + 83) 9 = nI k) ∨ ∃ (g : Nat → Nat) (k : Nat), pr (fun j => sgn (tx j)) (m + 1) i (rd, rl, wt, wl, op, true) = .inr (g, k) ∧ f_X10_isClaim_147 (fun a0 a1 a2 a3 => f_X10_isClaim_19 q a0 a1 a2 a3) (b + 83) (nI op) (nI (tx i)) (wr (SK b) ia fi fl qa f) = some (1, wr (SK b) ia2 fi2 fl qa f) ∧ fi2 (b + 83) 11 = nI k ∧ ∀ j, j < k → ia2 (b + 90) j = nI (g j)) := by
        intro n6 n10
        unfold f_X10_isClaim_147
        simp only [m_operand hc, Option.bind_some]
        by_cases c6 : sgn (tx i) < 6
        · have e5 : ¬ nI (sgn (tx i)) = (-5 : Int32) := by
            have : ∀ k, k < 6 → ¬ nI k = (-5 : Int32) := by decide
            exact this _ c6
          obtain ⟨ia1, fi1, y1, y2, y3⟩ := m_putsP (fl := fl) (qa := qa) (f := f) h (show rl < 31 by omega) (sgn (tx i))
          simp only [if_pos c6, if_neg e5, ck_83, y1, Option.bind_some]
          exact next (upN rd rl (sgn (tx i)), rl + 1, wt, wl, op, false) ia1 fi1 1 (by
            unfold stp
            dsimp only
            rw [if_pos rfl, if_pos c6]) y2 y3 rfl
        · simp only [if_neg c6, if_true]
          exact ⟨ia, fi, FM2.rf, Or.inl ⟨i, none (by
            unfold stp
            dsimp only
            rw [if_pos rfl, if_neg c6, if_neg n6, if_neg n10]), rfl, h9⟩⟩
      by_cases c126 : tx i = 126
      · have s6 := hs126.mp c126
        rw [if_pos (q126.mpr c126)]
        obtain ⟨ia1, fi1, y1, y2, y3⟩ := m_waits (fl := fl) (qa := qa) (f := f) h (show wl < 31 by omega) 6
        rw [show (6 : Int32) = nI 6 from rfl]
        simp only [ck_83, y1, Option.bind_some]
        exact next (rd, rl, upN wt wl 6, wl + 1, op, true) ia1 fi1 0 (by
          unfold stp
          dsimp only
          rw [if_pos rfl, if_neg (by omega), if_pos s6]) y2 y3 rfl
      · have n6 : sgn (tx i) ≠ 6 := fun e => c126 (hs126.mpr e)
        rw [if_neg (fun e => c126 (q126.mp e))]
        by_cases c40 : tx i = 40
        · have s10 := hs40.mp c40
          rw [if_pos (q40.mpr c40)]
          by_cases co : op < 6
          · rw [if_neg (show ¬ (6 : Int32) ≤ nI op from nI_ge (b := 6) co (by decide))]
            obtain ⟨ia1, fi1, y1, y2, y3⟩ := m_waits (fl := fl) (qa := qa) (f := f) h (show wl < 31 by omega) 10
            rw [show (10 : Int32) = nI 10 from rfl]
            simp only [ck_83, y1, Option.bind_some, nI_1]
            exact next (rd, rl, upN wt wl 10, wl + 1, op + 1, true) ia1 fi1 0 (by
              unfold stp
              dsimp only
              rw [if_pos rfl, if_neg (by omega), if_neg n6, if_pos ⟨s10, co⟩]) y2 y3 rfl
          · rw [if_pos (show (6 : Int32) ≤ nI op from nI_le (a := 6) (by omega) (by omega))]
            exact alone n6 (fun h => co h.2)
        · rw [if_neg (fun e => c40 (q40.mp e))]
          exact alone n6 (fun h => c40 (hs40.mpr h.1))
    | false =>
      rw [if_neg (by decide)] at w2
      have hb1 : bF (rd, rl, wt, wl, op, false) = 1 := rfl
      rw [hb1, if_neg (by decide)]
      have two : ¬ (sgn (tx i) = 11 ∧ 0 < op) → ∃ ia2 fi2 : Nat → Nat → Int32, FM2 b ia fi ia2 fi2 ∧ ((∃ k, pr (fun j => sgn (tx j)) (m + 1) i (rd, rl, wt, wl, op, false) = .inl k ∧ f_X10_isClaim_76 (fun a0 a1 a2 a3 => f_X10_isClaim_19 q a0 a1 a2 a3) (b + 83) (nI op) (nI (tx i)) (wr (SK b) ia fi fl qa f) = some (0, wr (SK b) ia2 fi2 fl qa f) ∧ fi2 (b + 83) 9 = nI k) ∨ ∃ (g : Nat → Nat) (k : Nat), pr (fun j => sgn (tx j)) (m + 1) i (rd, rl, wt, wl, op, false) = .inr (g, k) ∧ f_X10_isClaim_76 (fun a0 a1 a2 a3 => f_X10_isClaim_19 q a0 a1 a2 a3) (b + 83) (nI op) (nI (tx i)) (wr (SK b) ia fi fl qa f) = some (1, wr (SK b) ia2 fi2 fl qa f) ∧ fi2 (b + 83) 11 = nI k ∧ ∀ j, j < k → ia2 (b + 90) j = nI (g j)) := by
        intro n11
        unfold f_X10_isClaim_76
        simp only [m_operator hc, Option.bind_some]
        by_cases c7 : 7 ≤ sgn (tx i) ∧ sgn (tx i) ≤ 9
        · have e5 : ¬ nI (sgn (tx i)) = (-5 : Int32) := by
            have : ∀ k, k < 10 → ¬ nI k = (-5 : Int32) := by decide
            exact this _ (by omega)
          obtain ⟨ia1, fi1, y1, y2, y3⟩ := m_comes (fl := fl) (qa := qa) (f := f) (s := sgn (tx i)) (by omega) h (by omega) w4
          obtain ⟨a1, a2, a3, a4, a5, a6⟩ := po_ok (o := outs (sgn (tx i))) (fun x hx => outs_lt hx) wl rd rl (fun j hj => (w4 j hj).1) w1 w2
          obtain ⟨ia2, fi2, z1, z2, z3⟩ := m_waits (fl := fl) (qa := qa) (f := f) y2 (show (po (outs (sgn (tx i))) wt wl rd rl).1 < 31 by omega) (sgn (tx i))
          simp only [if_pos c7, if_neg e5, ck_83, y1, z1, Option.bind_some]
          exact next ((po (outs (sgn (tx i))) wt wl rd rl).2.1, (po (outs (sgn (tx i))) wt wl rd rl).2.2, upN wt (po (outs (sgn (tx i))) wt wl rd rl).1 (sgn (tx i)), (po (outs (sgn (tx i))) wt wl rd rl).1 + 1, op, true) ia2 fi2 0 (by
            unfold stp
            dsimp only
            rw [if_neg (by decide), if_neg n11, if_pos c7]) z2 (y3.tr z3) rfl
        · simp only [if_neg c7, if_true]
          exact ⟨ia, fi, FM2.rf, Or.inl ⟨i, none (by
            unfold stp
            dsimp only
            rw [if_neg (by decide), if_neg n11, if_neg c7]), rfl, h9⟩⟩
      by_cases c41 : tx i = 41
      · have s11 := hs41.mp c41
        rw [if_pos (q41.mpr c41)]
        by_cases ho : 0 < op
        · rw [if_neg (show ¬ nI op ≤ (0 : Int32) from nI_ge (a := 0) ho (by omega))]
          obtain ⟨ia1, fi1, y1, y2, y3⟩ := m_comes (fl := fl) (qa := qa) (f := f) (s := 10) (by decide) h (by omega) w4
          obtain ⟨a1, a2, a3, a4, a5, a6⟩ := po_ok (o := outs 10) (fun x hx => outs_lt hx) wl rd rl (fun j hj => (w4 j hj).1) w1 w2
          have hpos : (po (outs 10) wt wl rd rl).1 ≠ 0 := fun e0 => by
            rw [e0] at a5
            have : nc wt 0 = 0 := rfl
            omega
          rw [show (10 : Int32) = nI 10 from rfl]
          simp only [ck_83, y1, Option.bind_some, I_83_13, y2.2.1, nsub1 (show 1 ≤ (po (outs 10) wt wl rd rl).1 by omega), sI_83_13, nadm1 (show 1 ≤ op by omega)]
          exact next ((po (outs 10) wt wl rd rl).2.1, (po (outs 10) wt wl rd rl).2.2, wt, (po (outs 10) wt wl rd rl).1 - 1, op - 1, false) ia1 (u2 fi1 (b + 83) 13 (nI ((po (outs 10) wt wl rd rl).1 - 1))) 1 (by
            unfold stp
            dsimp only
            rw [if_neg (by decide), if_pos ⟨s11, ho⟩]) (y2.wl13 (by omega)) (y3.tr (FM.one (Or.inr rfl))) rfl
        · rw [if_pos (show nI op ≤ (0 : Int32) by rw [show op = 0 by omega]; decide)]
          exact two (fun h => ho h.2)
      · rw [if_neg (fun e => c41 (q41.mp e))]
        exact two (fun h => c41 (hs41.mpr h.1))
theorem m_isClaim {ia fi : Nat → Nat → Int32} (hlen : len ≤ 30) (htx5 : ∀ j, j < len → tx j < 65536) (h7 : fi (b + 83) 7 = nI len) (htx : ∀ j, j < len → ia (b + 89) j = nI (tx j)) : ∃ ia1 fi1 : Nat → Nat → Int32, FM2 b ia fi ia1 fi1 ∧ ((∃ k, pr (fun j => sgn (tx j)) len 0 pS0 = .inl k ∧ f_X10_isClaim (b + 83) (wr (SK b) ia fi fl qa f) = some (0, wr (SK b) ia1 fi1 fl qa f) ∧ fi1 (b + 83) 9 = nI k) ∨ ∃ (g : Nat → Nat) (k : Nat), pr (fun j => sgn (tx j)) len 0 pS0 = .inr (g, k) ∧ f_X10_isClaim (b + 83) (wr (SK b) ia fi fl qa f) = some (1, wr (SK b) ia1 fi1 fl qa f) ∧ fi1 (b + 83) 11 = nI k ∧ ∀ j, j < k → ia1 (b + 90) j = nI (g j)) := by
  obtain ⟨q, hq⟩ := FU_1000
  have hF : FM2 b ia fi ia (u2 (u2 (u2 fi (b + 83) 11 0) (b + 83) 13 0) (b + 83) 9 0) := ((FM.one (ia := ia) (fi := fi) (Or.inl rfl)).tr (FM.one (Or.inr rfl))).to2.tr FM2.one
  obtain ⟨ia1, fi1, z1, z2⟩ := m_ic (fl := fl) (qa := qa) (f := f) hlen htx5 len 0 FU pS0 ia (u2 (u2 (u2 fi (b + 83) 11 0) (b + 83) 13 0) (b + 83) 9 0) (by omega) (by omega) WP0 ⟨by rw [u2_i _ _ (by decide), u2_i _ _ (by decide), u2_s]; rfl, by rw [u2_i _ _ (by decide), u2_s]; rfl, fun j hj => absurd hj (Nat.not_lt_zero _), fun j hj => absurd hj (Nat.not_lt_zero _)⟩ (u2_s _ _ _ _) (by rw [hF.2 _ _ (by omega)]; exact h7) htx
  have e : f_X10_isClaim (b + 83) (wr (SK b) ia fi fl qa f) = f_X10_isClaim_19 FU (b + 83) (nI pS0.2.2.2.2.1) (bF pS0) (wr (SK b) ia (u2 (u2 (u2 fi (b + 83) 11 0) (b + 83) 13 0) (b + 83) 9 0) fl qa f) := by
    unfold f_X10_isClaim
    simp only [sI_83_11, sI_83_13, sI_83_9, Option.bind_some]
    rfl
  rw [e]
  exact ⟨ia1, fi1, hF.tr z1, z2⟩
end PARSEM2
