/-! TEXTS ARE READ: the class -/
def tgt (x : Nat) : Nat := if x = 6 then 4 else if x = 7 then 3 else if x = 8 then 2 else if x = 9 then 1 else 0
def PC (b : Nat) (ia fi : Nat → Nat → Int32) (rd : Nat → Nat) (rl : Nat) (wt : Nat → Nat) (wl op : Nat) : Prop := fi (b + 16) 3 = nI rl ∧ fi (b + 16) 5 = nI wl ∧ fi (b + 16) 6 = nI op ∧ (∀ j, j < rl → ia (b + 18) j = nI (rd j)) ∧ ∀ j, j < wl → ia (b + 19) j = nI (wt j)
def FC (b : Nat) (ia fi ia1 fi1 : Nat → Nat → Int32) : Prop := (∀ a : Nat, a ≠ b + 18 → a ≠ b + 19 → ia1 a = ia a) ∧ ∀ a j : Nat, a ≠ b + 16 ∨ j = 0 → fi1 a j = fi a j
section PARSEC
variable {b : Nat} {ia fi ia1 fi1 ia2 fi2 : Nat → Nat → Int32} {fl : Nat → Nat → Int64} {qa : Nat → Nat → Option Nat} {f : mmF} {rd wt : Nat → Nat} {rl wl op : Nat}
theorem FC.rf : FC b ia fi ia fi := ⟨fun _ _ _ => rfl, fun _ _ _ => rfl⟩
theorem FC.tr (h : FC b ia fi ia1 fi1) (h2 : FC b ia1 fi1 ia2 fi2) : FC b ia fi ia2 fi2 := ⟨fun a x y => (h2.1 a x y).trans (h.1 a x y), fun a j x => (h2.2 a j x).trans (h.2 a j x)⟩
theorem FC.one {v : Int32} {k : Nat} (hk : k ≠ 0) : FC b ia fi ia (u2 fi (b + 16) k v) := ⟨fun _ _ _ => rfl, fun a j h => by
  rcases h with h | h
  · exact u2_a _ _ h
  · exact u2_i _ _ (by omega)⟩
theorem c_tgt {x : Nat} (hx : x < 2 ^ 31) (μ : mmF) : f_X8_tightness (nI x) μ = some (nI (tgt x)) := by
  have q6 : (nI x = (6 : Int32)) = (x = 6) := propext (nI_eq (b := 6) hx (by decide))
  have q7 : (nI x = (7 : Int32)) = (x = 7) := propext (nI_eq (b := 7) hx (by decide))
  have q8 : (nI x = (8 : Int32)) = (x = 8) := propext (nI_eq (b := 8) hx (by decide))
  have q9 : (nI x = (9 : Int32)) = (x = 9) := propext (nI_eq (b := 9) hx (by decide))
  unfold f_X8_tightness tgt
  simp only [q6, q7, q8, q9]
  by_cases c6 : x = 6
  · rw [if_pos c6, if_pos c6]; rfl
  · rw [if_neg c6, if_neg c6]
    by_cases c7 : x = 7
    · rw [if_pos c7, if_pos c7]; rfl
    · rw [if_neg c7, if_neg c7]
      by_cases c8 : x = 8
      · rw [if_pos c8, if_pos c8]; rfl
      · rw [if_neg c8, if_neg c8]
        by_cases c9 : x = 9
        · rw [if_pos c9, if_pos c9]; rfl
        · rw [if_neg c9, if_neg c9]; rfl
theorem c_finish (h : PC b ia fi rd rl wt wl op) (hl : rl < 30) (x : Nat) : ∃ ia1 fi1 : Nat → Nat → Int32, f_X8_finish (b + 16) (nI x) (wr (SK b) ia fi fl qa f) = some (wr (SK b) ia1 fi1 fl qa f) ∧ PC b ia1 fi1 (upN rd rl x) (rl + 1) wt wl op ∧ FC b ia fi ia1 fi1 := by
  obtain ⟨h1, h2, h3, h4, h5⟩ := h
  have e : ¬ (30 : Int32) ≤ nI rl := nI_ge (b := 30) hl (by decide)
  refine ⟨u2 ia (b + 18) rl (nI x), u2 fi (b + 16) 3 (nI (rl + 1)), ?_, ⟨u2_s _ _ _ _, ?_, ?_, fun j hj => ?_, fun j hj => ?_⟩, fun a x y => u2_row _ _ x, (FC.one (ia := ia) (by decide)).2⟩
  · unfold f_X8_finish
    simp only [I_16_3, Option.bind_some, h1, if_neg e, R_16_2, sAn_18 hl, nI_1, sI_16_3]
  · rw [u2_i _ _ (by decide)]; exact h2
  · rw [u2_i _ _ (by decide)]; exact h3
  · by_cases hjl : j = rl
    · subst hjl; rw [u2_s, upN_s]
    · rw [u2_i _ _ hjl, upN_n _ hjl]; exact h4 j (by omega)
  · rw [u2_a _ _ (by omega)]; exact h5 j hj
theorem c_await (h : PC b ia fi rd rl wt wl op) (hl : wl < 30) (x : Nat) : ∃ ia1 fi1 : Nat → Nat → Int32, f_X8_await (b + 16) (nI x) (wr (SK b) ia fi fl qa f) = some (wr (SK b) ia1 fi1 fl qa f) ∧ PC b ia1 fi1 rd rl (upN wt wl x) (wl + 1) op ∧ FC b ia fi ia1 fi1 := by
  obtain ⟨h1, h2, h3, h4, h5⟩ := h
  have e : ¬ (30 : Int32) ≤ nI wl := nI_ge (b := 30) hl (by decide)
  refine ⟨u2 ia (b + 19) wl (nI x), u2 fi (b + 16) 5 (nI (wl + 1)), ?_, ⟨?_, u2_s _ _ _ _, ?_, fun j hj => ?_, fun j hj => ?_⟩, fun a x y => u2_row _ _ y, (FC.one (ia := ia) (by decide)).2⟩
  · unfold f_X8_await
    simp only [I_16_5, Option.bind_some, h2, if_neg e, R_16_4, sAn_19 hl, nI_1, sI_16_5]
  · rw [u2_i _ _ (by decide)]; exact h1
  · rw [u2_i _ _ (by decide)]; exact h3
  · rw [u2_a _ _ (by omega)]; exact h4 j hj
  · by_cases hjl : j = wl
    · subst hjl; rw [u2_s, upN_s]
    · rw [u2_i _ _ hjl, upN_n _ hjl]; exact h5 j (by omega)
theorem PC.wl5 (h : PC b ia fi rd rl wt wl op) {w : Nat} (hw : w ≤ wl) : PC b ia (u2 fi (b + 16) 5 (nI w)) rd rl wt w op := by
  obtain ⟨h1, h2, h3, h4, h5⟩ := h
  exact ⟨by rw [u2_i _ _ (by decide)]; exact h1, u2_s _ _ _ _, by rw [u2_i _ _ (by decide)]; exact h3, h4, fun j hj => h5 j (by omega)⟩
theorem PC.op6 (h : PC b ia fi rd rl wt wl op) (o : Nat) : PC b ia (u2 fi (b + 16) 6 (nI o)) rd rl wt wl o := by
  obtain ⟨h1, h2, h3, h4, h5⟩ := h
  exact ⟨by rw [u2_i _ _ (by decide)]; exact h1, by rw [u2_i _ _ (by decide)]; exact h2, u2_s _ _ _ _, h4, h5⟩
theorem c_settle_7 {o : Nat → Bool} {t : Nat} (ht31 : t < 2 ^ 31) (ht : ∀ x, 6 ≤ x → x ≤ 10 → (tgt x < t ↔ o x = false)) : ∀ (w q : Nat) (rd : Nat → Nat) (rl : Nat) (ia fi : Nat → Nat → Int32), PC b ia fi rd rl wt w op → rl + w ≤ 30 → (∀ j, j < w → 6 ≤ wt j ∧ wt j ≤ 10) → w + 1 < q → ∃ ia1 fi1 : Nat → Nat → Int32, f_X8_settle_7 q (b + 16) (nI t) (nI w + (-1 : Int32)) (wr (SK b) ia fi fl qa f) = some (wr (SK b) ia1 fi1 fl qa f) ∧ PC b ia1 fi1 (po o wt w rd rl).2.1 (po o wt w rd rl).2.2 wt (po o wt w rd rl).1 op ∧ FC b ia fi ia1 fi1 := by
  intro w
  induction w with
  | zero =>
    intro q rd rl ia fi h hl hr hq
    obtain ⟨q, rfl⟩ : ∃ k, q = k + 1 := ⟨q - 1, by omega⟩
    refine ⟨ia, fi, ?_, h, FC.rf⟩
    rw [f_X8_settle_7, if_pos (by decide)]
  | succ w ih =>
    intro q rd rl ia fi h hl hr hq
    obtain ⟨q, rfl⟩ : ∃ k, q = k + 1 := ⟨q - 1, by omega⟩
    obtain ⟨r1, r2⟩ := hr w (by omega)
    have hT := ht (wt w) r1 r2
    have htl : tgt (wt w) < 5 := by
      unfold tgt
      by_cases c6 : wt w = 6
      · rw [if_pos c6]; decide
      · rw [if_neg c6]
        by_cases c7 : wt w = 7
        · rw [if_pos c7]; decide
        · rw [if_neg c7]
          by_cases c8 : wt w = 8
          · rw [if_pos c8]; decide
          · rw [if_neg c8]
            by_cases c9 : wt w = 9
            · rw [if_pos c9]; decide
            · rw [if_neg c9]; decide
    rw [dec1, f_X8_settle_7, if_neg (nI_pos (by omega))]
    simp only [R_16_4, An_19 (show w < 30 by omega), Option.bind_some, h.2.2.2.2 w (by omega), c_tgt (show wt w < 2 ^ 31 by omega)]
    by_cases ho : o (wt w) = true
    · have e : po o wt (w + 1) rd rl = po o wt w (upN rd rl (wt w)) (rl + 1) := if_pos ho
      have hnt : ¬ nI (tgt (wt w)) < nI t := nI_nlt (Nat.not_lt.mp fun hx => by rw [hT.mp hx] at ho; cases ho) (by omega)
      obtain ⟨ia1, fi1, y1, y2, y3⟩ := c_finish (fl := fl) (qa := qa) (f := f) h (show rl < 30 by omega) (wt w)
      obtain ⟨ia2, fi2, z1, z2, z3⟩ := ih q (upN rd rl (wt w)) (rl + 1) ia1 (u2 fi1 (b + 16) 5 (nI w)) (y2.wl5 (by omega)) (by omega) (fun j hj => hr j (by omega)) (by omega)
      rw [if_neg hnt, e]
      simp only [ck_16, y1, Option.bind_some, sI_16_5]
      exact ⟨ia2, fi2, z1, z2, (y3.tr (FC.one (by decide))).tr z3⟩
    · have e : po o wt (w + 1) rd rl = (w + 1, rd, rl) := if_neg ho
      have ho2 : o (wt w) = false := by
        cases hx : o (wt w) with
        | true => exact absurd hx ho
        | false => rfl
      have hnt : nI (tgt (wt w)) < nI t := nI_lt (hT.mpr ho2) ht31
      rw [if_pos hnt, e]
      exact ⟨ia, fi, rfl, h, FC.rf⟩
theorem c_settle {o : Nat → Bool} {t : Nat} (ht31 : t < 2 ^ 31) (ht : ∀ x, 6 ≤ x → x ≤ 10 → (tgt x < t ↔ o x = false)) (h : PC b ia fi rd rl wt wl op) (hl : rl + wl ≤ 30) (hr : ∀ j, j < wl → 6 ≤ wt j ∧ wt j ≤ 10) : ∃ ia1 fi1 : Nat → Nat → Int32, f_X8_settle (b + 16) (nI t) (wr (SK b) ia fi fl qa f) = some (wr (SK b) ia1 fi1 fl qa f) ∧ PC b ia1 fi1 (po o wt wl rd rl).2.1 (po o wt wl rd rl).2.2 wt (po o wt wl rd rl).1 op ∧ FC b ia fi ia1 fi1 := by
  obtain ⟨q, hq⟩ := FU_1000
  obtain ⟨ia1, fi1, e, h1, h2⟩ := c_settle_7 (fl := fl) (qa := qa) (f := f) ht31 ht wl FU rd rl ia fi h hl hr (by omega)
  refine ⟨ia1, fi1, ?_, h1, h2⟩
  unfold f_X8_settle
  simp only [I_16_5, Option.bind_some, h.2.1, Int32.sub_eq_add_neg]
  exact e
theorem ht7 : ∀ x, 6 ≤ x → x ≤ 10 → (tgt x < 3 ↔ outs 7 x = false) := by
  intro x h1 h2
  obtain rfl | rfl | rfl | rfl | rfl : x = 6 ∨ x = 7 ∨ x = 8 ∨ x = 9 ∨ x = 10 := by omega
  all_goals decide
theorem ht8 : ∀ x, 6 ≤ x → x ≤ 10 → (tgt x < 2 ↔ outs 8 x = false) := by
  intro x h1 h2
  obtain rfl | rfl | rfl | rfl | rfl : x = 6 ∨ x = 7 ∨ x = 8 ∨ x = 9 ∨ x = 10 := by omega
  all_goals decide
theorem ht9 : ∀ x, 6 ≤ x → x ≤ 10 → (tgt x < 2 ↔ outs 9 x = false) := by
  intro x h1 h2
  obtain rfl | rfl | rfl | rfl | rfl : x = 6 ∨ x = 7 ∨ x = 8 ∨ x = 9 ∨ x = 10 := by omega
  all_goals decide
theorem ht10 : ∀ x, 6 ≤ x → x ≤ 10 → (tgt x < 1 ↔ outs 10 x = false) := by
  intro x h1 h2
  obtain rfl | rfl | rfl | rfl | rfl : x = 6 ∨ x = 7 ∨ x = 8 ∨ x = 9 ∨ x = 10 := by omega
  all_goals decide
/-- the state of the reader in the class's memory -/
abbrev PCP (b : Nat) (ia fi : Nat → Nat → Int32) (P : pS) : Prop := PC b ia fi P.1 P.2.1 P.2.2.1 P.2.2.2.1 P.2.2.2.2.1
theorem c_due {i s : Nat} {P : pS} (h : PCP b ia fi P) (w : WP i P) (hi : i < 30) (hd : P.2.2.2.2.2 = true) (hs : s < 2 ^ 31) : (stp s P = none ∧ f_X8_beginsPart (b + 16) (nI s) (wr (SK b) ia fi fl qa f) = some (0, wr (SK b) ia fi fl qa f)) ∨ ∃ (P1 : pS) (ia1 fi1 : Nat → Nat → Int32), stp s P = some P1 ∧ f_X8_beginsPart (b + 16) (nI s) (wr (SK b) ia fi fl qa f) = some (1, wr (SK b) ia1 fi1 fl qa f) ∧ PCP b ia1 fi1 P1 ∧ FC b ia fi ia1 fi1 ∧ P1.2.2.2.2.2 = decide (6 ≤ s) ∧ (s < 6 ∨ s = 6 ∨ s = 10) := by
  obtain ⟨rd, rl, wt, wl, op, due⟩ := P
  obtain ⟨h1, h2, h3, h4, h5, h6⟩ := w
  dsimp only at h1 h2 h3 h4 h5 h6 hd
  replace h : PC b ia fi rd rl wt wl op := h
  subst hd
  unfold stp
  dsimp only
  rw [if_pos rfl]
  by_cases c6 : s < 6
  · obtain ⟨ia1, fi1, y1, y2, y3⟩ := c_finish (fl := fl) (qa := qa) (f := f) h (show rl < 30 by omega) s
    rw [if_pos c6]
    refine Or.inr ⟨_, ia1, fi1, rfl, ?_, y2, y3, (decide_eq_false (by omega)).symm, Or.inl c6⟩
    unfold f_X8_beginsPart
    rw [if_neg (show ¬ (5 : Int32) < nI s from nI_nlt (a := 5) (b := s) (by omega) (by omega))]
    simp only [ck_16, y1, Option.bind_some]
  · have e5 : (5 : Int32) < nI s := nI_lt (a := 5) (by omega) hs
    have q6 : (nI s = (6 : Int32)) = (s = 6) := propext (nI_eq (b := 6) hs (by decide))
    have q10 : (nI s = (10 : Int32)) = (s = 10) := propext (nI_eq (b := 10) hs (by decide))
    rw [if_neg c6]
    by_cases c7 : s = 6
    · obtain ⟨ia1, fi1, y1, y2, y3⟩ := c_await (fl := fl) (qa := qa) (f := f) h (show wl < 30 by omega) s
      subst c7
      rw [if_pos rfl]
      refine Or.inr ⟨_, ia1, fi1, rfl, ?_, y2, y3, rfl, Or.inr (Or.inl rfl)⟩
      unfold f_X8_beginsPart f_X8_beginsPart_44
      rw [if_pos e5, if_neg (by decide), if_pos (by decide)]
      simp only [ck_16, y1, Option.bind_some]
    · rw [if_neg c7]
      by_cases c10 : s = 10
      · subst c10
        by_cases c : op < 6
        · obtain ⟨ia1, fi1, y1, y2, y3⟩ := c_await (fl := fl) (qa := qa) (f := f) (h.op6 (op + 1)) (show wl < 30 by omega) 10
          rw [if_pos ⟨rfl, c⟩]
          refine Or.inr ⟨_, ia1, fi1, rfl, ?_, y2, (FC.one (by decide)).tr y3, rfl, Or.inr (Or.inr rfl)⟩
          unfold f_X8_beginsPart
          rw [if_pos e5, if_pos (by decide)]
          simp only [I_16_6, Option.bind_some, h.2.2.1, if_neg (show ¬ (6 : Int32) ≤ nI op from nI_ge (b := 6) c (by decide)), nI_1, sI_16_6, ck_16, y1]
        · rw [if_neg (fun h => c h.2)]
          refine Or.inl ⟨rfl, ?_⟩
          unfold f_X8_beginsPart f_X8_beginsPart_44
          rw [if_pos e5, if_pos (by decide)]
          simp only [I_16_6, Option.bind_some, h.2.2.1, if_pos (show (6 : Int32) ≤ nI op from nI_le (a := 6) (by omega) (by omega))]
          rw [if_neg (by decide)]
      · rw [if_neg (fun h => c10 h.1)]
        refine Or.inl ⟨rfl, ?_⟩
        unfold f_X8_beginsPart f_X8_beginsPart_44
        rw [if_pos e5, if_neg (fun e => c10 (q10.mp e)), if_neg (fun e => c7 (q6.mp e))]
theorem c_behind {i s : Nat} {P : pS} (h : PCP b ia fi P) (w : WP i P) (hi : i < 30) (hd : P.2.2.2.2.2 = false) (hs : s < 2 ^ 31) : (stp s P = none ∧ f_X8_goesOn (b + 16) (nI s) (wr (SK b) ia fi fl qa f) = some (0, wr (SK b) ia fi fl qa f)) ∨ ∃ (P1 : pS) (ia1 fi1 : Nat → Nat → Int32), stp s P = some P1 ∧ f_X8_goesOn (b + 16) (nI s) (wr (SK b) ia fi fl qa f) = some (1, wr (SK b) ia1 fi1 fl qa f) ∧ PCP b ia1 fi1 P1 ∧ FC b ia fi ia1 fi1 ∧ P1.2.2.2.2.2 = decide (s ≠ 11) ∧ (s = 11 ∨ (7 ≤ s ∧ s ≤ 9)) := by
  obtain ⟨rd, rl, wt, wl, op, due⟩ := P
  have w' := w
  obtain ⟨h1, h2, h3, h4, h5, h6⟩ := w
  dsimp only at h1 h2 h3 h4 h5 h6 hd
  replace h : PC b ia fi rd rl wt wl op := h
  subst hd
  rw [if_neg (by decide)] at h2
  have q7 : (nI s = (7 : Int32)) = (s = 7) := propext (nI_eq (b := 7) hs (by decide))
  have q8 : (nI s = (8 : Int32)) = (s = 8) := propext (nI_eq (b := 8) hs (by decide))
  have q9 : (nI s = (9 : Int32)) = (s = 9) := propext (nI_eq (b := 9) hs (by decide))
  have q11 : (nI s = (11 : Int32)) = (s = 11) := propext (nI_eq (b := 11) hs (by decide))
  -- signs of two parts
  have two : ∀ t : Nat, t < 2 ^ 31 → (∀ x, 6 ≤ x → x ≤ 10 → (tgt x < t ↔ outs s x = false)) → ∃ (ia1 fi1 : Nat → Nat → Int32), f_X8_goesOn_81 (b + 16) (nI s) (b + 16) (nI t) (wr (SK b) ia fi fl qa f) = some (1, wr (SK b) ia1 fi1 fl qa f) ∧ PC b ia1 fi1 (po (outs s) wt wl rd rl).2.1 (po (outs s) wt wl rd rl).2.2 (upN wt (po (outs s) wt wl rd rl).1 s) ((po (outs s) wt wl rd rl).1 + 1) op ∧ FC b ia fi ia1 fi1 := by
    intro t ht31 ht
    obtain ⟨ia1, fi1, y1, y2, y3⟩ := c_settle (fl := fl) (qa := qa) (f := f) ht31 ht h (by omega) h4
    obtain ⟨a1, a2, a3, a4, a5, a6⟩ := po_ok (o := outs s) (fun x hx => outs_lt hx) wl rd rl (fun j hj => (h4 j hj).1) h1 h2
    obtain ⟨ia2, fi2, z1, z2, z3⟩ := c_await (fl := fl) (qa := qa) (f := f) y2 (show (po (outs s) wt wl rd rl).1 < 30 by omega) s
    refine ⟨ia2, fi2, ?_, z2, y3.tr z3⟩
    unfold f_X8_goesOn_81
    simp only [ck_16, y1, z1, Option.bind_some]
  unfold stp
  dsimp only
  rw [if_neg (by decide)]
  by_cases c11 : s = 11 ∧ 0 < op
  · obtain ⟨c11, hop⟩ := c11
    subst c11
    obtain ⟨ia1, fi1, y1, y2, y3⟩ := c_settle (fl := fl) (qa := qa) (f := f) (by decide) ht10 h (by omega) h4
    obtain ⟨a1, a2, a3, a4, a5, a6⟩ := po_ok (o := outs 10) (fun x hx => outs_lt hx) wl rd rl (fun j hj => (h4 j hj).1) h1 h2
    have hpos : (po (outs 10) wt wl rd rl).1 ≠ 0 := fun e0 => by
      rw [e0] at a5
      have : nc wt 0 = 0 := rfl
      omega
    rw [if_pos ⟨rfl, hop⟩]
    refine Or.inr ⟨_, ia1, _, rfl, ?_, ((y2.op6 (op - 1)).wl5 (w := (po (outs 10) wt wl rd rl).1 - 1) (by omega)), (y3.tr (FC.one (by decide))).tr (FC.one (by decide)), rfl, Or.inl rfl⟩
    unfold f_X8_goesOn
    rw [if_pos (show nI 11 = (11 : Int32) from rfl)]
    simp only [I_16_6, Option.bind_some, h.2.2.1, if_neg (show ¬ nI op ≤ (0 : Int32) from nI_ge (a := 0) hop (by omega)), ck_16]
    rw [show (1 : Int32) = nI 1 from rfl, y1]
    simp only [I_16_6, Option.bind_some, y2.2.2.1]
    rw [show nI op - nI 1 = nI (op - 1) from pk_sub (by omega), sI_16_6]
    simp only [I_16_5, Option.bind_some]
    rw [u2_i _ _ (by decide), y2.2.1]
    rw [show (nI 1 : Int32) = 1 from rfl, mx1 (by omega) (by omega), sI_16_5]
    simp only [Option.bind_some]
  · rw [if_neg c11]
    have e0 : f_X8_goesOn (b + 16) (nI s) (wr (SK b) ia fi fl qa f) = f_X8_goesOn_44 (b + 16) (nI s) (wr (SK b) ia fi fl qa f) := by
      unfold f_X8_goesOn
      by_cases c : s = 11
      · rw [if_pos (q11.mpr c)]
        have hop : op = 0 := by
          have : ¬ 0 < op := fun h => c11 ⟨c, h⟩
          omega
        simp only [I_16_6, Option.bind_some, h.2.2.1, hop]
        rw [if_pos (by decide)]
      · rw [if_neg (fun e => c (q11.mp e))]
    rw [e0]
    by_cases c7 : 7 ≤ s ∧ s ≤ 9
    · rw [if_pos c7]
      obtain rfl | rfl | rfl : s = 7 ∨ s = 8 ∨ s = 9 := by omega
      · obtain ⟨ia1, fi1, y1, y2, y3⟩ := two 3 (by decide) ht7
        refine Or.inr ⟨_, ia1, fi1, rfl, ?_, y2, y3, rfl, Or.inr (by decide)⟩
        unfold f_X8_goesOn_44 f_X8_goesOn_62
        rw [if_pos (by decide), if_neg (by decide), c_tgt (x := 7) (by decide)]
        exact y1
      · obtain ⟨ia1, fi1, y1, y2, y3⟩ := two 2 (by decide) ht8
        refine Or.inr ⟨_, ia1, fi1, rfl, ?_, y2, y3, rfl, Or.inr (by decide)⟩
        unfold f_X8_goesOn_44 f_X8_goesOn_62
        rw [if_neg (by decide), if_pos (by decide), if_neg (by decide), c_tgt (x := 8) (by decide)]
        exact y1
      · obtain ⟨ia1, fi1, y1, y2, y3⟩ := two 2 (by decide) ht9
        refine Or.inr ⟨_, ia1, fi1, rfl, ?_, y2, y3, rfl, Or.inr (by decide)⟩
        unfold f_X8_goesOn_44 f_X8_goesOn_62
        rw [if_neg (by decide), if_neg (by decide), if_pos (by decide), if_pos (by decide), show (8 : Int32) = nI 8 from rfl, c_tgt (x := 8) (by decide)]
        exact y1
    · rw [if_neg c7]
      refine Or.inl ⟨rfl, ?_⟩
      unfold f_X8_goesOn_44
      rw [if_neg (fun e => c7 (by rw [q7.mp e]; decide)), if_neg (fun e => c7 (by rw [q8.mp e]; decide)), if_neg (fun e => c7 (by rw [q9.mp e]; decide))]
end PARSEC
