/-! TEXTS ARE READ: the reference -/
theorem sgn_all (c : Nat) : (c = 38 ∧ sgn c = 7) ∨ (c = 40 ∧ sgn c = 10) ∨ (c = 41 ∧ sgn c = 11) ∨ (c = 62 ∧ sgn c = 9) ∨ (c = 70 ∧ sgn c = 5) ∨ (c = 84 ∧ sgn c = 4) ∨ (c = 97 ∧ sgn c = 0) ∨ (c = 98 ∧ sgn c = 1) ∨ (c = 99 ∧ sgn c = 2) ∨ (c = 100 ∧ sgn c = 3) ∨ (c = 124 ∧ sgn c = 8) ∨ (c = 126 ∧ sgn c = 6) ∨ (sgn c = 12 ∧ c ≠ 38 ∧ c ≠ 40 ∧ c ≠ 41 ∧ c ≠ 62 ∧ c ≠ 70 ∧ c ≠ 84 ∧ c ≠ 97 ∧ c ≠ 98 ∧ c ≠ 99 ∧ c ≠ 100 ∧ c ≠ 124 ∧ c ≠ 126) := by
  by_cases h1 : c = 38
  · subst h1; exact Or.inl ⟨rfl, rfl⟩
  by_cases h2 : c = 40
  · subst h2; exact Or.inr (Or.inl ⟨rfl, rfl⟩)
  by_cases h3 : c = 41
  · subst h3; exact Or.inr (Or.inr (Or.inl ⟨rfl, rfl⟩))
  by_cases h4 : c = 62
  · subst h4; exact Or.inr (Or.inr (Or.inr (Or.inl ⟨rfl, rfl⟩)))
  by_cases h5 : c = 70
  · subst h5; exact Or.inr (Or.inr (Or.inr (Or.inr (Or.inl ⟨rfl, rfl⟩))))
  by_cases h6 : c = 84
  · subst h6; exact Or.inr (Or.inr (Or.inr (Or.inr (Or.inr (Or.inl ⟨rfl, rfl⟩)))))
  by_cases h7 : c = 97
  · subst h7; exact Or.inr (Or.inr (Or.inr (Or.inr (Or.inr (Or.inr (Or.inl ⟨rfl, rfl⟩))))))
  by_cases h8 : c = 98
  · subst h8; exact Or.inr (Or.inr (Or.inr (Or.inr (Or.inr (Or.inr (Or.inr (Or.inl ⟨rfl, rfl⟩)))))))
  by_cases h9 : c = 99
  · subst h9; exact Or.inr (Or.inr (Or.inr (Or.inr (Or.inr (Or.inr (Or.inr (Or.inr (Or.inl ⟨rfl, rfl⟩))))))))
  by_cases h10 : c = 100
  · subst h10; exact Or.inr (Or.inr (Or.inr (Or.inr (Or.inr (Or.inr (Or.inr (Or.inr (Or.inr (Or.inl ⟨rfl, rfl⟩)))))))))
  by_cases h11 : c = 124
  · subst h11; exact Or.inr (Or.inr (Or.inr (Or.inr (Or.inr (Or.inr (Or.inr (Or.inr (Or.inr (Or.inr (Or.inl ⟨rfl, rfl⟩))))))))))
  by_cases h12 : c = 126
  · subst h12; exact Or.inr (Or.inr (Or.inr (Or.inr (Or.inr (Or.inr (Or.inr (Or.inr (Or.inr (Or.inr (Or.inr (Or.inl ⟨rfl, rfl⟩)))))))))))
  refine Or.inr (Or.inr (Or.inr (Or.inr (Or.inr (Or.inr (Or.inr (Or.inr (Or.inr (Or.inr (Or.inr (Or.inr ⟨?_, h1, h2, h3, h4, h5, h6, h7, h8, h9, h10, h11, h12⟩)))))))))))
  unfold sgn
  rw [if_neg h1, if_neg h2, if_neg h3, if_neg h4, if_neg h5, if_neg h6, if_neg h7, if_neg h8, if_neg h9, if_neg h10, if_neg h11, if_neg h12]
theorem m_operand {c : Nat} (hc : c < 65536) (μ : mmF) : f_X10_operand (nI c) μ = some (if sgn c < 6 then nI (sgn c) else -5) := by
  rcases sgn_all c with ⟨rfl, h⟩ | ⟨rfl, h⟩ | ⟨rfl, h⟩ | ⟨rfl, h⟩ | ⟨rfl, h⟩ | ⟨rfl, h⟩ | ⟨rfl, h⟩ | ⟨rfl, h⟩ | ⟨rfl, h⟩ | ⟨rfl, h⟩ | ⟨rfl, h⟩ | ⟨rfl, h⟩ | ⟨h, g1, g2, g3, g4, g5, g6, g7, g8, g9, g10, g11, g12⟩
  all_goals rw [h]
  all_goals try (unfold f_X10_operand f_X10_operand_19; decide +kernel)
  have q84 : ¬ nI c = (84 : Int32) := fun e => g6 ((nI_eq (b := 84) (by omega) (by decide)).mp e)
  have q70 : ¬ nI c = (70 : Int32) := fun e => g5 ((nI_eq (b := 70) (by omega) (by decide)).mp e)
  have e19 : f_X10_operand_19 μ (nI c) = some (-5) := by
    unfold f_X10_operand_19
    rw [if_neg q84, if_neg q70]
  unfold f_X10_operand
  rw [if_neg (show ¬ (12 : Nat) < 6 by decide), e19]
  by_cases h97 : c < 97
  · rw [if_pos (show nI c < (97 : Int32) from nI_lt (b := 97) h97 (by decide))]
  · rw [if_neg (show ¬ nI c < (97 : Int32) from nI_nlt (b := 97) (by omega) (by omega)), if_pos (show (100 : Int32) < nI c from nI_lt (a := 100) (by omega) (by omega))]
theorem m_operator {c : Nat} (hc : c < 65536) (μ : mmF) : f_X10_operator (nI c) μ = some (if 7 ≤ sgn c ∧ sgn c ≤ 9 then nI (sgn c) else -5) := by
  rcases sgn_all c with ⟨rfl, h⟩ | ⟨rfl, h⟩ | ⟨rfl, h⟩ | ⟨rfl, h⟩ | ⟨rfl, h⟩ | ⟨rfl, h⟩ | ⟨rfl, h⟩ | ⟨rfl, h⟩ | ⟨rfl, h⟩ | ⟨rfl, h⟩ | ⟨rfl, h⟩ | ⟨rfl, h⟩ | ⟨h, g1, g2, g3, g4, g5, g6, g7, g8, g9, g10, g11, g12⟩
  all_goals rw [h]
  all_goals try (unfold f_X10_operator; decide +kernel)
  have q1 : ¬ nI c = (38 : Int32) := fun e => g1 ((nI_eq (b := 38) (by omega) (by decide)).mp e)
  have q2 : ¬ nI c = (124 : Int32) := fun e => g11 ((nI_eq (b := 124) (by omega) (by decide)).mp e)
  have q3 : ¬ nI c = (62 : Int32) := fun e => g4 ((nI_eq (b := 62) (by omega) (by decide)).mp e)
  unfold f_X10_operator
  rw [if_neg q1, if_neg q2, if_neg q3, if_neg (show ¬ (7 ≤ (12 : Nat) ∧ (12 : Nat) ≤ 9) by decide)]
def PM (b : Nat) (ia fi : Nat → Nat → Int32) (rd : Nat → Nat) (rl : Nat) (wt : Nat → Nat) (wl : Nat) : Prop := fi (b + 83) 11 = nI rl ∧ fi (b + 83) 13 = nI wl ∧ (∀ j, j < rl → ia (b + 90) j = nI (rd j)) ∧ ∀ j, j < wl → ia (b + 91) j = nI (wt j)
def FM (b : Nat) (ia fi ia1 fi1 : Nat → Nat → Int32) : Prop := (∀ a : Nat, a ≠ b + 90 → a ≠ b + 91 → ia1 a = ia a) ∧ ∀ a j : Nat, a ≠ b + 83 ∨ (j ≠ 11 ∧ j ≠ 13) → fi1 a j = fi a j
section PARSEM
variable {b : Nat} {ia fi ia1 fi1 ia2 fi2 : Nat → Nat → Int32} {fl : Nat → Nat → Int64} {qa : Nat → Nat → Option Nat} {f : mmF} {rd wt : Nat → Nat} {rl wl : Nat}
theorem FM.rf : FM b ia fi ia fi := ⟨fun _ _ _ => rfl, fun _ _ _ => rfl⟩
theorem FM.tr (h : FM b ia fi ia1 fi1) (h2 : FM b ia1 fi1 ia2 fi2) : FM b ia fi ia2 fi2 := ⟨fun a x y => (h2.1 a x y).trans (h.1 a x y), fun a j x => (h2.2 a j x).trans (h.2 a j x)⟩
theorem FM.one {v : Int32} {k : Nat} (hk : k = 11 ∨ k = 13) : FM b ia fi ia (u2 fi (b + 83) k v) := ⟨fun _ _ _ => rfl, fun a j h => by
  rcases h with h | h
  · exact u2_a _ _ h
  · exact u2_i _ _ (by omega)⟩
theorem m_putsP (h : PM b ia fi rd rl wt wl) (hl : rl < 31) (x : Nat) : ∃ ia1 fi1 : Nat → Nat → Int32, f_X10_puts (b + 83) (nI x) (wr (SK b) ia fi fl qa f) = some (wr (SK b) ia1 fi1 fl qa f) ∧ PM b ia1 fi1 (upN rd rl x) (rl + 1) wt wl ∧ FM b ia fi ia1 fi1 := by
  obtain ⟨h1, h2, h4, h5⟩ := h
  refine ⟨_, _, m_puts h1 hl, ⟨u2_s _ _ _ _, ?_, fun j hj => ?_, fun j hj => ?_⟩, fun a x y => u2_row _ _ x, (FM.one (ia := ia) (Or.inl rfl)).2⟩
  · rw [u2_i _ _ (by decide)]; exact h2
  · by_cases hjl : j = rl
    · subst hjl; rw [u2_s, upN_s]
    · rw [u2_i _ _ hjl, upN_n _ hjl]; exact h4 j (by omega)
  · rw [u2_a _ _ (by omega)]; exact h5 j hj
theorem m_waits (h : PM b ia fi rd rl wt wl) (hl : wl < 31) (x : Nat) : ∃ ia1 fi1 : Nat → Nat → Int32, f_X10_waitsThen (b + 83) (nI x) (wr (SK b) ia fi fl qa f) = some (wr (SK b) ia1 fi1 fl qa f) ∧ PM b ia1 fi1 rd rl (upN wt wl x) (wl + 1) ∧ FM b ia fi ia1 fi1 := by
  obtain ⟨h1, h2, h4, h5⟩ := h
  refine ⟨u2 ia (b + 91) wl (nI x), u2 fi (b + 83) 13 (nI (wl + 1)), ?_, ⟨?_, u2_s _ _ _ _, fun j hj => ?_, fun j hj => ?_⟩, fun a x y => u2_row _ _ y, (FM.one (ia := ia) (Or.inr rfl)).2⟩
  · unfold f_X10_waitsThen
    simp only [R_83_12, I_83_13, Option.bind_some, h2, sAn_91 hl, nI_1, sI_83_13]
  · rw [u2_i _ _ (by decide)]; exact h1
  · rw [u2_a _ _ (by omega)]; exact h4 j hj
  · by_cases hjl : j = wl
    · subst hjl; rw [u2_s, upN_s]
    · rw [u2_i _ _ hjl, upN_n _ hjl]; exact h5 j (by omega)
theorem PM.wl13 (h : PM b ia fi rd rl wt wl) {w : Nat} (hw : w ≤ wl) : PM b ia (u2 fi (b + 83) 13 (nI w)) rd rl wt w := by
  obtain ⟨h1, h2, h4, h5⟩ := h
  exact ⟨by rw [u2_i _ _ (by decide)]; exact h1, u2_s _ _ _ _, h4, fun j hj => h5 j (by omega)⟩
theorem m_comes_0 {s : Nat} (hs : s ≤ 10) : ∀ (w q : Nat) (rd : Nat → Nat) (rl : Nat) (ia fi : Nat → Nat → Int32), PM b ia fi rd rl wt w → rl + w ≤ 30 → (∀ j, j < w → 6 ≤ wt j ∧ wt j ≤ 10) → w < q → ∃ ia1 fi1 : Nat → Nat → Int32, f_X10_comesOut_0 q (b + 83) (nI s) (wr (SK b) ia fi fl qa f) = some (wr (SK b) ia1 fi1 fl qa f) ∧ PM b ia1 fi1 (po (outs s) wt w rd rl).2.1 (po (outs s) wt w rd rl).2.2 wt (po (outs s) wt w rd rl).1 ∧ FM b ia fi ia1 fi1 := by
  intro w
  induction w with
  | zero =>
    intro q rd rl ia fi h hl hr hq
    obtain ⟨q, rfl⟩ : ∃ k, q = k + 1 := ⟨q - 1, by omega⟩
    refine ⟨ia, fi, ?_, h, FM.rf⟩
    rw [f_X10_comesOut_0]
    simp only [I_83_13, Option.bind_some, h.2.1]
    rw [if_pos (by decide)]
  | succ w ih =>
    intro q rd rl ia fi h hl hr hq
    obtain ⟨q, rfl⟩ : ∃ k, q = k + 1 := ⟨q - 1, by omega⟩
    obtain ⟨r1, r2⟩ := hr w (by omega)
    have hw := h.2.2.2 w (by omega)
    have e0 : ¬ nI (w + 1) ≤ (0 : Int32) := nI_ge (a := 0) (by omega) (by omega)
    have e1 : nI (w + 1) - 1 = nI w := pk_sub (a := w + 1) (b := 1) (by omega)
    have qs : (nI (wt w) = nI s) = (wt w = s) := propext (nI_eq (by omega) (by omega))
    have q9 : (nI s = (9 : Int32)) = (s = 9) := propext (nI_eq (b := 9) (by omega) (by decide))
    -- one comes out
    have out : outs s (wt w) = true → ∃ ia1 fi1 : Nat → Nat → Int32, f_X10_comesOut_59 (fun a0 a1 a2 => f_X10_comesOut_0 q a0 a1 a2) (b + 83) (nI s) (wr (SK b) ia fi fl qa f) = some (wr (SK b) ia1 fi1 fl qa f) ∧ PM b ia1 fi1 (po (outs s) wt (w + 1) rd rl).2.1 (po (outs s) wt (w + 1) rd rl).2.2 wt (po (outs s) wt (w + 1) rd rl).1 ∧ FM b ia fi ia1 fi1 := by
      intro ho
      have e : po (outs s) wt (w + 1) rd rl = po (outs s) wt w (upN rd rl (wt w)) (rl + 1) := if_pos ho
      obtain ⟨ia1, fi1, y1, y2, y3⟩ := m_putsP (fl := fl) (qa := qa) (f := f) (h.wl13 (w := w) (by omega)) (show rl < 31 by omega) (wt w)
      obtain ⟨ia2, fi2, z1, z2, z3⟩ := ih q (upN rd rl (wt w)) (rl + 1) ia1 fi1 y2 (by omega) (fun j hj => hr j (by omega)) (by omega)
      rw [e]
      refine ⟨ia2, fi2, ?_, z2, ((FM.one (Or.inr rfl)).tr y3).tr z3⟩
      unfold f_X10_comesOut_59
      simp only [I_83_13, Option.bind_some, h.2.1, e1, sI_83_13, R_83_12, u2_s, An_91 (show w < 31 by omega), hw, ck_83, y1]
      exact z1
    have stay : outs s (wt w) = false → ∃ ia1 fi1 : Nat → Nat → Int32, some (wr (SK b) ia fi fl qa f) = some (wr (SK b) ia1 fi1 fl qa f) ∧ PM b ia1 fi1 (po (outs s) wt (w + 1) rd rl).2.1 (po (outs s) wt (w + 1) rd rl).2.2 wt (po (outs s) wt (w + 1) rd rl).1 ∧ FM b ia fi ia1 fi1 := by
      intro ho
      have e : po (outs s) wt (w + 1) rd rl = (w + 1, rd, rl) := if_neg (by rw [ho]; decide)
      rw [e]
      exact ⟨ia, fi, rfl, h, FM.rf⟩
    rw [f_X10_comesOut_0]
    simp only [I_83_13, Option.bind_some, h.2.1, if_neg e0, R_83_12, e1, An_91 (show w < 31 by omega), hw]
    by_cases c10 : wt w = 10
    · rw [if_pos (show (10 : Int32) ≤ nI (wt w) from nI_le (a := 10) (by omega) (by omega))]
      exact stay (by unfold outs; rw [c10]; rfl)
    · rw [if_neg (show ¬ (10 : Int32) ≤ nI (wt w) from nI_ge (b := 10) (by omega) (by decide))]
      have d10 : decide (wt w < 10) = true := decide_eq_true (by omega)
      by_cases cl : wt w < s
      · rw [if_pos (show nI (wt w) < nI s from nI_lt cl (by omega))]
        exact out (by unfold outs; rw [d10, decide_eq_true cl]; rfl)
      · rw [if_neg (show ¬ nI (wt w) < nI s from nI_nlt (by omega) (by omega))]
        by_cases ce : wt w = s
        · rw [if_pos (qs.mpr ce)]
          by_cases c9 : s = 9
          · rw [if_pos (q9.mpr c9)]
            exact stay (by unfold outs; rw [d10, decide_eq_false cl, decide_eq_true ce, decide_eq_false (show ¬ s ≠ 9 from fun h => h c9)]; rfl)
          · rw [if_neg (fun e => c9 (q9.mp e))]
            exact out (by unfold outs; rw [d10, decide_eq_false cl, decide_eq_true ce, decide_eq_true (show s ≠ 9 from c9)]; rfl)
        · rw [if_neg (fun e => ce (qs.mp e))]
          exact stay (by unfold outs; rw [d10, decide_eq_false cl, decide_eq_false ce]; rfl)
theorem m_comes {s : Nat} (hs : s ≤ 10) (h : PM b ia fi rd rl wt wl) (hl : rl + wl ≤ 30) (hr : ∀ j, j < wl → 6 ≤ wt j ∧ wt j ≤ 10) : ∃ ia1 fi1 : Nat → Nat → Int32, f_X10_comesOut (b + 83) (nI s) (wr (SK b) ia fi fl qa f) = some (wr (SK b) ia1 fi1 fl qa f) ∧ PM b ia1 fi1 (po (outs s) wt wl rd rl).2.1 (po (outs s) wt wl rd rl).2.2 wt (po (outs s) wt wl rd rl).1 ∧ FM b ia fi ia1 fi1 := by
  obtain ⟨q, hq⟩ := FU_1000
  exact m_comes_0 hs wl FU rd rl ia fi h hl hr (by omega)
end PARSEM
