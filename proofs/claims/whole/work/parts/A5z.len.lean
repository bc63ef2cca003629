/-! A TEXT IS AS LONG AS ITS CLAIM PRINTED -/
theorem lnP_ge {w t : Nat} {x : Nat × Nat} : x.1 ≤ lnP w t x := by
  unfold lnP
  split <;> omega
theorem lnP_top {w t : Nat} {x : Nat × Nat} : lnP w t x ≤ x.1 + w := by
  unfold lnP
  split <;> omega
theorem lnP_an {w t t1 : Nat} {x : Nat × Nat} (h : t ≤ t1) : lnP w t1 x ≤ lnP w t x := by
  unfold lnP
  split <;> split <;> omega
theorem lnP_pos {w t : Nat} {x : Nat × Nat} (h : x.2 ≤ t) : lnP w t x = x.1 := if_pos h
theorem stk_cg {g g1 : Nat → Nat} : ∀ i : Nat, (∀ j, j < i → g j = g1 j) → stk g i = stk g1 i
  | 0, _ => rfl
  | i + 1, h => by
    have e : ∀ g : Nat → Nat, stk g (i + 1) = if g i < 6 then (1, 0) :: stk g i else if g i = 6 then lnU 2 ((stk g i).headD (0, 0)) :: (stk g i).tail else lnB 2 (g i) ((stk g i).tail.headD (0, 0)) ((stk g i).headD (0, 0)) :: (stk g i).tail.tail := fun _ => rfl
    rw [e, e, h i (by omega), stk_cg i (fun j hj => h j (by omega))]
theorem stk_up (g : Nat → Nat) (l x : Nat) : stk (upN g l x) (l + 1) = if x < 6 then (1, 0) :: stk g l else if x = 6 then lnU 2 ((stk g l).headD (0, 0)) :: (stk g l).tail else lnB 2 x ((stk g l).tail.headD (0, 0)) ((stk g l).headD (0, 0)) :: (stk g l).tail.tail := by
  show (if upN g l x l < 6 then (1, 0) :: stk (upN g l x) l else if upN g l x l = 6 then lnU 2 ((stk (upN g l x) l).headD (0, 0)) :: (stk (upN g l x) l).tail else lnB 2 (upN g l x l) ((stk (upN g l x) l).tail.headD (0, 0)) ((stk (upN g l x) l).headD (0, 0)) :: (stk (upN g l x) l).tail.tail) = _
  rw [upN_s, stk_cg l (g1 := g) (fun j hj => upN_n _ (by omega))]
/-- how simple the sides of a sign must be -/
def lvL (s : Nat) : Nat := if s = 7 then 1 else 2
def lvR (x : Nat) : Nat := if x ≤ 7 then 0 else if x = 8 then 1 else 3
/-- the left sides of waiting signs -/
def chg (wt : Nat → Nat) : Nat → List (Nat × Nat) → Nat
  | 0, _ => 0
  | w + 1, st => if 7 ≤ wt w ∧ wt w < 10 then lnP 2 (lvL (wt w)) (st.headD (0, 0)) + chg wt w st.tail else chg wt w st
def owS (wt : Nat → Nat) (w : Nat) : Prop := ∀ j, j + 1 < w → wt (j + 1) = 10 ∨ wt (j + 1) - 6 ≤ lvR (wt j)
theorem outs_iff {s x : Nat} : outs s x = true ↔ x < 10 ∧ (x < s ∨ (x = s ∧ s ≠ 9)) := by
  simp only [outs, Bool.and_eq_true, Bool.or_eq_true, decide_eq_true_eq]
theorem chg_cg {wt wt1 : Nat → Nat} : ∀ (w : Nat) (st : List (Nat × Nat)), (∀ j, j < w → wt j = wt1 j) → chg wt w st = chg wt1 w st
  | 0, _, _ => rfl
  | w + 1, st, h => by
    have e : ∀ wt : Nat → Nat, chg wt (w + 1) st = if 7 ≤ wt w ∧ wt w < 10 then lnP 2 (lvL (wt w)) (st.headD (0, 0)) + chg wt w st.tail else chg wt w st := fun _ => rfl
    rw [e, e, h w (by omega), chg_cg w st.tail (fun j hj => h j (by omega)), chg_cg w st (fun j hj => h j (by omega))]
theorem chg_up (wt : Nat → Nat) (w x : Nat) (st : List (Nat × Nat)) : chg (upN wt w x) (w + 1) st = if 7 ≤ x ∧ x < 10 then lnP 2 (lvL x) (st.headD (0, 0)) + chg wt w st.tail else chg wt w st := by
  show (if 7 ≤ upN wt w x w ∧ upN wt w x w < 10 then lnP 2 (lvL (upN wt w x w)) (st.headD (0, 0)) + chg (upN wt w x) w st.tail else chg (upN wt w x) w st) = _
  rw [upN_s, chg_cg w st.tail (wt1 := wt) (fun j hj => upN_n _ (by omega)), chg_cg w st (wt1 := wt) (fun j hj => upN_n _ (by omega))]
theorem owS_up {wt : Nat → Nat} {w x : Nat} (h : owS wt w) (hx : w = 0 ∨ x = 10 ∨ x - 6 ≤ lvR (wt (w - 1))) : owS (upN wt w x) (w + 1) := by
  intro j hj
  by_cases e : j + 1 = w
  · subst e
    rw [upN_s, upN_n _ (by omega)]
    rw [Nat.add_sub_cancel] at hx
    rcases hx with hx | hx
    · omega
    · exact hx
  · rw [upN_n _ e, upN_n _ (by omega)]
    exact h j (by omega)
/-- signs come out: the claims' lengths stay within -/
theorem po_len {o : Nat → Bool} {wt : Nat → Nat} {B : Nat} (ho : ∀ x, o x = true → x < 10 ∧ x - 6 ≤ B) : ∀ (w : Nat) (rd : Nat → Nat) (rl T n : Nat), (∀ j, j < w → 6 ≤ wt j) → owS wt w → (w = 0 ∨ T ≤ lvR (wt (w - 1))) → T ≤ B → lnP 2 T ((stk rd rl).headD (0, 0)) + chg wt w (stk rd rl).tail + w ≤ n → ∃ T1, T1 ≤ B ∧ lnP 2 T1 ((stk (po o wt w rd rl).2.1 (po o wt w rd rl).2.2).headD (0, 0)) + chg wt (po o wt w rd rl).1 (stk (po o wt w rd rl).2.1 (po o wt w rd rl).2.2).tail + (po o wt w rd rl).1 ≤ n
  | 0, rd, rl, T, n, _, _, _, hB, h => ⟨T, hB, h⟩
  | w + 1, rd, rl, T, n, h6, hw, hT, hB, h => by
    by_cases c : o (wt w) = true
    · have e : po o wt (w + 1) rd rl = po o wt w (upN rd rl (wt w)) (rl + 1) := if_pos c
      obtain ⟨h10, hb⟩ := ho _ c
      have hx := h6 w (by omega)
      have hT : T ≤ lvR (wt w) := by
        rcases hT with hT | hT
        · omega
        · rw [Nat.add_sub_cancel] at hT; exact hT
      rw [e]
      refine po_len ho w _ _ (wt w - 6) n (fun j hj => h6 j (by omega)) (fun j hj => hw j (by omega)) ?_ hb ?_
      · by_cases c0 : w = 0
        · exact Or.inl c0
        · obtain ⟨v, rfl⟩ : ∃ v, w = v + 1 := ⟨w - 1, by omega⟩
          rw [Nat.add_sub_cancel]
          rcases hw v (by omega) with a | a
          · omega
          · exact Or.inr a
      · have an := lnP_an (w := 2) (x := (stk rd rl).headD (0, 0)) hT
        have ec : chg wt (w + 1) (stk rd rl).tail = if 7 ≤ wt w ∧ wt w < 10 then lnP 2 (lvL (wt w)) ((stk rd rl).tail.headD (0, 0)) + chg wt w (stk rd rl).tail.tail else chg wt w (stk rd rl).tail := rfl
        rw [ec] at h
        rw [stk_up, if_neg (by omega)]
        generalize (stk rd rl).headD (0, 0) = Y at *
        by_cases x6 : wt w = 6
        · rw [if_neg (by omega)] at h
          rw [if_pos x6, x6]
          rw [x6, show lvR 6 = 0 from rfl] at an
          have e0 : lnP 2 (6 - 6) (lnU 2 Y) = 1 + lnP 2 0 Y := lnP_pos (Nat.le_refl 0)
          show lnP 2 (6 - 6) (lnU 2 Y) + chg wt w (stk rd rl).tail + w ≤ n
          rw [e0]
          omega
        · rw [if_pos ⟨by omega, h10⟩] at h
          rw [if_neg x6]
          generalize (stk rd rl).tail.headD (0, 0) = X at *
          obtain e7 | e8 | e9 : wt w = 7 ∨ wt w = 8 ∨ wt w = 9 := by omega
          · rw [e7, show lvL 7 = 1 from rfl] at h
            rw [e7, show lvR 7 = 0 from rfl] at an
            rw [e7]
            have e0 : lnP 2 (7 - 6) (lnB 2 7 X Y) = lnP 2 1 X + 1 + lnP 2 0 Y := lnP_pos (Nat.le_refl 1)
            show lnP 2 (7 - 6) (lnB 2 7 X Y) + chg wt w (stk rd rl).tail.tail + w ≤ n
            rw [e0]
            omega
          · rw [e8, show lvL 8 = 2 from rfl] at h
            rw [e8, show lvR 8 = 1 from rfl] at an
            rw [e8]
            have e0 : lnP 2 (8 - 6) (lnB 2 8 X Y) = lnP 2 2 X + 1 + lnP 2 1 Y := lnP_pos (Nat.le_refl 2)
            show lnP 2 (8 - 6) (lnB 2 8 X Y) + chg wt w (stk rd rl).tail.tail + w ≤ n
            rw [e0]
            omega
          · rw [e9, show lvL 9 = 2 from rfl] at h
            rw [e9, show lvR 9 = 3 from rfl] at an
            rw [e9]
            have e0 : lnP 2 (9 - 6) (lnB 2 9 X Y) = lnP 2 2 X + 1 + lnP 2 3 Y := lnP_pos (Nat.le_refl 3)
            show lnP 2 (9 - 6) (lnB 2 9 X Y) + chg wt w (stk rd rl).tail.tail + w ≤ n
            rw [e0]
            omega
    · have e : po o wt (w + 1) rd rl = (w + 1, rd, rl) := if_neg c
      rw [e]
      exact ⟨T, hB, h⟩
/-- what the signs read so far leave of lengths -/
def WL (i : Nat) (P : pS) : Prop := owS P.2.2.1 P.2.2.2.1 ∧ (if P.2.2.2.2.2 = true then chg P.2.2.1 P.2.2.2.1 (stk P.1 P.2.1) else lnP 2 0 ((stk P.1 P.2.1).headD (0, 0)) + chg P.2.2.1 P.2.2.2.1 (stk P.1 P.2.1).tail) + P.2.2.2.1 ≤ i
theorem WL0 : WL 0 pS0 := ⟨fun j hj => absurd hj (Nat.not_lt_zero _), Nat.le_refl _⟩
theorem stp_len {i s : Nat} {P P1 : pS} (h : WP i P) (hl : WL i P) (e : stp s P = some P1) : WL (i + 1) P1 := by
  obtain ⟨rd, rl, wt, wl, op, due⟩ := P
  obtain ⟨h1, h2, h3, h4, h5, h6⟩ := h
  obtain ⟨l1, l2⟩ := hl
  dsimp only at h1 h2 h3 h4 h5 h6 l1 l2
  cases due with
  | true =>
    rw [if_pos rfl] at l2
    unfold stp at e
    dsimp only at e
    rw [if_pos rfl] at e
    by_cases c6 : s < 6
    · rw [if_pos c6] at e
      cases e
      refine ⟨l1, ?_⟩
      show (if false = true then _ else lnP 2 0 ((stk (upN rd rl s) (rl + 1)).headD (0, 0)) + chg wt wl (stk (upN rd rl s) (rl + 1)).tail) + wl ≤ i + 1
      rw [if_neg (by decide), stk_up, if_pos c6]
      show lnP 2 0 (1, 0) + chg wt wl (stk rd rl) + wl ≤ i + 1
      rw [show lnP 2 0 (1, 0) = 1 from rfl]
      omega
    · rw [if_neg c6] at e
      by_cases c7 : s = 6
      · rw [if_pos c7] at e
        cases e
        refine ⟨owS_up l1 (Or.inr (Or.inr (Nat.zero_le _))), ?_⟩
        show (if true = true then chg (upN wt wl 6) (wl + 1) (stk rd rl) else _) + (wl + 1) ≤ i + 1
        rw [if_pos rfl, chg_up, if_neg (by omega)]
        omega
      · rw [if_neg c7] at e
        by_cases c10 : s = 10 ∧ op < 6
        · rw [if_pos c10] at e
          cases e
          refine ⟨owS_up l1 (Or.inr (Or.inl rfl)), ?_⟩
          show (if true = true then chg (upN wt wl 10) (wl + 1) (stk rd rl) else _) + (wl + 1) ≤ i + 1
          rw [if_pos rfl, chg_up, if_neg (by omega)]
          omega
        · rw [if_neg c10] at e
          cases e
  | false =>
    rw [if_neg (by decide)] at h2
    rw [if_neg (by decide)] at l2
    unfold stp at e
    dsimp only at e
    rw [if_neg (by decide)] at e
    by_cases c11 : s = 11 ∧ 0 < op
    · rw [if_pos c11] at e
      cases e
      obtain ⟨a1, a2, a3, a4, a5, a6⟩ := po_ok (o := outs 10) (fun x hx => outs_lt hx) wl rd rl (fun j hj => (h4 j hj).1) h1 h2
      obtain ⟨T, _, hT⟩ := po_len (o := outs 10) (B := 3) (fun x hx => ⟨outs_lt hx, by have := outs_lt hx; omega⟩) wl rd rl 0 i (fun j hj => (h4 j hj).1) l1 (Or.inr (Nat.zero_le _)) (Nat.zero_le _) l2
      have hpos : (po (outs 10) wt wl rd rl).1 ≠ 0 := fun e0 => by
        rw [e0] at a5
        have : nc wt 0 = 0 := rfl
        omega
      obtain ⟨w', hw'⟩ : ∃ w', (po (outs 10) wt wl rd rl).1 = w' + 1 := ⟨(po (outs 10) wt wl rd rl).1 - 1, by omega⟩
      rw [hw', Nat.add_sub_cancel] at a6
      have ht : wt w' = 10 := by
        rcases a6 with a6 | a6
        · omega
        · have hr := h4 w' (by omega)
          by_cases h10 : wt w' = 10
          · exact h10
          · exfalso
            have : outs 10 (wt w') = true := outs_iff.mpr ⟨by omega, Or.inl (by omega)⟩
            rw [this] at a6
            cases a6
      refine ⟨fun j hj => l1 j (by have hj' : j + 1 < (po (outs 10) wt wl rd rl).1 - 1 := hj; omega), ?_⟩
      show (if false = true then _ else lnP 2 0 ((stk (po (outs 10) wt wl rd rl).2.1 (po (outs 10) wt wl rd rl).2.2).headD (0, 0)) + chg wt ((po (outs 10) wt wl rd rl).1 - 1) (stk (po (outs 10) wt wl rd rl).2.1 (po (outs 10) wt wl rd rl).2.2).tail) + ((po (outs 10) wt wl rd rl).1 - 1) ≤ i + 1
      rw [if_neg (by decide)]
      rw [hw'] at hT ⊢
      rw [Nat.add_sub_cancel]
      have ec : chg wt (w' + 1) (stk (po (outs 10) wt wl rd rl).2.1 (po (outs 10) wt wl rd rl).2.2).tail = chg wt w' (stk (po (outs 10) wt wl rd rl).2.1 (po (outs 10) wt wl rd rl).2.2).tail := if_neg (by omega)
      rw [ec] at hT
      have g1 := lnP_ge (w := 2) (t := T) (x := (stk (po (outs 10) wt wl rd rl).2.1 (po (outs 10) wt wl rd rl).2.2).headD (0, 0))
      have g2 := lnP_top (w := 2) (t := 0) (x := (stk (po (outs 10) wt wl rd rl).2.1 (po (outs 10) wt wl rd rl).2.2).headD (0, 0))
      omega
    · rw [if_neg c11] at e
      by_cases c7 : 7 ≤ s ∧ s ≤ 9
      · rw [if_pos c7] at e
        cases e
        obtain ⟨a1, a2, a3, a4, a5, a6⟩ := po_ok (o := outs s) (fun x hx => outs_lt hx) wl rd rl (fun j hj => (h4 j hj).1) h1 h2
        obtain ⟨T, hB, hT⟩ := po_len (o := outs s) (B := lvL s) (fun x hx => ⟨outs_lt hx, by
          have := outs_iff.mp hx
          unfold lvL
          split <;> omega⟩) wl rd rl 0 i (fun j hj => (h4 j hj).1) l1 (Or.inr (Nat.zero_le _)) (Nat.zero_le _) l2
        refine ⟨owS_up (fun j hj => l1 j (by omega)) ?_, ?_⟩
        · rcases a6 with a6 | a6
          · exact Or.inl a6
          · by_cases h0 : (po (outs s) wt wl rd rl).1 = 0
            · exact Or.inl h0
            · refine Or.inr (Or.inr ?_)
              have hr := h4 ((po (outs s) wt wl rd rl).1 - 1) (by omega)
              generalize wt ((po (outs s) wt wl rd rl).1 - 1) = x at *
              have hn : ¬ (x < 10 ∧ (x < s ∨ (x = s ∧ s ≠ 9))) := fun hh => by
                rw [outs_iff.mpr hh] at a6
                cases a6
              unfold lvR
              split
              · omega
              · split <;> omega
        · show (if true = true then chg (upN wt (po (outs s) wt wl rd rl).1 s) ((po (outs s) wt wl rd rl).1 + 1) (stk (po (outs s) wt wl rd rl).2.1 (po (outs s) wt wl rd rl).2.2) else _) + ((po (outs s) wt wl rd rl).1 + 1) ≤ i + 1
          rw [if_pos rfl, chg_up, if_pos ⟨c7.1, by omega⟩]
          have an := lnP_an (w := 2) (x := (stk (po (outs s) wt wl rd rl).2.1 (po (outs s) wt wl rd rl).2.2).headD (0, 0)) hB
          omega
      · rw [if_neg c7] at e
        cases e
theorem pr_ok {sg : Nat → Nat} : ∀ (m i : Nat) (P : pS), i + m ≤ 30 → WP i P → WL i P → (∀ k, pr sg m i P = .inl k → i ≤ k ∧ k ≤ i + m) ∧ ∀ g k, pr sg m i P = .inr (g, k) → VC k g
  | 0, i, P, hi, h, hl => by
    obtain ⟨rd, rl, wt, wl, op, due⟩ := P
    obtain ⟨h1, h2, h3, h4, h5, h6⟩ := h
    obtain ⟨l1, l2⟩ := hl
    dsimp only at h1 h2 h3 h4 h5 h6 l1 l2
    unfold pr
    dsimp only
    by_cases hd : due = true ∨ 0 < op
    · rw [if_pos hd]
      refine ⟨fun k hk => ?_, fun g k hk => ?_⟩
      · cases hk; omega
      · cases hk
    · rw [if_neg hd]
      refine ⟨fun k hk => ?_, fun g k hk => ?_⟩
      · cases hk
      · cases hk
        have hd2 : due = false := by
          cases due with
          | true => exact absurd (Or.inl rfl) hd
          | false => rfl
        have ho : op = 0 := by
          have : ¬ 0 < op := fun h => hd (Or.inr h)
          omega
        rw [hd2, if_neg (by decide)] at h2
        obtain ⟨a1, a2, a3, a4, a5, a6⟩ := po_ok (o := outs 10) (fun x hx => outs_lt hx) wl rd rl (fun j hj => (h4 j hj).1) h1 h2
        have hz : (po (outs 10) wt wl rd rl).1 = 0 := by
          rcases a6 with a6 | a6
          · exact a6
          · by_cases h0 : (po (outs 10) wt wl rd rl).1 = 0
            · exact h0
            · exfalso
              obtain ⟨w', hw'⟩ : ∃ w', (po (outs 10) wt wl rd rl).1 = w' + 1 := ⟨(po (outs 10) wt wl rd rl).1 - 1, by omega⟩
              rw [hw', Nat.add_sub_cancel] at a6
              have hr := h4 w' (by omega)
              have ht : wt w' = 10 := by
                by_cases h10 : wt w' = 10
                · exact h10
                · exfalso
                  have : outs 10 (wt w') = true := by
                    unfold outs
                    rw [decide_eq_true (show wt w' < 10 by omega)]
                    rfl
                  rw [this] at a6
                  cases a6
              rw [hw'] at a5
              have e2 : nc wt (w' + 1) = nc wt w' + 1 := by
                show nc wt w' + (if wt w' = 10 then 1 else 0) = _
                rw [if_pos ht]
              omega
        rw [hz] at a3 a4
        have n0 : nb wt 0 = 0 := rfl
        have hle := dpt_le (po (outs 10) wt wl rd rl).2.1 (po (outs 10) wt wl rd rl).2.2
        rw [hd2, if_neg (by decide)] at l2
        obtain ⟨T, _, hT⟩ := po_len (o := outs 10) (B := 3) (fun x hx => ⟨outs_lt hx, by have := outs_lt hx; omega⟩) wl rd rl 0 i (fun j hj => (h4 j hj).1) l1 (Or.inr (Nat.zero_le _)) (Nat.zero_le _) l2
        have hge := lnP_ge (w := 2) (t := T) (x := (stk (po (outs 10) wt wl rd rl).2.1 (po (outs 10) wt wl rd rl).2.2).headD (0, 0))
        exact ⟨by omega, by omega, a2, by omega, Or.inr (by omega)⟩
  | m + 1, i, P, hi, h, hl => by
    cases e : stp (sg i) P with
    | none =>
      have ep : pr sg (m + 1) i P = .inl i := by
        unfold pr
        rw [e]
      rw [ep]
      refine ⟨fun k hk => ?_, fun g k hk => ?_⟩
      · cases hk; omega
      · cases hk
    | some P1 =>
      have ep : pr sg (m + 1) i P = pr sg m (i + 1) P1 := by
        rw [pr, e]
      rw [ep]
      obtain ⟨b1, b2⟩ := pr_ok (sg := sg) m (i + 1) P1 (by omega) (stp_ok h e) (stp_len h hl e)
      exact ⟨fun k hk => by have := b1 k hk; omega, b2⟩
