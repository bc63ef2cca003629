/-! TEXTS ARE READ: the reader as numbers -/
/-- what comes out before a sign s; 10 is a bracket -/
def outs (s x : Nat) : Bool := decide (x < 10) && (decide (x < s) || (decide (x = s) && decide (s ≠ 9)))
/-- waiting signs come out, the last one first -/
def po (o : Nat → Bool) (wt : Nat → Nat) : Nat → (Nat → Nat) → Nat → Nat × (Nat → Nat) × Nat
  | 0, rd, rl => (0, rd, rl)
  | w + 1, rd, rl => if o (wt w) = true then po o wt w (upN rd rl (wt w)) (rl + 1) else (w + 1, rd, rl)
/-- of the waiting signs: those of two parts; brackets -/
def nb (wt : Nat → Nat) : Nat → Nat
  | 0 => 0
  | w + 1 => nb wt w + (if 7 ≤ wt w ∧ wt w < 10 then 1 else 0)
def nc (wt : Nat → Nat) : Nat → Nat
  | 0 => 0
  | w + 1 => nc wt w + (if wt w = 10 then 1 else 0)
theorem outs_lt {s x : Nat} (h : outs s x = true) : x < 10 := by
  unfold outs at h
  rw [Bool.and_eq_true] at h
  exact of_decide_eq_true h.1
theorem dpt_cg {g g1 : Nat → Nat} : ∀ i : Nat, (∀ j, j < i → g j = g1 j) → dpt g i = dpt g1 i
  | 0, _ => rfl
  | i + 1, h => by rw [dpt_s, dpt_s, h i (by omega), dpt_cg i (fun j hj => h j (by omega))]
theorem okp_cg {g g1 : Nat → Nat} {k : Nat} (h : okp g k) (e : ∀ j, j < k → g1 j = g j) : okp g1 k := by
  intro j hj
  rw [e j hj, dpt_cg j (fun i hi => e i (by omega))]
  exact h j hj
theorem dpt_up1 (g : Nat → Nat) (l x : Nat) : dpt (upN g l x) l = dpt g l := dpt_cg l (fun j hj => upN_n _ (by omega))
theorem dpt_up2 (g : Nat → Nat) (l x : Nat) : dpt (upN g l x) (l + 1) = if x < 6 then dpt g l + 1 else if x = 6 then dpt g l else dpt g l - 1 := by
  rw [dpt_s, upN_s, dpt_up1]
theorem okp_up {g : Nat → Nat} {l x : Nat} (h : okp g l) (hx : x < 10) (h6 : 6 ≤ x → 1 ≤ dpt g l) (h7 : 7 ≤ x → 2 ≤ dpt g l) : okp (upN g l x) (l + 1) := by
  intro j hj
  by_cases hjl : j = l
  · subst hjl
    rw [upN_s, dpt_up1]
    exact ⟨hx, h6, h7⟩
  · rw [upN_n _ hjl, dpt_cg j (g1 := g) (fun i hi => upN_n _ (by omega))]
    exact h j (by omega)
/-- the rows behind the signs that come out stay well-formed -/
theorem po_ok {o : Nat → Bool} {wt : Nat → Nat} (ho : ∀ x, o x = true → x < 10) : ∀ (w : Nat) (rd : Nat → Nat) (rl : Nat), (∀ j, j < w → 6 ≤ wt j) → okp rd rl → dpt rd rl = nb wt w + 1 → (po o wt w rd rl).1 ≤ w ∧ okp (po o wt w rd rl).2.1 (po o wt w rd rl).2.2 ∧ dpt (po o wt w rd rl).2.1 (po o wt w rd rl).2.2 = nb wt (po o wt w rd rl).1 + 1 ∧ (po o wt w rd rl).2.2 + (po o wt w rd rl).1 = rl + w ∧ nc wt (po o wt w rd rl).1 = nc wt w ∧ ((po o wt w rd rl).1 = 0 ∨ o (wt ((po o wt w rd rl).1 - 1)) = false)
  | 0, rd, rl, _, h, hd => ⟨Nat.le_refl _, h, hd, rfl, rfl, Or.inl rfl⟩
  | w + 1, rd, rl, h6, h, hd => by
    by_cases hw : o (wt w) = true
    · have e : po o wt (w + 1) rd rl = po o wt w (upN rd rl (wt w)) (rl + 1) := if_pos hw
      have h10 := ho _ hw
      have hw6 := h6 w (by omega)
      have hnb : nb wt (w + 1) = nb wt w + (if 7 ≤ wt w ∧ wt w < 10 then 1 else 0) := rfl
      have hnc : nc wt (w + 1) = nc wt w := by
        show nc wt w + (if wt w = 10 then 1 else 0) = _
        rw [if_neg (by omega)]
        rfl
      rw [hnb] at hd
      have hok : okp (upN rd rl (wt w)) (rl + 1) := okp_up h h10 (fun _ => by omega) (fun h7 => by rw [if_pos ⟨h7, h10⟩] at hd; omega)
      have hd2 : dpt (upN rd rl (wt w)) (rl + 1) = nb wt w + 1 := by
        rw [dpt_up2, if_neg (by omega)]
        by_cases c7 : wt w = 6
        · rw [if_pos c7]
          rw [if_neg (by omega)] at hd
          exact hd
        · rw [if_neg c7]
          rw [if_pos ⟨by omega, h10⟩] at hd
          omega
      obtain ⟨a1, a2, a3, a4, a5, a6⟩ := po_ok ho w (upN rd rl (wt w)) (rl + 1) (fun j hj => h6 j (by omega)) hok hd2
      rw [e]
      exact ⟨by omega, a2, a3, by omega, by rw [a5, hnc], a6⟩
    · have e : po o wt (w + 1) rd rl = (w + 1, rd, rl) := if_neg hw
      rw [e]
      refine ⟨Nat.le_refl _, h, hd, rfl, rfl, Or.inr ?_⟩
      show o (wt (w + 1 - 1)) = false
      rw [Nat.add_sub_cancel]
      exact Bool.not_eq_true _ ▸ hw
/-- read signs, how many, waiting ones, how many, open brackets, whether a part is due -/
abbrev pS : Type := (Nat → Nat) × Nat × (Nat → Nat) × Nat × Nat × Bool
def stp (s : Nat) (P : pS) : Option pS :=
  if P.2.2.2.2.2 = true then
    (if s < 6 then some (upN P.1 P.2.1 s, P.2.1 + 1, P.2.2.1, P.2.2.2.1, P.2.2.2.2.1, false)
    else if s = 6 then some (P.1, P.2.1, upN P.2.2.1 P.2.2.2.1 6, P.2.2.2.1 + 1, P.2.2.2.2.1, true)
    else if s = 10 ∧ P.2.2.2.2.1 < 6 then some (P.1, P.2.1, upN P.2.2.1 P.2.2.2.1 10, P.2.2.2.1 + 1, P.2.2.2.2.1 + 1, true)
    else none)
  else
    (if s = 11 ∧ 0 < P.2.2.2.2.1 then some ((po (outs 10) P.2.2.1 P.2.2.2.1 P.1 P.2.1).2.1, (po (outs 10) P.2.2.1 P.2.2.2.1 P.1 P.2.1).2.2, P.2.2.1, (po (outs 10) P.2.2.1 P.2.2.2.1 P.1 P.2.1).1 - 1, P.2.2.2.2.1 - 1, false)
    else if 7 ≤ s ∧ s ≤ 9 then some ((po (outs s) P.2.2.1 P.2.2.2.1 P.1 P.2.1).2.1, (po (outs s) P.2.2.1 P.2.2.2.1 P.1 P.2.1).2.2, upN P.2.2.1 (po (outs s) P.2.2.1 P.2.2.2.1 P.1 P.2.1).1 s, (po (outs s) P.2.2.1 P.2.2.2.1 P.1 P.2.1).1 + 1, P.2.2.2.2.1, true)
    else none)
/-- what holds behind i signs -/
def WP (i : Nat) (P : pS) : Prop := okp P.1 P.2.1 ∧ dpt P.1 P.2.1 = nb P.2.2.1 P.2.2.2.1 + (if P.2.2.2.2.2 = true then 0 else 1) ∧ P.2.1 + P.2.2.2.1 ≤ i ∧ (∀ j, j < P.2.2.2.1 → 6 ≤ P.2.2.1 j ∧ P.2.2.1 j ≤ 10) ∧ P.2.2.2.2.1 = nc P.2.2.1 P.2.2.2.1 ∧ P.2.2.2.2.1 ≤ 6
theorem nb_cg {wt wt1 : Nat → Nat} : ∀ w : Nat, (∀ j, j < w → wt j = wt1 j) → nb wt w = nb wt1 w
  | 0, _ => rfl
  | w + 1, h => by
    show nb wt w + _ = nb wt1 w + _
    rw [h w (by omega), nb_cg w (fun j hj => h j (by omega))]
theorem nc_cg {wt wt1 : Nat → Nat} : ∀ w : Nat, (∀ j, j < w → wt j = wt1 j) → nc wt w = nc wt1 w
  | 0, _ => rfl
  | w + 1, h => by
    show nc wt w + _ = nc wt1 w + _
    rw [h w (by omega), nc_cg w (fun j hj => h j (by omega))]
theorem nb_up (wt : Nat → Nat) (w x : Nat) : nb (upN wt w x) (w + 1) = nb wt w + (if 7 ≤ x ∧ x < 10 then 1 else 0) := by
  show nb (upN wt w x) w + (if 7 ≤ upN wt w x w ∧ upN wt w x w < 10 then 1 else 0) = _
  rw [upN_s, nb_cg w (wt1 := wt) (fun j hj => upN_n _ (by omega))]
theorem nc_up (wt : Nat → Nat) (w x : Nat) : nc (upN wt w x) (w + 1) = nc wt w + (if x = 10 then 1 else 0) := by
  show nc (upN wt w x) w + (if upN wt w x w = 10 then 1 else 0) = _
  rw [upN_s, nc_cg w (wt1 := wt) (fun j hj => upN_n _ (by omega))]
theorem stp_ok {i s : Nat} {P P1 : pS} (h : WP i P) (e : stp s P = some P1) : WP (i + 1) P1 := by
  obtain ⟨rd, rl, wt, wl, op, due⟩ := P
  obtain ⟨h1, h2, h3, h4, h5, h6⟩ := h
  dsimp only at h1 h2 h3 h4 h5 h6
  cases due with
  | true =>
    rw [if_pos rfl] at h2
    unfold stp at e
    dsimp only at e
    rw [if_pos rfl] at e
    by_cases c6 : s < 6
    · rw [if_pos c6] at e
      cases e
      refine ⟨okp_up h1 (by omega) (fun h => absurd h (by omega)) (fun h => absurd h (by omega)), ?_, by show rl + 1 + wl ≤ i + 1; omega, h4, h5, h6⟩
      show dpt (upN rd rl s) (rl + 1) = nb wt wl + (if false = true then 0 else 1)
      rw [dpt_up2, if_pos c6, if_neg (by decide)]
      omega
    · rw [if_neg c6] at e
      by_cases c7 : s = 6
      · rw [if_pos c7] at e
        cases e
        refine ⟨h1, ?_, by show rl + (wl + 1) ≤ i + 1; omega, fun j hj => ?_, ?_, h6⟩
        · show dpt rd rl = nb (upN wt wl 6) (wl + 1) + (if true = true then 0 else 1)
          rw [nb_up, if_neg (by omega), if_pos rfl]
          exact h2
        · show 6 ≤ upN wt wl 6 j ∧ upN wt wl 6 j ≤ 10
          have hj' : j < wl + 1 := hj
          by_cases hjw : j = wl
          · rw [hjw, upN_s]; omega
          · rw [upN_n _ hjw]; exact h4 j (by omega)
        · show op = nc (upN wt wl 6) (wl + 1)
          rw [nc_up, if_neg (by decide)]
          exact h5
      · rw [if_neg c7] at e
        by_cases c10 : s = 10 ∧ op < 6
        · rw [if_pos c10] at e
          cases e
          refine ⟨h1, ?_, by show rl + (wl + 1) ≤ i + 1; omega, fun j hj => ?_, ?_, by show op + 1 ≤ 6; omega⟩
          · show dpt rd rl = nb (upN wt wl 10) (wl + 1) + (if true = true then 0 else 1)
            rw [nb_up, if_neg (by omega), if_pos rfl]
            exact h2
          · show 6 ≤ upN wt wl 10 j ∧ upN wt wl 10 j ≤ 10
            have hj' : j < wl + 1 := hj
            by_cases hjw : j = wl
            · rw [hjw, upN_s]; omega
            · rw [upN_n _ hjw]; exact h4 j (by omega)
          · show op + 1 = nc (upN wt wl 10) (wl + 1)
            rw [nc_up, if_pos rfl, h5]
        · rw [if_neg c10] at e
          cases e
  | false =>
    rw [if_neg (by decide)] at h2
    unfold stp at e
    dsimp only at e
    rw [if_neg (by decide)] at e
    by_cases c11 : s = 11 ∧ 0 < op
    · rw [if_pos c11] at e
      cases e
      obtain ⟨a1, a2, a3, a4, a5, a6⟩ := po_ok (o := outs 10) (fun x hx => outs_lt hx) wl rd rl (fun j hj => (h4 j hj).1) h1 h2
      have hpos : (po (outs 10) wt wl rd rl).1 ≠ 0 := fun e0 => by
        rw [e0] at a5
        have : nc wt 0 = 0 := rfl
        omega
      obtain ⟨w', hw'⟩ : ∃ w', (po (outs 10) wt wl rd rl).1 = w' + 1 := ⟨(po (outs 10) wt wl rd rl).1 - 1, by omega⟩
      rw [hw', Nat.add_sub_cancel] at a6
      have ht : wt w' = 10 := by
        rcases a6 with a6 | a6
        · omega
        · have hr := h4 w' (by omega)
          by_cases h10 : wt w' = 10
          · exact h10
          · exfalso
            have : outs 10 (wt w') = true := by
              unfold outs
              rw [decide_eq_true (show wt w' < 10 by omega)]
              rfl
            rw [this] at a6
            cases a6
      rw [hw'] at a3 a4 a5
      have e1 : nb wt (w' + 1) = nb wt w' := by
        show nb wt w' + (if 7 ≤ wt w' ∧ wt w' < 10 then 1 else 0) = _
        rw [if_neg (by omega)]
        rfl
      have e2 : nc wt (w' + 1) = nc wt w' + 1 := by
        show nc wt w' + (if wt w' = 10 then 1 else 0) = _
        rw [if_pos ht]
      refine ⟨a2, ?_, ?_, fun j hj => ?_, ?_, ?_⟩
      · show dpt _ _ = nb wt ((po (outs 10) wt wl rd rl).1 - 1) + (if false = true then 0 else 1)
        rw [hw', Nat.add_sub_cancel, if_neg (by decide), a3, e1]
      · show (po (outs 10) wt wl rd rl).2.2 + ((po (outs 10) wt wl rd rl).1 - 1) ≤ i + 1
        omega
      · have hj' : j < (po (outs 10) wt wl rd rl).1 - 1 := hj
        exact h4 j (by omega)
      · show op - 1 = nc wt ((po (outs 10) wt wl rd rl).1 - 1)
        rw [hw', Nat.add_sub_cancel]
        omega
      · show op - 1 ≤ 6
        omega
    · rw [if_neg c11] at e
      by_cases c7 : 7 ≤ s ∧ s ≤ 9
      · rw [if_pos c7] at e
        cases e
        obtain ⟨a1, a2, a3, a4, a5, a6⟩ := po_ok (o := outs s) (fun x hx => outs_lt hx) wl rd rl (fun j hj => (h4 j hj).1) h1 h2
        refine ⟨a2, ?_, ?_, fun j hj => ?_, ?_, h6⟩
        · show dpt _ _ = nb (upN wt (po (outs s) wt wl rd rl).1 s) ((po (outs s) wt wl rd rl).1 + 1) + (if true = true then 0 else 1)
          rw [nb_up, if_pos ⟨c7.1, by omega⟩, if_pos rfl, a3]
        · show (po (outs s) wt wl rd rl).2.2 + ((po (outs s) wt wl rd rl).1 + 1) ≤ i + 1
          omega
        · have hj' : j < (po (outs s) wt wl rd rl).1 + 1 := hj
          show 6 ≤ upN wt (po (outs s) wt wl rd rl).1 s j ∧ upN wt (po (outs s) wt wl rd rl).1 s j ≤ 10
          by_cases hjw : j = (po (outs s) wt wl rd rl).1
          · rw [hjw, upN_s]; omega
          · rw [upN_n _ hjw]; exact h4 j (by omega)
        · show op = nc (upN wt (po (outs s) wt wl rd rl).1 s) ((po (outs s) wt wl rd rl).1 + 1)
          rw [nc_up, if_neg (by omega), a5]
          exact h5
      · rw [if_neg c7] at e
        cases e
/-- the end: a claim's row, or the place of the fault -/
def pr (sg : Nat → Nat) : Nat → Nat → pS → Nat ⊕ ((Nat → Nat) × Nat)
  | 0, i, P => if P.2.2.2.2.2 = true ∨ 0 < P.2.2.2.2.1 then .inl i else .inr ((po (outs 10) P.2.2.1 P.2.2.2.1 P.1 P.2.1).2.1, (po (outs 10) P.2.2.1 P.2.2.2.1 P.1 P.2.1).2.2)
  | m + 1, i, P => match stp (sg i) P with
    | none => .inl i
    | some P1 => pr sg m (i + 1) P1
def pS0 : pS := (fun _ => 0, 0, fun _ => 0, 0, 0, true)
theorem WP0 : WP 0 pS0 := ⟨fun j hj => absurd hj (Nat.not_lt_zero _), rfl, Nat.le_refl _, fun j hj => absurd hj (Nat.not_lt_zero _), rfl, by decide⟩
