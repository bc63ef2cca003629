/-! SIZES OF A CLAIM'S NODES; RANKS OF THEIR PARTS -/
def szN (g : Nat → Nat) (i : Nat) : Nat := nv (fun _ => 1) (fun x => x + 1) (fun _ x y => x + y + 1) g 0 i
def sS (w : Nat → Nat) : Nat → Nat
  | 0 => 0
  | n + 1 => sS w n + w n
theorem sS_cg {w w' : Nat → Nat} : ∀ n, (∀ e, e < n → w e = w' e) → sS w n = sS w' n
  | 0, _ => rfl
  | n + 1, h => by
    show sS w n + w n = sS w' n + w' n
    rw [sS_cg n fun e he => h e (by omega), h n (by omega)]
section SIZES
variable {g : Nat → Nat} {k : Nat}
/-- the subtrees on the stack are made of all signs so far -/
theorem sz_sum (hok : okp g k) : ∀ i, i ≤ k → sS (fun e => szN g (sl g i e)) (dpt g i) = i
  | 0, _ => rfl
  | i + 1, hi => by
    have ih := sz_sum hok i (by omega)
    obtain ⟨h10, h6, h7⟩ := hok i (by omega)
    have hds := dpt_s g i
    have low : ∀ n, n + 1 ≤ dpt g (i + 1) → sS (fun e => szN g (sl g (i + 1) e)) n = sS (fun e => szN g (sl g i e)) n := fun n hn => sS_cg n fun e he => by
      show szN g (sl g (i + 1) e) = szN g (sl g i e)
      rw [sl_low g (by omega)]
    by_cases c6 : g i < 6
    · rw [if_pos c6] at hds
      rw [hds]
      show sS _ (dpt g i) + szN g (sl g (i + 1) (dpt g i)) = i + 1
      rw [low (dpt g i) (by omega), ih, sl_top g (by omega)]
      unfold szN
      rw [nv_lf c6]
    · rw [if_neg c6] at hds
      have hrc := rc_lt hok (show i < k by omega) (by omega)
      by_cases d6 : g i = 6
      · rw [if_pos d6] at hds
        obtain ⟨D, hD⟩ : ∃ D, dpt g i = D + 1 := ⟨dpt g i - 1, by have := h6 (by omega); omega⟩
        rw [hds, hD]
        rw [hD] at ih
        have ih : sS (fun e => szN g (sl g i e)) D + szN g (sl g i D) = i := ih
        show sS _ D + szN g (sl g (i + 1) D) = i + 1
        rw [low D (by omega), sl_top g (by omega)]
        have e1 : szN g i = szN g (rc g i) + 1 := by unfold szN; rw [nv_un d6 hrc]
        have e2 : rc g i = sl g i D := by unfold rc; rw [hD]; rfl
        rw [e1, e2]
        omega
      · rw [if_neg d6] at hds
        have hlc := lc_lt hok (show i < k by omega) (by omega)
        obtain ⟨D, hD⟩ : ∃ D, dpt g i = D + 2 := ⟨dpt g i - 2, by have := h7 (by omega); omega⟩
        rw [hds, hD, show D + 2 - 1 = D + 1 by omega]
        rw [hD] at ih
        have ih : sS (fun e => szN g (sl g i e)) D + szN g (sl g i D) + szN g (sl g i (D + 1)) = i := ih
        show sS _ D + szN g (sl g (i + 1) D) = i + 1
        rw [low D (by omega), sl_top g (by omega)]
        have e1 : szN g i = szN g (lc g i) + szN g (rc g i) + 1 := by unfold szN; rw [nv_bn (by omega) hlc hrc]
        have e2 : rc g i = sl g i (D + 1) := by unfold rc; rw [hD]; rfl
        have e3 : lc g i = sl g i D := by unfold lc; rw [hD]; rfl
        rw [e1, e2, e3]
        omega
theorem sz_le (hok : okp g k) {i : Nat} (hi : i < k) : szN g i ≤ i + 1 := by
  have h := sz_sum hok (i + 1) (by omega)
  have hp := dpt_pos hok hi
  obtain ⟨D, hD⟩ : ∃ D, dpt g (i + 1) = D + 1 := ⟨dpt g (i + 1) - 1, by omega⟩
  rw [hD] at h
  have h : sS (fun e => szN g (sl g (i + 1) e)) D + szN g (sl g (i + 1) D) = i + 1 := h
  rw [sl_top g (by omega)] at h
  omega
theorem sz_pos (hok : okp g k) : ∀ i, i < k → 1 ≤ szN g i := by
  intro i hi
  unfold szN
  obtain ⟨h10, h6, h7⟩ := hok i hi
  by_cases c6 : g i < 6
  · rw [nv_lf c6]; exact Nat.le_refl _
  · have hrc := rc_lt hok hi (by omega)
    by_cases d6 : g i = 6
    · rw [nv_un d6 hrc]; omega
    · rw [nv_bn (by omega) (lc_lt hok hi (by omega)) hrc]; omega
/-- what the table has for two parts -/
theorem ixB_or {P : Nat} {op lf rt : Nat → Nat} {o x y : Nat} (ho : o = 7 ∨ o = 8 ∨ o = 9) : ixB P op lf rt o x y = x ∨ ixB P op lf rt o x y = y ∨ ixB P op lf rt o x y = 0 ∨ ixB P op lf rt o x y = 1 ∨ ixB P op lf rt o x y = P ∨ (ixB P op lf rt o x y < P ∧ op (ixB P op lf rt o x y) = o ∧ lf (ixB P op lf rt o x y) = x ∧ rt (ixB P op lf rt o x y) = y) := by
  rcases ho with rfl | rfl | rfl
  · rw [ix7]
    by_cases c1 : x = 0 ∨ x = y
    · rw [if_pos c1]; exact Or.inr (Or.inl rfl)
    rw [if_neg c1]
    by_cases c2 : y = 0
    · rw [if_pos c2]; exact Or.inl rfl
    rw [if_neg c2]
    by_cases c3 : x = 1 ∨ y = 1
    · rw [if_pos c3]; exact Or.inr (Or.inr (Or.inr (Or.inl rfl)))
    rw [if_neg c3]
    rcases ixT_or (op := op) (lf := lf) (rt := rt) 7 x y P P with h | h
    · exact Or.inr (Or.inr (Or.inr (Or.inr (Or.inl h))))
    · exact Or.inr (Or.inr (Or.inr (Or.inr (Or.inr h))))
  · rw [ix8]
    by_cases c1 : x = 1 ∨ x = y
    · rw [if_pos c1]; exact Or.inr (Or.inl rfl)
    rw [if_neg c1]
    by_cases c2 : y = 1
    · rw [if_pos c2]; exact Or.inl rfl
    rw [if_neg c2]
    by_cases c3 : x = 0 ∨ y = 0
    · rw [if_pos c3]; exact Or.inr (Or.inr (Or.inl rfl))
    rw [if_neg c3]
    rcases ixT_or (op := op) (lf := lf) (rt := rt) 8 x y P P with h | h
    · exact Or.inr (Or.inr (Or.inr (Or.inr (Or.inl h))))
    · exact Or.inr (Or.inr (Or.inr (Or.inr (Or.inr h))))
  · rw [ix9]
    by_cases c1 : x = 0
    · rw [if_pos c1]; exact Or.inr (Or.inl rfl)
    rw [if_neg c1]
    by_cases c2 : x = 1 ∨ y = 0 ∨ x = y
    · rw [if_pos c2]; exact Or.inr (Or.inr (Or.inl rfl))
    rw [if_neg c2]
    rcases ixT_or (op := op) (lf := lf) (rt := rt) 9 x y P P with h | h
    · exact Or.inr (Or.inr (Or.inr (Or.inr (Or.inl h))))
    · exact Or.inr (Or.inr (Or.inr (Or.inr (Or.inr h))))
/-- a node's part weighs no more than the node has signs -/
theorem rk_nd {P : Nat} {op lf rt : Nat → Nat} (ho : RPo P op lf rt) (h2 : 2 ≤ P) (hok : okp g k) : ∀ i, i < k → ndP P op lf rt g i < P → akR op lf rt (ndP P op lf rt g i) ≤ szN g i ∧ rkR op lf rt (ndP P op lf rt g i) ≤ szN g i := by
  have z0 : op 0 < 6 := by rcases ho.1 0 (by omega) with h | h | h <;> omega
  have z1 : op 1 < 6 := by rcases ho.1 1 (by omega) with h | h | h <;> omega
  intro i
  induction i using Nat.strongRecOn with
  | _ i ih =>
    intro hi hP
    have hs := sz_pos hok i hi
    obtain ⟨h10, h6, h7⟩ := hok i hi
    by_cases c6 : g i < 6
    · have e : ndP P op lf rt g i = ixL P op lf rt (g i) := nv_lf c6
      rw [e] at hP ⊢
      have : op (ixL P op lf rt (g i)) < 6 := by
        unfold ixL at hP ⊢
        by_cases c4 : g i = 4
        · rw [if_pos c4]; exact z0
        · rw [if_neg c4] at hP ⊢
          by_cases c5 : g i = 5
          · rw [if_pos c5]; exact z1
          · rw [if_neg c5] at hP ⊢
            rcases ixT_or (op := op) (lf := lf) (rt := rt) (g i) 0 0 P P with h | h
            · omega
            · rw [h.2.1]; exact c6
      rw [(rk_lf this).1, (rk_lf this).2]
      omega
    · have hrc := rc_lt hok hi (by omega)
      -- both kinds of nodes
      have fin : ∀ (o x y sx sy : Nat), (o = 7 ∨ o = 8 ∨ o = 9) → ndP P op lf rt g i = ixB P op lf rt o x y → sx + sy + 1 ≤ szN g i ∨ (o = 9 ∧ y = 1 ∧ sx + 1 ≤ szN g i ∧ 1 ≤ sx) → (x < P → akR op lf rt x ≤ sx ∧ rkR op lf rt x ≤ sx) → (y < P → y ≠ 1 → akR op lf rt y ≤ sy ∧ rkR op lf rt y ≤ sy) → 1 ≤ sx → (1 ≤ sy ∨ y = 1) → akR op lf rt (ndP P op lf rt g i) ≤ szN g i ∧ rkR op lf rt (ndP P op lf rt g i) ≤ szN g i := by
        intro o x y sx sy hoo e hsz hx hy hsx hsy
        have p1 := rk_lf (lf := lf) (rt := rt) z1
        have p0 := rk_lf (lf := lf) (rt := rt) z0
        rw [e] at hP ⊢
        rcases ixB_or (P := P) (op := op) (lf := lf) (rt := rt) (x := x) (y := y) hoo with h | h | h | h | h | ⟨a1, a2, a3, a4⟩
        · rw [h] at hP ⊢
          have := hx hP
          omega
        · rw [h] at hP ⊢
          by_cases y1 : y = 1
          · rw [y1, p1.1, p1.2]; omega
          · have := hy hP y1
            omega
        · rw [h, p0.1, p0.2]; omega
        · rw [h, p1.1, p1.2]; omega
        · omega
        · generalize ixB P op lf rt o x y = r at *
          obtain ⟨o1, o2, o3, o4, o5, o6, o7, o8, o9⟩ := ho.two a1 (by omega)
          rw [a3] at o4 o5
          rw [a4] at o6 o7 o9
          have hx' := hx (by omega)
          by_cases y1 : y = 1
          · have e9 : op r = 9 := o9 y1
            rw [(rk_9 ho a1 e9).1, (rk_9 ho a1 e9).2, a3, a4, y1, p1.1, p1.2]
            omega
          · have hy' := hy (by omega) y1
            rcases hoo with rfl | rfl | rfl
            · rw [(rk_78 ho a1 (Or.inl a2)).1, (rk_78 ho a1 (Or.inl a2)).2, a3, a4]; omega
            · rw [(rk_78 ho a1 (Or.inr a2)).1, (rk_78 ho a1 (Or.inr a2)).2, a3, a4]; omega
            · rw [(rk_9 ho a1 a2).1, (rk_9 ho a1 a2).2, a3, a4]; omega
      by_cases d6 : g i = 6
      · have e : ndP P op lf rt g i = ixB P op lf rt 9 (ndP P op lf rt g (rc g i)) 1 := nv_un d6 hrc
        have es : szN g i = szN g (rc g i) + 1 := by unfold szN; rw [nv_un d6 hrc]
        have hp := sz_pos hok (rc g i) (by omega)
        exact fin 9 _ 1 (szN g (rc g i)) 0 (Or.inr (Or.inr rfl)) e (Or.inr ⟨rfl, rfl, by omega, hp⟩) (fun h => ih _ hrc (by omega) h) (fun _ h => absurd rfl h) hp (Or.inr rfl)
      · have hlc := lc_lt hok hi (by omega)
        have e : ndP P op lf rt g i = ixB P op lf rt (g i) (ndP P op lf rt g (lc g i)) (ndP P op lf rt g (rc g i)) := nv_bn (by omega) hlc hrc
        have es : szN g i = szN g (lc g i) + szN g (rc g i) + 1 := by unfold szN; rw [nv_bn (by omega) hlc hrc]
        exact fin (g i) _ _ (szN g (lc g i)) (szN g (rc g i)) (by omega) e (Or.inl (by omega)) (fun h => ih _ hlc (by omega) h) (fun h _ => ih _ hrc (by omega) h) (sz_pos hok _ (by omega)) (Or.inl (sz_pos hok _ (by omega)))
end SIZES
