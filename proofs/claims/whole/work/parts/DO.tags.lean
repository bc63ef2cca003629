/-! ALL PARTS THAT A CLAIM CAN BRING INTO THE TABLE: lists by its nodes -/
def tgL (P : Nat) (op lf rt : Nat → Nat) (k : Nat) : Nat × (Nat → List Nat) × List Nat := (ixL P op lf rt k, (fun c => [ixB P op lf rt 9 (ixL P op lf rt k) c]), [ixL P op lf rt k])
def tgU (P : Nat) (op lf rt : Nat → Nat) (x : Nat × (Nat → List Nat) × List Nat) : Nat × (Nat → List Nat) × List Nat := (ixB P op lf rt 9 x.1 1, (fun c => [ixB P op lf rt 9 (ixB P op lf rt 9 x.1 1) c]), ixB P op lf rt 9 x.1 1 :: (x.2.2 ++ x.2.1 1))
def tgB (P : Nat) (op lf rt : Nat → Nat) (k : Nat) (x y : Nat × (Nat → List Nat) × List Nat) : Nat × (Nat → List Nat) × List Nat := (ixB P op lf rt k x.1 y.1, (fun c => ixB P op lf rt 9 (ixB P op lf rt k x.1 y.1) c :: (if k = 7 then x.2.1 (ixB P op lf rt 9 y.1 c) ++ y.2.1 c else if k = 8 then x.2.1 c ++ y.2.1 c else y.2.1 c)), ixB P op lf rt k x.1 y.1 :: (x.2.2 ++ y.2.2 ++ (if k = 9 then x.2.1 y.1 else [])))
def tgA (P : Nat) (op lf rt : Nat → Nat) (g : Nat → Nat) (i : Nat) : Nat × (Nat → List Nat) × List Nat := nv (tgL P op lf rt) (tgU P op lf rt) (tgB P op lf rt) g (0, (fun _ => []), []) i
section TAGS
variable {P : Nat} {op lf rt : Nat → Nat} {g : Nat → Nat} {k : Nat}
theorem tg_lf {i : Nat} (h : g i < 6) : tgA P op lf rt g i = tgL P op lf rt (g i) := nv_lf h
theorem tg_un {i : Nat} (h : g i = 6) (hr : rc g i < i) : tgA P op lf rt g i = tgU P op lf rt (tgA P op lf rt g (rc g i)) := nv_un h hr
theorem tg_bn {i : Nat} (h : 7 ≤ g i) (hl : lc g i < i) (hr : rc g i < i) : tgA P op lf rt g i = tgB P op lf rt (g i) (tgA P op lf rt g (lc g i)) (tgA P op lf rt g (rc g i)) := nv_bn h hl hr
theorem tg_v (hok : okp g k) : ∀ i, i < k → (tgA P op lf rt g i).1 = ndP P op lf rt g i := by
  intro i
  induction i using Nat.strongRecOn with
  | _ i ih =>
    intro hi
    by_cases c6 : g i < 6
    · have e : ndP P op lf rt g i = ixL P op lf rt (g i) := nv_lf c6
      rw [tg_lf c6, e]
      rfl
    · have hrc := rc_lt hok hi (by omega)
      have ir := ih _ hrc (by omega)
      by_cases d6 : g i = 6
      · rw [tg_un d6 hrc]
        show ixB P op lf rt 9 (tgA P op lf rt g (rc g i)).1 1 = _
        have e : ndP P op lf rt g i = ixB P op lf rt 9 (ndP P op lf rt g (rc g i)) 1 := nv_un d6 hrc
        rw [ir, e]
      · have hlc := lc_lt hok hi (by omega)
        have il := ih _ hlc (by omega)
        rw [tg_bn (by omega) hlc hrc]
        show ixB P op lf rt (g i) (tgA P op lf rt g (lc g i)).1 (tgA P op lf rt g (rc g i)).1 = _
        have e : ndP P op lf rt g i = ixB P op lf rt (g i) (ndP P op lf rt g (lc g i)) (ndP P op lf rt g (rc g i)) := nv_bn (by omega) hlc hrc
        rw [il, ir, e]
/-- few they are -/
theorem tg_len (hok : okp g k) : ∀ i, i < k → ∀ c, (tgA P op lf rt g i).2.2.length + ((tgA P op lf rt g i).2.1 c).length ≤ 2 * szN g i := by
  intro i
  induction i using Nat.strongRecOn with
  | _ i ih =>
    intro hi c
    by_cases c6 : g i < 6
    · rw [tg_lf c6]
      have : szN g i = 1 := by unfold szN; rw [nv_lf c6]
      rw [this]
      exact Nat.le_refl _
    · have hrc := rc_lt hok hi (by omega)
      by_cases d6 : g i = 6
      · have e1 : szN g i = szN g (rc g i) + 1 := by unfold szN; rw [nv_un d6 hrc]
        have ir := ih _ hrc (by omega) 1
        rw [tg_un d6 hrc, e1]
        unfold tgU
        simp only [List.length_cons, List.length_append, List.length_nil]
        omega
      · have hlc := lc_lt hok hi (by omega)
        have e1 : szN g i = szN g (lc g i) + szN g (rc g i) + 1 := by unfold szN; rw [nv_bn (by omega) hlc hrc]
        rw [tg_bn (by omega) hlc hrc, e1]
        unfold tgB
        by_cases e7 : g i = 7
        · have il := ih _ hlc (by omega) (ixB P op lf rt 9 (tgA P op lf rt g (rc g i)).1 c)
          have ir := ih _ hrc (by omega) c
          simp only [e7, if_true, show ¬ (7 : Nat) = 9 by decide, if_false, List.length_cons, List.length_append, List.length_nil]
          omega
        · by_cases e8 : g i = 8
          · have il := ih _ hlc (by omega) c
            have ir := ih _ hrc (by omega) c
            simp only [e8, if_true, show ¬ (8 : Nat) = 9 by decide, show ¬ (8 : Nat) = 7 by decide, if_false, List.length_cons, List.length_append, List.length_nil]
            omega
          · have e9 : g i = 9 := by have := (hok i hi).1; omega
            have il := ih _ hlc (by omega) (tgA P op lf rt g (rc g i)).1
            have ir := ih _ hrc (by omega) c
            simp only [e9, if_true, show ¬ (9 : Nat) = 8 by decide, show ¬ (9 : Nat) = 7 by decide, if_false, List.length_cons, List.length_append, List.length_nil]
            omega
theorem tg_hd (i : Nat) (hok : okp g k) (hi : i < k) : (tgA P op lf rt g i).1 ∈ (tgA P op lf rt g i).2.2 ∧ ∀ c, ixB P op lf rt 9 (tgA P op lf rt g i).1 c ∈ (tgA P op lf rt g i).2.1 c := by
  by_cases c6 : g i < 6
  · rw [tg_lf c6]; exact ⟨List.mem_cons_self, fun c => List.mem_cons_self⟩
  · have hrc := rc_lt hok hi (by omega)
    by_cases d6 : g i = 6
    · rw [tg_un d6 hrc]; exact ⟨List.mem_cons_self, fun c => List.mem_cons_self⟩
    · rw [tg_bn (by omega) (lc_lt hok hi (by omega)) hrc]; exact ⟨List.mem_cons_self, fun c => List.mem_cons_self⟩
/-- children's lists lie in their parents' -/
theorem tg_sub {i : Nat} (hok : okp g k) (hi : i < k) (h6 : 6 ≤ g i) : (∀ q, q ∈ (tgA P op lf rt g (rc g i)).2.2 → q ∈ (tgA P op lf rt g i).2.2) ∧ (7 ≤ g i → ∀ q, q ∈ (tgA P op lf rt g (lc g i)).2.2 → q ∈ (tgA P op lf rt g i).2.2) := by
  have hrc := rc_lt hok hi (by omega)
  by_cases d6 : g i = 6
  · rw [tg_un d6 hrc]
    exact ⟨fun q hq => List.mem_cons_of_mem _ (List.mem_append_left _ hq), fun h => absurd h (by omega)⟩
  · rw [tg_bn (by omega) (lc_lt hok hi (by omega)) hrc]
    exact ⟨fun q hq => List.mem_cons_of_mem _ (List.mem_append_left _ (List.mem_append_right _ hq)), fun _ q hq => List.mem_cons_of_mem _ (List.mem_append_left _ (List.mem_append_left _ hq))⟩
/-- every node's part is in a list of the stack -/
theorem tg_cov (hok : okp g k) : ∀ i, i ≤ k → ∀ j, j < i → ∃ d, d < dpt g i ∧ ndP P op lf rt g j ∈ (tgA P op lf rt g (sl g i d)).2.2
  | 0, _, j, hj => absurd hj (Nat.not_lt_zero _)
  | i + 1, hi, j, hj => by
    have hik : i < k := by omega
    have hdp := dpt_pos hok hik
    have top : ∀ q, q ∈ (tgA P op lf rt g i).2.2 → ∃ d, d < dpt g (i + 1) ∧ q ∈ (tgA P op lf rt g (sl g (i + 1) d)).2.2 := fun q hq => ⟨dpt g (i + 1) - 1, by omega, by rw [sl_top g (by omega)]; exact hq⟩
    by_cases e : j = i
    · subst e
      rw [← tg_v hok j hik]
      exact top _ (tg_hd j hok hik).1
    · obtain ⟨d, d1, d2⟩ := tg_cov hok i (by omega) j (by omega)
      have hds := dpt_s g i
      obtain ⟨h10, h6, h7⟩ := hok i hik
      by_cases c6 : g i < 6
      · rw [if_pos c6] at hds
        exact ⟨d, by omega, by rw [sl_low g (by omega)]; exact d2⟩
      · rw [if_neg c6] at hds
        by_cases d6 : g i = 6
        · rw [if_pos d6] at hds
          by_cases ed : d + 1 = dpt g i
          · have er : rc g i = sl g i d := by unfold rc; rw [show dpt g i - 1 = d by omega]
            rw [← er] at d2
            exact top _ ((tg_sub hok hik (by omega)).1 _ d2)
          · exact ⟨d, by omega, by rw [sl_low g (by omega)]; exact d2⟩
        · rw [if_neg d6] at hds
          have h2 := h7 (by omega)
          by_cases ed : d + 1 = dpt g i
          · have er : rc g i = sl g i d := by unfold rc; rw [show dpt g i - 1 = d by omega]
            rw [← er] at d2
            exact top _ ((tg_sub hok hik (by omega)).1 _ d2)
          · by_cases ed2 : d + 2 = dpt g i
            · have er : lc g i = sl g i d := by unfold lc; rw [show dpt g i - 2 = d by omega]
              rw [← er] at d2
              exact top _ ((tg_sub hok hik (by omega)).2 (by omega) _ d2)
            · exact ⟨d, by omega, by rw [sl_low g (by omega)]; exact d2⟩
end TAGS
