/-! THE TABLE'S OWN PROPERTY: its parts lie in the claims' lists, whatever the search adds -/
section TI1
variable {P P1 : Nat} {op lf rt op1 lf1 rt1 : Nat → Nat} {g : Nat → Nat} {k : Nat}
theorem ix9_ex (ho : RPo P op lf rt) (ho1 : RPo P1 op1 lf1 rt1) (e : REx P op lf rt P1 op1 lf1 rt1) (h2 : 2 ≤ P) {v c c' : Nat} (hv : v < P) (hc : c < P → c' = c) (h : ixB P op lf rt 9 v c < P) : ixB P1 op1 lf1 rt1 9 v c' = ixB P op lf rt 9 v c := by
  rw [ix9] at h ⊢
  rw [ix9]
  by_cases c0 : v = 0
  · rw [if_pos c0] at h ⊢
    rw [if_pos c0]
    exact hc h
  rw [if_neg c0] at h ⊢
  rw [if_neg c0]
  by_cases c1 : v = 1 ∨ c = 0 ∨ v = c
  · rw [if_pos c1]
    have : v = 1 ∨ c' = 0 ∨ v = c' := by
      rcases c1 with c1 | c1 | c1
      · exact Or.inl c1
      · right; left; rw [hc (by omega)]; exact c1
      · right; right; rw [hc (by omega)]; exact c1
    rw [if_pos this]
  · rw [if_neg c1] at h ⊢
    rcases ixT_or (op := op) (lf := lf) (rt := rt) 9 v c P P with h' | ⟨h1, h3, h4, h5⟩
    · omega
    · generalize ixT op lf rt 9 v c P P = r at *
      obtain ⟨o1, o2, o3, o4, o5, o6, o7, o8, o9⟩ := ho.two h1 (by omega)
      have ec := hc (by omega)
      subst ec
      rw [if_neg c1]
      obtain ⟨e1, e2, e3⟩ := e.2 r h1
      exact ixT_in ho1 (Nat.lt_of_lt_of_le h1 e.1) ⟨e1.trans h3, e2.trans h4, e3.trans h5⟩ P1 (Nat.le_refl _) (Nat.lt_of_lt_of_le h1 e.1)
theorem nd_ex (ho : RPo P op lf rt) (ho1 : RPo P1 op1 lf1 rt1) (e : REx P op lf rt P1 op1 lf1 rt1) {j : Nat} (h : ∃ q, isPN P op lf rt g j q) : ndP P1 op1 lf1 rt1 g j = ndP P op lf rt g j ∧ ndP P op lf rt g j < P := by
  obtain ⟨q, hq⟩ := h
  rw [hq.nd ho, (hq.ex ho e).nd ho1]
  exact ⟨rfl, hq.1⟩
theorem tga_ex (ho : RPo P op lf rt) (ho1 : RPo P1 op1 lf1 rt1) (e : REx P op lf rt P1 op1 lf1 rt1) (h2 : 2 ≤ P) (hok : okp g k) (hn : ∀ j, j < k → ∃ q, isPN P op lf rt g j q) : ∀ i, i < k → ∀ c c', (c < P → c' = c) → ∀ q, q < P → q ∈ (tgA P op lf rt g i).2.1 c → q ∈ (tgA P1 op1 lf1 rt1 g i).2.1 c' := by
  intro i
  induction i using Nat.strongRecOn with
  | _ i ih =>
    intro hi c c' hc q hq hm
    have hnd := nd_ex ho ho1 e (hn i hi)
    have hd : q = ixB P op lf rt 9 (tgA P op lf rt g i).1 c → q ∈ (tgA P1 op1 lf1 rt1 g i).2.1 c' := fun eq => by
      have h := (tg_hd (P := P1) (op := op1) (lf := lf1) (rt := rt1) i hok hi).2 c'
      rw [tg_v hok i hi] at eq
      rw [tg_v hok i hi, hnd.1, ix9_ex ho ho1 e h2 hnd.2 hc (by omega), ← eq] at h
      exact h
    by_cases c6 : g i < 6
    · refine hd ?_
      rw [tg_lf c6] at hm ⊢
      simpa [tgL] using hm
    · have hrc := rc_lt hok hi (by omega)
      by_cases d6 : g i = 6
      · refine hd ?_
        rw [tg_un d6 hrc] at hm ⊢
        simpa [tgU] using hm
      · have h7 : 7 ≤ g i := by omega
        have hlc := lc_lt hok hi h7
        obtain ⟨_, _, _, s4⟩ := tga_sub (P := P) (op := op) (lf := lf) (rt := rt) hok hi h7 c
        obtain ⟨s1, s2, s3, _⟩ := tga_sub (P := P1) (op := op1) (lf := lf1) (rt := rt1) hok hi h7 c'
        rcases s4 q hm with h | h | ⟨e7, h⟩ | ⟨e8, h⟩
        · exact hd h
        · exact s1 q (ih _ hrc (by omega) c c' hc q hq h)
        · refine s2 e7 q (ih _ hlc (by omega) _ _ (fun hd => ?_) q hq h)
          have hr := nd_ex ho ho1 e (hn (rc g i) (by omega))
          rw [tg_v hok (rc g i) (by omega)] at hd ⊢
          rw [tg_v hok (rc g i) (by omega), hr.1]
          exact ix9_ex ho ho1 e h2 hr.2 hc hd
        · exact s3 e8 q (ih _ hlc (by omega) c c' hc q hq h)
theorem tgn_ex (ho : RPo P op lf rt) (ho1 : RPo P1 op1 lf1 rt1) (e : REx P op lf rt P1 op1 lf1 rt1) (h2 : 2 ≤ P) (hok : okp g k) (hn : ∀ j, j < k → ∃ q, isPN P op lf rt g j q) : ∀ i, i < k → ∀ q, q < P → q ∈ (tgA P op lf rt g i).2.2 → q ∈ (tgA P1 op1 lf1 rt1 g i).2.2 := by
  intro i
  induction i using Nat.strongRecOn with
  | _ i ih =>
    intro hi q hq hm
    have hnd := nd_ex ho ho1 e (hn i hi)
    have hd : q = (tgA P op lf rt g i).1 → q ∈ (tgA P1 op1 lf1 rt1 g i).2.2 := fun eq => by
      have h := (tg_hd (P := P1) (op := op1) (lf := lf1) (rt := rt1) i hok hi).1
      rw [tg_v hok i hi] at eq
      rw [tg_v hok i hi, hnd.1, ← eq] at h
      exact h
    by_cases c6 : g i < 6
    · refine hd ?_
      rw [tg_lf c6] at hm ⊢
      simpa [tgL] using hm
    · have hrc := rc_lt hok hi (by omega)
      obtain ⟨u1, u2'⟩ := tg_sub (P := P1) (op := op1) (lf := lf1) (rt := rt1) hok hi (by omega)
      have fr : q ∈ (tgA P op lf rt g (rc g i)).2.2 → q ∈ (tgA P1 op1 lf1 rt1 g i).2.2 := fun h => u1 q (ih _ hrc (by omega) q hq h)
      by_cases d6 : g i = 6
      · have hm2 : q = (tgA P op lf rt g i).1 ∨ q ∈ (tgA P op lf rt g (rc g i)).2.2 ∨ q ∈ (tgA P op lf rt g (rc g i)).2.1 1 := by
          rw [tg_un d6 hrc] at hm ⊢
          simpa [tgU] using hm
        rcases hm2 with h | h | h
        · exact hd h
        · exact fr h
        · have := tga_ex ho ho1 e h2 hok hn _ (show rc g i < k by omega) 1 1 (fun _ => rfl) q hq h
          rw [tg_un d6 hrc]
          exact List.mem_cons_of_mem _ (List.mem_append_right _ this)
      · have h7 : 7 ≤ g i := by omega
        have hlc := lc_lt hok hi h7
        have hm2 : q = (tgA P op lf rt g i).1 ∨ q ∈ (tgA P op lf rt g (lc g i)).2.2 ∨ q ∈ (tgA P op lf rt g (rc g i)).2.2 ∨ (g i = 9 ∧ q ∈ (tgA P op lf rt g (lc g i)).2.1 (tgA P op lf rt g (rc g i)).1) := by
          rw [tg_bn h7 hlc hrc] at hm ⊢
          unfold tgB at hm ⊢
          simp only [List.mem_cons, List.mem_append] at hm
          rcases hm with h | (h | h) | h
          · exact Or.inl h
          · exact Or.inr (Or.inl h)
          · exact Or.inr (Or.inr (Or.inl h))
          · by_cases e9 : g i = 9
            · rw [if_pos e9] at h; exact Or.inr (Or.inr (Or.inr ⟨e9, h⟩))
            · rw [if_neg e9] at h; cases h
        rcases hm2 with h | h | h | ⟨e9, h⟩
        · exact hd h
        · exact u2' h7 q (ih _ hlc (by omega) q hq h)
        · exact fr h
        · have hr := nd_ex ho ho1 e (hn (rc g i) (by omega))
          have := tga_ex ho ho1 e h2 hok hn _ (show lc g i < k by omega) (tgA P op lf rt g (rc g i)).1 (tgA P1 op1 lf1 rt1 g (rc g i)).1 (fun _ => by rw [tg_v hok (rc g i) (by omega), tg_v hok (rc g i) (by omega), hr.1]) q hq h
          rw [tg_bn h7 hlc hrc]
          unfold tgB
          rw [if_pos e9]
          exact List.mem_cons_of_mem _ (List.mem_append_right _ this)
theorem impS_ix (ho : RPo P op lf rt) {r x y : Nat} (hr : r < P) (h : impS op lf rt r x y) : r = ixB P op lf rt 9 x y := by
  rw [ix9]
  rcases h with ⟨h1, h3⟩ | ⟨h1, h3⟩ | ⟨h1, h3, h4, h5, h6, h7, h8⟩
  · rw [if_pos h1]; exact h3
  · by_cases c0 : x = 0
    · rw [if_pos c0]
      omega
    · rw [if_neg c0, if_pos h1]; exact h3
  · rw [if_neg h1, if_neg (by omega)]
    exact (ixT_in ho hr ⟨h6, h7, h8⟩ P (Nat.le_refl _) hr).symm
theorem cnt_le : ∀ (n : Nat) (L : List Nat), (∀ q, q < n → q ∈ L) → n ≤ L.length
  | 0, _, _ => Nat.zero_le _
  | n + 1, L, h => by
    have hm := h n (Nat.lt_succ_self _)
    have := cnt_le n (L.erase n) (fun q hq => (List.mem_erase_of_ne (by omega)).mpr (h q (by omega)))
    rw [List.length_erase_of_mem hm] at this
    have h0 : 0 < L.length := List.length_pos_of_mem hm
    omega
end TI1
