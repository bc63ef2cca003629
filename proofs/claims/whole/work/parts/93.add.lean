/-! THE CLASS'S PARTS: a claim is added -/
section ADD
variable {b : Nat} {ia fi : Nat → Nat → Int32} {fl : Nat → Nat → Int64} {qa : Nat → Nat → Option Nat} {f : mmF} {S : Nat} {kd lf rt : Nat → Nat}
theorem at_row {μ : mmF} {a N d : Nat} {v : Int32} (hL : lenA μ a = some (nI N)) (hA : ldA 0 μ a (nI d) = some v) (hd : d < N) (hN : N < 2 ^ 31) : f_X9_at a (nI d) μ = some v := by
  unfold f_X9_at
  rw [if_neg (nI_pos (by omega)), hL]
  simp only [Option.bind_some]
  rw [if_neg (nI_ge hd hN), hA]
  rfl
theorem at_27 {d : Nat} (hd : d < 30) : f_X9_at (b + 27) (nI d) (wr (SK b) ia fi fl qa f) = some (ia (b + 27) d) := at_row L_27 (An_27 hd) hd (by decide)
theorem mx1 {d : Nat} (h1 : 1 ≤ d) (h : d < 2 ^ 31) : (if (0 : Int32) < nI d - 1 then nI d - 1 else 0) = nI (d - 1) := by
  rw [nsub1 h1]
  by_cases h0 : d - 1 = 0
  · rw [h0]
    rfl
  · exact if_pos (show (0 : Int32) < nI (d - 1) from nI_lt (a := 0) (b := d - 1) (by omega) (by omega))
theorem mx2 {d : Nat} (h1 : 2 ≤ d) (h : d < 2 ^ 31) : (if (0 : Int32) < nI d - 2 then nI d - 2 else 0) = nI (d - 2) := by
  rw [show nI d - 2 = nI (d - 2) from pk_sub (a := d) (b := 2) h1]
  by_cases h0 : d - 2 = 0
  · rw [h0]
    rfl
  · exact if_pos (show (0 : Int32) < nI (d - 2) from nI_lt (a := 0) (b := d - 2) (by omega) (by omega))
theorem add_lp {c k : Nat} {g : Nat → Nat} (hc : ClA b f c k g) (hv : VC k g) {S0 U0 : Nat} (hS0 : S0 + 29 ≤ 151) : ∀ (m i q : Nat) (ia fi : Nat → Nat → Int32) (S : Nat) (kd lf rt Pn : Nat → Nat), i + m = k → m < q → PTm b ia fi S kd lf rt → PTo S kd lf rt → NP g S kd lf rt Pn i → (i = 0 ∧ S = S0 ∨ 1 ≤ i ∧ S + 1 ≤ S0 + i) → (∀ r, S0 ≤ r → r < S → ∃ j, j < i ∧ Pn j = r) → fi (b + 22) 5 = nI (uLf g U0 i) → (∀ d, d < dpt g i → ia (b + 27) d = nI (Pn (sl g i d))) → ∃ (ia1 fi1 : Nat → Nat → Int32) (S1 : Nat) (kd1 lf1 rt1 Pn1 : Nat → Nat), f_X4_add_4 q (b + 22) c (nI (dpt g i)) (nI i) (wr (SK b) ia fi fl qa f) = some (nI (Pn1 (k - 1)), wr (SK b) ia1 fi1 fl qa f) ∧ PTm b ia1 fi1 S1 kd1 lf1 rt1 ∧ PTo S1 kd1 lf1 rt1 ∧ PEx S kd lf rt S1 kd1 lf1 rt1 ∧ NP g S1 kd1 lf1 rt1 Pn1 k ∧ (S1 + 1 ≤ S0 + k ∧ ∀ r, S0 ≤ r → r < S1 → ∃ j, j < k ∧ Pn1 j = r) ∧ fi1 (b + 22) 5 = nI (uLf g U0 k) ∧ (∀ a : Nat, a < b + 23 ∨ a = b + 26 ∨ b + 28 ≤ a → ia1 a = ia a) ∧ ∀ a : Nat, a ≠ b + 22 → fi1 a = fi a := by
  obtain ⟨k1, k30, hok, hdk⟩ := hv
  obtain ⟨sg, hR, hA⟩ := cl_R hc
  intro m
  induction m with
  | zero =>
    intro i q ia fi S kd lf rt Pn hi hq hm ho hn hs hsj hu hop
    obtain ⟨q, rfl⟩ : ∃ k, q = k + 1 := ⟨q - 1, by omega⟩
    have hik : i = k := by omega
    subst hik
    have h0 := hop 0 (by omega)
    obtain ⟨i', rfl⟩ : ∃ j, i = j + 1 := ⟨i - 1, by omega⟩
    rw [sl_top g (by omega)] at h0
    refine ⟨ia, fi, S, kd, lf, rt, Pn, ?_, hm, ho, PEx.rf, hn, ⟨by omega, hsj⟩, hu, fun a _ => rfl, fun a _ => rfl⟩
    rw [f_X4_add_4]
    simp only [cl_I hc, Option.bind_some]
    rw [if_pos (Int32.le_refl _)]
    simp only [R_22_6, Option.bind_some]
    rw [show (0 : Int32) = nI 0 from rfl, An_27 (by decide), h0]
    rfl
  | succ m ih =>
    intro i q ia fi S kd lf rt Pn hi hq hm ho hn hs hsj hu hop
    obtain ⟨q, rfl⟩ : ∃ k, q = k + 1 := ⟨q - 1, by omega⟩
    have hik : i < k := by omega
    obtain ⟨g10, g6, g7⟩ := hok i hik
    have hdl := dpt_le g i
    have hdp := dpt_pos hok hik
    have hds := dpt_s g i
    have hS6 := ho.1
    have hlt : ¬ nI k ≤ nI i := nI_ge (by omega) (by omega)
    have hus : uLf g U0 (i + 1) = uLf g U0 i ||| (if g i < 6 then 2 ^ g i else 0) := rfl
    -- the part is put on the stack
    have step : ∀ (ia2 fi2 : Nat → Nat → Int32) (S2 : Nat) (kd2 lf2 rt2 : Nat → Nat) (r d : Nat), PTm b ia2 fi2 S2 kd2 lf2 rt2 → PTo S2 kd2 lf2 rt2 → PEx S kd lf rt S2 kd2 lf2 rt2 → (1 ≤ i + 1 ∧ S2 + 1 ≤ S0 + (i + 1)) → (S2 = S ∨ S2 = S + 1 ∧ r = S) → r < S2 → ((g i < 6 → r = g i) ∧ (g i = 6 → 6 ≤ r ∧ kd2 r = 6 ∧ lf2 r = Pn (rc g i) ∧ rt2 r = 5) ∧ (7 ≤ g i → 6 ≤ r ∧ kd2 r = g i ∧ lf2 r = Pn (lc g i) ∧ rt2 r = Pn (rc g i))) → d + 1 = dpt g (i + 1) → fi2 (b + 22) 5 = nI (uLf g U0 (i + 1)) → (∀ a : Nat, a < b + 23 ∨ b + 26 ≤ a → ia2 a = ia a) → (∀ a : Nat, a ≠ b + 22 → fi2 a = fi a) → ∃ (ia1 fi1 : Nat → Nat → Int32) (S1 : Nat) (kd1 lf1 rt1 Pn1 : Nat → Nat), f_X4_add_115 (fun a0 a1 a2 a3 a4 => f_X4_add_4 q a0 a1 a2 a3 a4) (b + 22) c (nI d) (nI i) (nI r) (wr (SK b) ia2 fi2 fl qa f) = some (nI (Pn1 (k - 1)), wr (SK b) ia1 fi1 fl qa f) ∧ PTm b ia1 fi1 S1 kd1 lf1 rt1 ∧ PTo S1 kd1 lf1 rt1 ∧ PEx S kd lf rt S1 kd1 lf1 rt1 ∧ NP g S1 kd1 lf1 rt1 Pn1 k ∧ (S1 + 1 ≤ S0 + k ∧ ∀ r, S0 ≤ r → r < S1 → ∃ j, j < k ∧ Pn1 j = r) ∧ fi1 (b + 22) 5 = nI (uLf g U0 k) ∧ (∀ a : Nat, a < b + 23 ∨ a = b + 26 ∨ b + 28 ≤ a → ia1 a = ia a) ∧ ∀ a : Nat, a ≠ b + 22 → fi1 a = fi a := by
      intro ia2 fi2 S2 kd2 lf2 rt2 r d hm2 ho2 he2 hs2 hgr hr2 hnode hd hu2 hfa hff
      have hdl1 := dpt_le g (i + 1)
      have hd30 : d < 30 := by omega
      have e30 : ¬ nI 30 ≤ nI d := nI_ge hd30 (by decide)
      have hn2 := hn.ex he2
      have hN : NP g S2 kd2 lf2 rt2 (upN Pn i r) (i + 1) := by
        intro j hj
        by_cases hji : j = i
        · subst hji
          rw [upN_s]
          refine ⟨hr2, hnode.1, fun h6 => ?_, fun h7 => ?_⟩
          · rw [upN_n _ (show rc g j ≠ j by have := rc_lt hok hik (by omega); omega)]
            exact hnode.2.1 h6
          · rw [upN_n _ (show rc g j ≠ j by have := rc_lt hok hik (by omega); omega), upN_n _ (show lc g j ≠ j by have := lc_lt hok hik h7; omega)]
            exact hnode.2.2 h7
        · have hj2 : j < i := by omega
          rw [upN_n _ hji]
          obtain ⟨a1, a2, a3, a4⟩ := hn2 j hj2
          refine ⟨a1, a2, fun h6 => ?_, fun h7 => ?_⟩
          · rw [upN_n _ (show rc g j ≠ i by have := rc_lt hok (show j < k by omega) (by omega); omega)]
            exact a3 h6
          · rw [upN_n _ (show rc g j ≠ i by have := rc_lt hok (show j < k by omega) (by omega); omega), upN_n _ (show lc g j ≠ i by have := lc_lt hok (show j < k by omega) h7; omega)]
            exact a4 h7
      have hm3 : PTm b (u2 ia2 (b + 27) d (nI r)) fi2 S2 kd2 lf2 rt2 := ⟨hm2.1, fun p hp => by rw [u2_a _ _ (by omega)]; exact hm2.2.1 p hp, fun p h6 hp => by rw [u2_a _ _ (by omega), u2_a _ _ (by omega)]; exact hm2.2.2 p h6 hp⟩
      have hop3 : ∀ e, e < dpt g (i + 1) → u2 ia2 (b + 27) d (nI r) (b + 27) e = nI (upN Pn i r (sl g (i + 1) e)) := by
        intro e he
        by_cases hed : e = d
        · subst hed
          rw [u2_s, sl_top g hd, upN_s]
        · rw [u2_i _ _ hed, sl_low g (by omega), hfa _ (by omega)]
          have hup := dpt_up g i
          have hel : e < dpt g i := by omega
          have := sl_lt g i e hel
          rw [upN_n _ (by omega)]
          exact hop e hel
      have hsj3 : ∀ r', S0 ≤ r' → r' < S2 → ∃ j, j < i + 1 ∧ upN Pn i r j = r' := by
        intro r' h1 h2
        by_cases hrS : r' < S
        · obtain ⟨j, j1, j2⟩ := hsj r' h1 hrS
          exact ⟨j, by omega, by rw [upN_n _ (by omega)]; exact j2⟩
        · exact ⟨i, by omega, by rw [upN_s]; omega⟩
      obtain ⟨ia1, fi1, S1, kd1, lf1, rt1, Pn1, z1, z2, z3, z4, z5, z6, z7, z8, z9⟩ := ih (i + 1) q _ fi2 S2 kd2 lf2 rt2 (upN Pn i r) (by omega) (by omega) hm3 ho2 hN (Or.inr hs2) hsj3 hu2 hop3
      refine ⟨ia1, fi1, S1, kd1, lf1, rt1, Pn1, ?_, z2, z3, he2.tr z4, z5, z6, z7, fun a ha => ?_, fun a ha => ?_⟩
      · unfold f_X4_add_115 f_X4_add_135
        simp only [R_22_6, L_27, Option.bind_some, if_neg e30, sAn_27 hd30, nI_1, hd]
        exact z1
      · rw [z8 a ha, u2_row _ _ (by omega), hfa a (by omega)]
      · rw [z9 a ha, hff a ha]
    rw [f_X4_add_4]
    simp only [cl_I hc, Option.bind_some, if_neg hlt, hR, hA _ _ _ _ i hik (by omega)]
    by_cases c6 : g i < 6
    · have e5 : ¬ (5 : Int32) < nI (g i) := nI_nlt (a := 5) (b := g i) (by omega) (by omega)
      rw [if_pos c6] at hds hus
      rw [if_neg e5]
      simp only [I_22_5, sI_22_5, Option.bind_some, hu, bt_shl (show g i < 32 by omega), fa_or]
      refine step ia (u2 fi (b + 22) 5 (nI (uLf g U0 i ||| 2 ^ g i))) S kd lf rt (g i) (dpt g i) ⟨by rw [u2_i _ _ (by decide)]; exact hm.1, hm.2⟩ ho PEx.rf (by omega) (Or.inl rfl) (by omega) ⟨fun _ => rfl, fun h => absurd h (by omega), fun h => absurd h (by omega)⟩ (by omega) (by rw [u2_s, hus]) (fun a _ => rfl) (fun a ha => u2_row _ _ ha)
    · have e5 : (5 : Int32) < nI (g i) := nI_lt (a := 5) (by omega) (by omega)
      rw [if_neg c6] at hds hus
      rw [Nat.or_zero] at hus
      have hd1 := g6 (by omega)
      have i1 : 1 ≤ i := by omega
      have hS151 : S < 151 := by omega
      have hrc := rc_lt hok hik (by omega)
      have hPr : ia (b + 27) (dpt g i - 1) = nI (Pn (rc g i)) := hop _ (by omega)
      have hPrS := (hn _ hrc).1
      rw [if_pos e5]
      by_cases c7 : g i = 6
      · rw [if_pos c7] at hds
        rw [c7, if_pos (show nI 6 = (6 : Int32) from rfl)]
        obtain ⟨ia1, fi1, S1, kd1, lf1, rt1, r, y1, y2, y3, y4, y5, y6, y7, y8⟩ := find_ok (fl := fl) (qa := qa) (f := f) hm ho hS151 (k := 6) (x := Pn (rc g i)) (y := 5) (by decide) (by decide) hPrS (by omega) (fun _ => rfl)
        simp only [R_22_6, Option.bind_some, mx1 hd1 (show dpt g i < 2 ^ 31 by omega), at_27 (show dpt g i - 1 < 30 by omega), hPr, ck_22]
        rw [show (6 : Int32) = nI 6 from rfl, show (5 : Int32) = nI 5 from rfl, y1]
        simp only [Option.bind_some]
        exact step ia1 fi1 S1 kd1 lf1 rt1 r (dpt g i - 1) y2 y3 y4 (by omega) y5 y6.2.1 ⟨fun h => absurd h c6, fun _ => ⟨y6.1, y6.2.2⟩, fun h => absurd h (by omega)⟩ (by omega) (by rw [y8 _ _ (by omega), hus]; exact hu) y7 (fun a ha => funext fun j => y8 a j (Or.inl ha))
      · rw [if_neg c7] at hds
        have hd2 := g7 (by omega)
        have hlc := lc_lt hok hik (by omega)
        have hPl : ia (b + 27) (dpt g i - 2) = nI (Pn (lc g i)) := hop _ (by omega)
        have hPlS := (hn _ hlc).1
        have e7 : ¬ nI (g i) = (6 : Int32) := fun e => c7 ((nI_eq (b := 6) (by omega) (by decide)).mp e)
        rw [if_neg e7]
        obtain ⟨ia1, fi1, S1, kd1, lf1, rt1, r, y1, y2, y3, y4, y5, y6, y7, y8⟩ := find_ok (fl := fl) (qa := qa) (f := f) hm ho hS151 (k := g i) (x := Pn (lc g i)) (y := Pn (rc g i)) (by omega) (by omega) hPlS hPrS (fun h => absurd h c7)
        simp only [R_22_6, Option.bind_some, mx2 hd2 (show dpt g i < 2 ^ 31 by omega), at_27 (show dpt g i - 2 < 30 by omega), hPl, nI_1, show dpt g i - 2 + 1 = dpt g i - 1 by omega, at_27 (show dpt g i - 1 < 30 by omega), hPr, ck_22, y1]
        exact step ia1 fi1 S1 kd1 lf1 rt1 r (dpt g i - 2) y2 y3 y4 (by omega) y5 y6.2.1 ⟨fun h => absurd h c6, fun h => absurd h c7, fun _ => ⟨y6.1, y6.2.2⟩⟩ (by omega) (by rw [y8 _ _ (by omega), hus]; exact hu) y7 (fun a ha => funext fun j => y8 a j (Or.inl ha))
end ADD
