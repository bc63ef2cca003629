/-! THE REFERENCE: where a claim holds -/
section HOLDM
variable {b n : Nat} {L F : Nat → Nat} {ia fi : Nat → Nat → Int32} {fl : Nat → Nat → Int64} {qa : Nat → Nat → Option Nat} {f : mmF}
theorem al_not {a x n : Nat} (ha : a < 2 ^ n) (h8 : n ≤ 8) : a &&& (255 ^^^ ((2 ^ n - 1) &&& (255 ^^^ x))) = a &&& x := by
  refine Nat.eq_of_testBit_eq fun j => ?_
  rw [Nat.testBit_and, Nat.testBit_and, Nat.testBit_xor, Nat.testBit_and, Nat.testBit_xor, show (255 : Nat) = 2 ^ 8 - 1 from rfl, Nat.testBit_two_pow_sub_one, Nat.testBit_two_pow_sub_one]
  by_cases hj : j < n
  · rw [decide_eq_true hj, decide_eq_true (show j < 8 by omega)]
    cases a.testBit j <;> cases x.testBit j <;> rfl
  · rw [bt_lt ha (by omega)]
    rfl
theorem al_if {a x y n : Nat} (ha : a < 2 ^ n) (h8 : n ≤ 8) : a &&& (255 ^^^ (((2 ^ n - 1) &&& (255 ^^^ x)) ||| y)) = a &&& (x &&& (255 ^^^ y)) := by
  refine Nat.eq_of_testBit_eq fun j => ?_
  rw [Nat.testBit_and, Nat.testBit_and, Nat.testBit_xor, Nat.testBit_or, Nat.testBit_and, Nat.testBit_and, Nat.testBit_xor, Nat.testBit_xor, show (255 : Nat) = 2 ^ 8 - 1 from rfl, Nat.testBit_two_pow_sub_one, Nat.testBit_two_pow_sub_one]
  by_cases hj : j < n
  · rw [decide_eq_true hj, decide_eq_true (show j < 8 by omega)]
    cases a.testBit j <;> cases x.testBit j <;> cases y.testBit j <;> rfl
  · rw [bt_lt ha (by omega)]
    rfl
theorem m_always_4 (h : MS (ia (b + 84)) n L F) (w : WF n L F) {v : Int32} {u : Nat} (hv : ∀ s, s < n → nI (L s) &&& (v ^^^ (-1 : Int32)) = nI (L s &&& u)) : ∀ (m i q : Nat), i + m = n → m < q → f_X10_always_4 (wr (SK b) ia fi fl qa f) q (b + 83) v (nI (alo L i u)) (nI i) = some (nI (alo L n u)) := by
  have h8 := w.2.1
  intro m
  induction m with
  | zero =>
    intro i q hi hm
    obtain ⟨q, rfl⟩ : ∃ k, q = k + 1 := ⟨q - 1, by omega⟩
    have hin : i = n := by omega
    subst hin
    rw [f_X10_always_4]
    simp only [R_83_0, A16, Option.bind_some, h.1]
    rw [if_pos (Int32.le_refl _)]
  | succ m ih =>
    intro i q hi hm
    obtain ⟨q, rfl⟩ : ∃ k, q = k + 1 := ⟨q - 1, by omega⟩
    have hin : i < n := by omega
    have hlt : ¬ nI n ≤ nI i := nI_ge (by omega) (by omega)
    have q1 : (nI (L i &&& u) = 0) = (L i &&& u = 0) := propext (nI_eq (b := 0) (Nat.lt_of_le_of_lt Nat.and_le_left (Nat.lt_trans (w.L31 hin) (by decide))) (by decide))
    rw [f_X10_always_4]
    simp only [R_83_0, A16, Option.bind_some, h.1, if_neg hlt, n0, An_84 (show i < 172 by omega), (h.2 i hin).1, hv i hin]
    rw [← ih (i + 1) q (by omega) (by omega)]
    show _ = f_X10_always_4 _ q (b + 83) v (nI (alo L i u ||| (if L i &&& u = 0 then 2 ^ i else 0))) (nI (i + 1))
    unfold f_X10_always_38
    by_cases hE : L i &&& u = 0
    · rw [if_pos (q1.mpr hE), if_pos hE, bt_shl (show i < 32 by omega), fa_or, nI_1]
    · rw [if_neg (fun e => hE (q1.mp e)), if_neg hE, show (0 : Int32) = nI 0 from rfl, fa_or, nI_1]
theorem m_always (h : MS (ia (b + 84)) n L F) (w : WF n L F) {v : Int32} {u : Nat} (hv : ∀ s, s < n → nI (L s) &&& (v ^^^ (-1 : Int32)) = nI (L s &&& u)) : f_X10_always (b + 83) v (wr (SK b) ia fi fl qa f) = some (nI (alo L n u)) := by
  obtain ⟨q, hq⟩ := FU_1000
  have h8 := w.2.1
  exact m_always_4 h w hv n 0 FU (by omega) (by omega)
theorem nsub1 {d : Nat} (h : 1 ≤ d) : nI d - 1 = nI (d - 1) := pk_sub (a := d) (b := 1) h
theorem nadm1 {d : Nat} (h : 1 ≤ d) : nI d + (-1 : Int32) = nI (d - 1) := by
  rw [← nsub1 h, Int32.sub_eq_add_neg]
theorem m_hold_26 (h : MS (ia (b + 84)) n L F) (w : WF n L F) {base k : Nat} {g : Nat → Nat} (hb : base + k < 172) (hrow : ia (b + 84) base = nI k) (hg : ∀ j, j < k → ia (b + 84) (base + (1 + j)) = nI (g j)) (hv : VC k g) : ∀ (m i q : Nat) (R : Nat → Int32), i + m = k → m < q → (∀ d, d < dpt g i → R d = nI (hN n L F g (sl g i d))) → ∃ R1 : Nat → Int32, f_X10_holding_26 q (b + 83) (nI base) (nI (2 ^ n - 1)) (nI (dpt g i)) (nI (1 + i)) (wr (SK b) (rw2 ia (b + 92) R) fi fl qa f) = some (nI (hN n L F g (k - 1)), wr (SK b) (rw2 ia (b + 92) R1) fi fl qa f) := by
  have h8 := w.2.1
  obtain ⟨k1, k30, hok, hd1⟩ := hv
  have e90 : b + 84 ≠ b + 92 := by omega
  have h' : ∀ R : Nat → Int32, MS (rw2 ia (b + 92) R (b + 84)) n L F := fun R => by rw [rw2_n _ _ e90]; exact h
  have hN8 : ∀ i, i < k → hN n L F g i < 256 := fun i hi => Nat.lt_of_lt_of_le (hN_lt L F hok i hi) (p8 h8)
  have hall : 2 ^ n - 1 < 256 := by have := p8 h8; have := Nat.two_pow_pos n; omega
  intro m
  induction m with
  | zero =>
    intro i q R hi hm hR
    obtain ⟨q, rfl⟩ : ∃ k, q = k + 1 := ⟨q - 1, by omega⟩
    have hin : i = k := by omega
    subst hin
    refine ⟨R, ?_⟩
    have hlt : nI i < nI (1 + i) := nI_lt (by omega) (by omega)
    have h0 := hR 0 (by omega)
    obtain ⟨i', rfl⟩ : ∃ j, i = j + 1 := ⟨i - 1, by omega⟩
    rw [sl_top g (by omega)] at h0
    rw [f_X10_holding_26]
    simp only [R_83_0, An_84 (show base < 172 by omega), Option.bind_some, rw2_n _ _ e90, hrow, if_pos hlt, R_83_14]
    rw [show (0 : Int32) = nI 0 from rfl, An_92 (by decide), rw2_s, h0]
    rfl
  | succ m ih =>
    intro i q R hi hm hR
    obtain ⟨q, rfl⟩ : ∃ k, q = k + 1 := ⟨q - 1, by omega⟩
    have hik : i < k := by omega
    have hlt : ¬ nI k < nI (1 + i) := nI_nlt (by omega) (by omega)
    obtain ⟨g10, g6, g7⟩ := hok i hik
    have hdl := dpt_le g i
    have hdp := dpt_pos hok hik
    have hds := dpt_s g i
    have hat : nI base + nI (1 + i) = nI (base + (1 + i)) := nI_add _ _
    -- the stack behind the sign
    have push : ∀ (d : Nat) (x : Int32), d + 1 = dpt g (i + 1) → x = nI (hN n L F g i) → ∀ e, e < dpt g (i + 1) → (fun j => if j = d then x else R j) e = nI (hN n L F g (sl g (i + 1) e)) := by
      intro d x hd hx e he
      by_cases hed : e = d
      · subst hed
        rw [sl_top g hd]
        exact (if_pos rfl).trans hx
      · rw [sl_low g (by omega)]
        refine (if_neg hed).trans (hR e ?_)
        have := dpt_up g i
        omega
    have next : ∀ (d : Nat) (x : Int32), d + 1 = dpt g (i + 1) → x = nI (hN n L F g i) → ∃ R1 : Nat → Int32, f_X10_holding_26 q (b + 83) (nI base) (nI (2 ^ n - 1)) (nI (dpt g (i + 1))) (nI (1 + i + 1)) (wr (SK b) (rw2 ia (b + 92) (fun j => if j = d then x else R j)) fi fl qa f) = some (nI (hN n L F g (k - 1)), wr (SK b) (rw2 ia (b + 92) R1) fi fl qa f) := by
      intro d x hd hx
      rw [show 1 + i + 1 = 1 + (i + 1) by omega]
      exact ih (i + 1) q _ (by omega) (by omega) (push d x hd hx)
    rw [f_X10_holding_26]
    simp only [R_83_0, An_84 (show base < 172 by omega), Option.bind_some, rw2_n _ _ e90, hrow, if_neg hlt, hat, An_84 (show base + (1 + i) < 172 by omega), hg i hik]
    by_cases c6 : g i < 6
    · have e6 : ¬ (6 : Int32) ≤ nI (g i) := nI_ge (b := 6) c6 (by decide)
      rw [if_pos c6] at hds
      have hH : hN n L F g i = hLf n F (g i) := nv_lf c6
      rw [if_neg e6]
      simp only [R_83_14, Option.bind_some]
      unfold f_X10_holding_87 f_X10_holding_205
      by_cases c4 : g i < 4
      · have e4 : ¬ (4 : Int32) ≤ nI (g i) := nI_ge (b := 4) c4 (by decide)
        rw [if_neg e4]
        simp only [ck_83, m_knownAt (h' R) w (show g i < 32 by omega), Option.bind_some, sAn_92 (show dpt g i < 32 by omega), u2_rw2, nI_1, ← hds]
        refine next (dpt g i) _ (by omega) ?_
        rw [hH, hLf, if_pos c4]
      · have e4 : (4 : Int32) ≤ nI (g i) := nI_le (a := 4) (by omega) (by omega)
        rw [if_pos e4]
        by_cases d4 : g i = 4
        · rw [d4, if_pos (show nI 4 = (4 : Int32) from rfl)]
          simp only [Option.bind_some, sAn_92 (show dpt g i < 32 by omega), u2_rw2, nI_1, ← hds]
          refine next (dpt g i) _ (by omega) ?_
          rw [hH, hLf, if_neg c4, if_pos d4]
        · have e5 : ¬ nI (g i) = (4 : Int32) := fun e => d4 ((nI_eq (b := 4) (by omega) (by decide)).mp e)
          rw [if_neg e5]
          simp only [Option.bind_some, sAn_92 (show dpt g i < 32 by omega), u2_rw2, nI_1, ← hds]
          refine next (dpt g i) _ (by omega) ?_
          rw [hH, hLf, if_neg c4, if_neg d4]
          rfl
    · have e6 : (6 : Int32) ≤ nI (g i) := nI_le (a := 6) (by omega) (by omega)
      rw [if_neg c6] at hds
      have hd1 := g6 (by omega)
      have hrc := rc_lt hok hik (by omega)
      have hRr : R (dpt g i - 1) = nI (hN n L F g (rc g i)) := hR _ (by omega)
      rw [if_pos e6]
      by_cases c7 : g i = 6
      · rw [if_pos c7] at hds
        have hH : hN n L F g i = alo L n (hN n L F g (rc g i)) := nv_un c7 hrc
        rw [c7, if_pos (show nI 6 = (6 : Int32) from rfl)]
        have hx := hN8 _ (show rc g i < k by omega)
        have hal := m_always (fi := fi) (fl := fl) (qa := qa) (f := f) (h' R) w (v := nI ((2 ^ n - 1) &&& (255 ^^^ hN n L F g (rc g i)))) (u := hN n L F g (rc g i)) (fun s hs => by
          rw [and_no _ (Nat.lt_of_le_of_lt Nat.and_le_left hall) _ (w.L31 hs), al_not (w.2.2 s hs).1 h8])
        simp only [R_83_14, Option.bind_some, nsub1 hd1, An_92 (show dpt g i - 1 < 32 by omega), rw2_s, hRr, ck_83, and_no _ hx _ hall, hal, sAn_92 (show dpt g i - 1 < 32 by omega), u2_rw2]
        unfold f_X10_holding_205
        rw [nI_1, ← hds]
        exact next (dpt g (i + 1) - 1) _ (by omega) (by rw [hH])
      · rw [if_neg c7] at hds
        have hd2 := g7 (by omega)
        have hlc := lc_lt hok hik (by omega)
        have hRl : R (dpt g i - 2) = nI (hN n L F g (lc g i)) := hR _ (by omega)
        have hH : hN n L F g i = hBn n L (g i) (hN n L F g (lc g i)) (hN n L F g (rc g i)) := nv_bn (by omega) hlc hrc
        have e7 : ¬ nI (g i) = (6 : Int32) := fun e => c7 ((nI_eq (b := 6) (by omega) (by decide)).mp e)
        have hx := hN8 _ (show lc g i < k by omega)
        have hy := hN8 _ (show rc g i < k by omega)
        have q7 : (nI (g i) = (7 : Int32)) = (g i = 7) := propext (nI_eq (b := 7) (by omega) (by decide))
        have q8 : (nI (g i) = (8 : Int32)) = (g i = 8) := propext (nI_eq (b := 8) (by omega) (by decide))
        rw [if_neg e7]
        simp only [R_83_14, Option.bind_some, nadm1 hd1, nsub1 (show 1 ≤ dpt g i - 1 by omega), An_92 (show dpt g i - 1 < 32 by omega), An_92 (show dpt g i - 2 < 32 by omega), rw2_s, show dpt g i - 1 - 1 = dpt g i - 2 by omega, hRl, hRr]
        unfold f_X10_holding_204 f_X10_holding_205
        by_cases d7 : g i = 7
        · rw [if_pos (q7.mpr d7)]
          simp only [sAn_92 (show dpt g i - 2 < 32 by omega), Option.bind_some, u2_rw2]
          rw [nI_1, ← hds]
          exact next (dpt g i - 2) _ (by omega) (by rw [hH, hBn, if_pos d7, fa_and])
        · rw [if_neg (fun e => d7 (q7.mp e))]
          by_cases d8 : g i = 8
          · rw [if_pos (q8.mpr d8)]
            simp only [sAn_92 (show dpt g i - 2 < 32 by omega), Option.bind_some, u2_rw2]
            rw [nI_1, ← hds]
            exact next (dpt g i - 2) _ (by omega) (by rw [hH, hBn, if_neg d7, if_pos d8, fa_or])
          · rw [if_neg (fun e => d8 (q8.mp e))]
            have hvv : ((2 ^ n - 1) &&& (255 ^^^ hN n L F g (lc g i))) ||| hN n L F g (rc g i) < 256 := or_lt (n := 8) (Nat.lt_of_le_of_lt Nat.and_le_left hall) hy
            have hal := m_always (fi := fi) (fl := fl) (qa := qa) (f := f) (h' R) w (v := nI (((2 ^ n - 1) &&& (255 ^^^ hN n L F g (lc g i))) ||| hN n L F g (rc g i))) (u := hN n L F g (lc g i) &&& (255 ^^^ hN n L F g (rc g i))) (fun s hs => by
              rw [and_no _ hvv _ (w.L31 hs), al_if (w.2.2 s hs).1 h8])
            simp only [ck_83, Option.bind_some, and_no _ hx _ hall, fa_or, hal, sAn_92 (show dpt g i - 2 < 32 by omega), u2_rw2]
            rw [nI_1, ← hds]
            exact next (dpt g i - 2) _ (by omega) (by rw [hH, hBn, if_neg d7, if_neg d8])
theorem m_holding (h : MS (ia (b + 84)) n L F) (w : WF n L F) {p k : Nat} {g : Nat → Nat} (hp : p < 5) (hrow : ia (b + 84) (17 + 31 * p) = nI k) (hg : ∀ j, j < k → ia (b + 84) (17 + 31 * p + (1 + j)) = nI (g j)) (hv : VC k g) : ∃ R1 : Nat → Int32, f_X10_holding (b + 83) (nI p) (wr (SK b) ia fi fl qa f) = some (nI (hN n L F g (k - 1)), wr (SK b) (rw2 ia (b + 92) R1) fi fl qa f) := by
  obtain ⟨q, hq⟩ := FU_1000
  have h8 := w.2.1
  have k30 := hv.2.1
  obtain ⟨R1, hR⟩ := m_hold_26 (fi := fi) (fl := fl) (qa := qa) (f := f) h w (show 17 + 31 * p + k < 172 by omega) hrow hg hv k 0 FU (ia (b + 92)) (by omega) (by omega) (fun d hd => absurd hd (Nat.not_lt_zero _))
  rw [rw2_id] at hR
  refine ⟨R1, ?_⟩
  have e1 : (1 : Int32) <<< (nI n &&& 31) - 1 = nI (2 ^ n - 1) := by
    rw [bt_shl (show n < 32 by omega)]
    exact pk_sub (a := 2 ^ n) (b := 1) (Nat.two_pow_pos n)
  unfold f_X10_holding
  simp only [R_83_0, A16, Option.bind_some, h.1, e1, at17]
  exact hR
end HOLDM
