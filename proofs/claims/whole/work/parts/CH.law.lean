/-! THE LAW'S LOOP: both sides answer alike, call by call -/
section LAW
variable {b : Nat} {f : mmF} {Ω : mO}
theorem t_claim (w : WO Ω) (hr : refF b f Ω) {kn : Nat} (hkn : KNf b f kn) (x y : Int32) : Meth b f Ω (fun μ => f_X9_claim kn b x y μ) (fun μ => f_X10_claim (b + 83) x y μ) := by
  by_cases h56 : y ≠ 5 ∧ y ≠ 6
  · exact t_claim_no w hkn x y h56.1 h56.2
  · by_cases hx : ∃ k, k < 5 ∧ x = nI k ∧ 0 < Ω.1.2.2.2.1 k
    · obtain ⟨k, hk, rfl, h0⟩ := hx
      by_cases h5 : y = 5
      · subst h5; exact t_claim_5 w hr hkn hk h0
      · by_cases h6 : y = 6
        · subst h6; exact t_claim_6 w hkn hk h0
        · exact absurd ⟨h5, h6⟩ h56
    · refine ⟨-1, Ω, w, fun ia fi fl qa h => ?_, fun ia fi fl qa h => ?_⟩
      · show CRes b f ia fi (f_X9_claim kn b x y _) _ _
        have hn : f_X9_claimAt b x (wr (SK b) ia fi fl qa f) = some none := by
          by_cases hz : ∃ k, k < 5 ∧ x = nI k
          · obtain ⟨k, hk, rfl⟩ := hz
            rw [claimAt_t hk]
            rcases h.1.2 k hk with ⟨_, h1⟩ | ⟨h1, _⟩
            · exact congrArg some h1
            · exact absurd ⟨k, hk, rfl, h1⟩ hx
          · exact claimAt_f (fun k hk e => hz ⟨k, hk, e⟩)
        unfold f_X9_claim
        simp only [ck_0, hn, qc, Option.bind_some]
        exact CRes.same h
      · show MRes b f ia fi qa (f_X10_claim (b + 83) x y _) _ _
        have hn : f_X10_noClaim (b + 83) x (wr (SK b) ia fi fl qa f) = some 1 := by
          by_cases hz : ∃ k, k < 5 ∧ x = nI k
          · obtain ⟨k, hk, rfl⟩ := hz
            have k30 := w.1.k30 hk
            rw [noClaim_t h.1.2 hk (show Ω.1.2.2.2.1 k < 2 ^ 31 by omega)]
            by_cases h0 : Ω.1.2.2.2.1 k = 0
            · rw [if_pos h0]
            · exact absurd ⟨k, hk, rfl, by omega⟩ hx
          · exact noClaim_f (fun k hk e => hz ⟨k, hk, e⟩)
        unfold f_X10_claim
        simp only [ck_83, hn, Option.bind_some, i10, if_false]
        exact MRes.same h
theorem step_M {ia fi : Nat → Nat → Int32} {fl : Nat → Nat → Int64} {qa : Nat → Nat → Option Nat} {C M : mmF → Option (Int32 × mmF)} (hm : Meth b f Ω C M) (hc : CR b ia fi qa f Ω) (hr : MR b ia fi Ω) : ∃ (v : Int32) (ia1 fi1 : Nat → Nat → Int32) (fl1 : Nat → Nat → Int64) (qa1 : Nat → Nat → Option Nat) (ia2 fi2 : Nat → Nat → Int32) (fl2 : Nat → Nat → Int64) (Ω1 : mO), WO Ω1 ∧ C (wr (SK b) ia fi fl qa f) = some (v, wr (SK b) ia1 fi1 fl1 qa1 f) ∧ M (wr (SK b) ia1 fi1 fl1 qa1 f) = some (v, wr (SK b) ia2 fi2 fl2 qa1 f) ∧ CR b ia2 fi2 qa1 f Ω1 ∧ MR b ia2 fi2 Ω1 := by
  obtain ⟨v, Ω1, w1, h1, h2⟩ := hm
  obtain ⟨ia1, fi1, fl1, qa1, a1, a2, a3⟩ := h1 ia fi fl qa hc
  obtain ⟨ia2, fi2, fl2, b1, b2, b3⟩ := h2 ia1 fi1 fl1 qa1 (hr.high a3)
  exact ⟨v, ia1, fi1, fl1, qa1, ia2, fi2, fl2, Ω1, w1, a1, b1, a2.low b3, b2⟩
theorem step_P {sz : Nat} {ia fi : Nat → Nat → Int32} {fl : Nat → Nat → Int64} {qa : Nat → Nat → Option Nat} {C : mmF → Nat → Option (Int32 × mmF × Nat)} {M : mmF → Option (Int32 × mmF)} (hm : MethP b f sz Ω C M) (hc : CR b ia fi qa f Ω) (hr : MR b ia fi Ω) : ∃ (v : Int32) (ia1 fi1 : Nat → Nat → Int32) (fl1 : Nat → Nat → Int64) (qa1 : Nat → Nat → Option Nat) (f1 : mmF) (sz1 : Nat) (ia2 fi2 : Nat → Nat → Int32) (fl2 : Nat → Nat → Int64) (Ω1 : mO), WO Ω1 ∧ C (wr (SK b) ia fi fl qa f) sz = some (v, wr (SK b) ia1 fi1 fl1 qa1 f1, sz1) ∧ M (wr (SK b) ia1 fi1 fl1 qa1 f1) = some (v, wr (SK b) ia2 fi2 fl2 qa1 f1) ∧ CR b ia2 fi2 qa1 f1 Ω1 ∧ MR b ia2 fi2 Ω1 ∧ sz ≤ sz1 ∧ extM f f1 ∧ fresh f1 sz1 := by
  obtain ⟨v, Ω1, w1, h1, h2⟩ := hm
  obtain ⟨ia1, fi1, fl1, qa1, f1, sz1, a1, a2, a3, a4, a5, a6, a7⟩ := h1 ia fi fl qa hc
  obtain ⟨ia2, fi2, fl2, b1, b2, b3⟩ := h2 f1 ia1 fi1 fl1 qa1 (hr.high a3)
  exact ⟨v, ia1, fi1, fl1, qa1, f1, sz1, ia2, fi2, fl2, Ω1, w1, a1, b1, a2.low b3, b2, a4, a6, a7⟩
theorem i2c_n (x : Int32) : ∃ c, c < 65536 ∧ mm_i2c x = nI c ∧ vp_nar .char (nI c) = nI c := by
  refine ⟨x.toBitVec.toNat % 65536, Nat.mod_lt _ (by decide), pk_char x, ?_⟩
  have h : x.toBitVec.toNat % 65536 < 65536 := Nat.mod_lt _ (by decide)
  have e := pk_char (nI (x.toBitVec.toNat % 65536))
  rw [pk_tn (Nat.lt_trans h (by decide)), Nat.mod_eq_of_lt h] at e
  exact e
theorem rd_1 {s0 L k : Nat} {xs : Nat → Int32} {ia fi : Nat → Nat → Int32} {fl : Nat → Nat → Int64} {qa : Nat → Nat → Option Nat} (hs : s0 < b) (hF : f s0 = some (.inl (9, L, .inl xs))) (hk : k < L) (hL : L ≤ 2560) : ldA 0 (wr (SK b) ia fi fl qa f) s0 (nI k) = some (xs k) := by
  have h := SK_low hs
  have hn := nI_clamp (n := k) (by omega)
  have h0 : ¬ (nI k < 0 ∨ L ≤ (nI k).toNatClampNeg) := by
    rw [hn]
    rintro (hx | hx)
    · exact nI_pos (by omega) hx
    · omega
  simp only [ldA, wr_o h, hF, or_true, and_self, true_and, if_pos h0]
  rw [hn]
theorem rd_all {s0 L i : Nat} {xs : Nat → Int32} {ia fi : Nat → Nat → Int32} {fl : Nat → Nat → Int64} {qa : Nat → Nat → Option Nat} (hs : s0 < b) (hF : f s0 = some (.inl (9, L, .inl xs))) (hk : 5 * i + 5 ≤ L) (hL : L ≤ 2560) : ldA 0 (wr (SK b) ia fi fl qa f) s0 (nI (5 * i)) = some (xs (5 * i)) ∧ ldA 0 (wr (SK b) ia fi fl qa f) s0 (nI (5 * i) + (1 : Int32)) = some (xs (5 * i + 1)) ∧ ldA 0 (wr (SK b) ia fi fl qa f) s0 (nI (5 * i) + (2 : Int32)) = some (xs (5 * i + 2)) ∧ ldA 0 (wr (SK b) ia fi fl qa f) s0 (nI (5 * i) + (3 : Int32)) = some (xs (5 * i + 3)) ∧ ldA 0 (wr (SK b) ia fi fl qa f) s0 (nI (5 * i) + (4 : Int32)) = some (xs (5 * i + 4)) := by
  refine ⟨rd_1 hs hF (by omega) hL, ?_, ?_, ?_, ?_⟩
  · rw [nI_1]; exact rd_1 hs hF (by omega) hL
  · rw [show (2 : Int32) = nI 2 from rfl, nI_add]; exact rd_1 hs hF (by omega) hL
  · rw [show (3 : Int32) = nI 3 from rfl, nI_add]; exact rd_1 hs hF (by omega) hL
  · rw [show (4 : Int32) = nI 4 from rfl, nI_add]; exact rd_1 hs hF (by omega) hL
theorem law_18 {s0 kn L : Nat} {xs : Nat → Int32} (hs : s0 < b) (hL : L ≤ 2560) (hR : ∀ (f : mmF) (Ω : mO), WO Ω → refF b f Ω) : ∀ (m i q : Nat) (ia fi : Nat → Nat → Int32) (fl : Nat → Nat → Int64) (qa : Nat → Nat → Option Nat) (f : mmF) (Ω : mO) (sz kc ks : Nat), i + m = 513 → m < q → f s0 = some (.inl (9, L, .inl xs)) → KNf b f kn → fresh f sz → b + 102 ≤ sz → kc ≤ 102 + 3 * i → ks ≤ 122720 + 130 * i → CR b ia fi qa f Ω → MR b ia fi Ω → WO Ω → ∃ res : Int32 × mmF × Nat, f_L_law_18 kn q s0 b (b + 83) (nI (5 * i)) (wr (SK b) ia fi fl qa f) sz kc ks = some res ∧ res.1 = 1 := by
  intro m
  induction m with
  | zero =>
    intro i q ia fi fl qa f Ω sz kc ks hi hq hF hkn hfr hsz hkc hks hc hm w
    obtain ⟨q, rfl⟩ : ∃ k, q = k + 1 := ⟨q - 1, by omega⟩
    have hlen : lenA (wr (SK b) ia fi fl qa f) s0 = some (nI L) := by
      simp only [lenA, wr_o (SK_low hs), hF]
      rfl
    have hlt : nI L - (5 : Int32) < nI (5 * i) := by
      rw [Int32.lt_iff_toInt_lt, show (5 : Int32) = nI 5 from rfl, pk_sub_toInt (by omega) (by decide), nI_toInt (by omega)]
      omega
    rw [f_L_law_18]
    simp only [hlen, Option.bind_some, if_pos hlt, if_neg (show ¬ ¬ (kc ≤ 600000 ∧ ks ≤ 7302250) by omega)]
    exact ⟨_, rfl, rfl⟩
  | succ m ih =>
    intro i q ia fi fl qa f Ω sz kc ks hi hq hF hkn hfr hsz hkc hks hc hm w
    obtain ⟨q, rfl⟩ : ∃ k, q = k + 1 := ⟨q - 1, by omega⟩
    have hlen : lenA (wr (SK b) ia fi fl qa f) s0 = some (nI L) := by
      simp only [lenA, wr_o (SK_low hs), hF]
      rfl
    have hiff : (nI L - (5 : Int32) < nI (5 * i)) = (L < 5 * i + 5) := by
      rw [Int32.lt_iff_toInt_lt, show (5 : Int32) = nI 5 from rfl, pk_sub_toInt (by omega) (by decide), nI_toInt (by omega)]
      exact propext ⟨fun h => by omega, fun h => by omega⟩
    rw [f_L_law_18]
    simp only [hlen, Option.bind_some, hiff]
    by_cases hend : L < 5 * i + 5
    · rw [if_pos hend, if_neg (show ¬ ¬ (kc ≤ 600000 ∧ ks ≤ 7302250) by omega)]
      exact ⟨_, rfl, rfl⟩
    rw [if_neg hend]
    have r0 := rd_all (ia := ia) (fi := fi) (fl := fl) (qa := qa) hs hF (show 5 * i + 5 ≤ L by omega) hL
    have hroom : ¬ ¬ (kc + 0 ≤ 600000 ∧ ks + 0 ≤ 7302250) := by omega
    have next : ∀ (ia fi : Nat → Nat → Int32) (fl : Nat → Nat → Int64) (qa : Nat → Nat → Option Nat) (f : mmF) (Ω : mO) (sz kc ks : Nat), f s0 = some (.inl (9, L, .inl xs)) → KNf b f kn → fresh f sz → b + 102 ≤ sz → kc ≤ 102 + 3 * (i + 1) → ks ≤ 122720 + 130 * (i + 1) → CR b ia fi qa f Ω → MR b ia fi Ω → WO Ω → ∃ res : Int32 × mmF × Nat, f_L_law_798 kn (fun a0 a1 a2 a3 a4 a5 a6 a7 => f_L_law_18 kn q a0 a1 a2 a3 a4 a5 a6 a7) s0 b (b + 83) (nI (5 * i)) (wr (SK b) ia fi fl qa f) sz kc ks = some res ∧ res.1 = 1 := by
      intro ia fi fl qa f Ω sz kc ks h1 h2 h3 h4 h5 h6 h7 h8 h9
      unfold f_L_law_798
      rw [show (5 : Int32) = nI 5 from rfl, nI_add, show 5 * i + 5 = 5 * (i + 1) by omega]
      exact ih (i + 1) q ia fi fl qa f Ω sz kc ks (by omega) (by omega) h1 h2 h3 h4 h5 h6 h7 h8 h9
    simp only [r0.1, Option.bind_some]
    by_cases c0 : xs (5 * i) &&& (31 : Int32) = (0 : Int32)
    · rw [if_pos c0]
      obtain ⟨v, ia1, fi1, fl1, qa1, ia2, fi2, fl2, Ω1, w1, e1, e2, h1, h2⟩ := step_M (fl := fl) (t_addStage w (xs (5 * i + 1))) hc hm
      have r1 := rd_all (ia := ia1) (fi := fi1) (fl := fl1) (qa := qa1) hs hF (show 5 * i + 5 ≤ L by omega) hL
      simp only [r0.2.1, r0.2.2.1, ck_0, Option.bind_some, if_neg hroom, e1, r1.2.1, r1.2.2.1, ck_83, e2, if_true]
      exact next ia2 fi2 fl2 qa1 f Ω1 sz kc ks hF hkn hfr hsz (by omega) (by omega) h1 h2 w1
    rw [if_neg c0]
    by_cases c1 : xs (5 * i) &&& (31 : Int32) = (1 : Int32)
    · rw [if_pos c1]
      obtain ⟨v, ia1, fi1, fl1, qa1, ia2, fi2, fl2, Ω1, w1, e1, e2, h1, h2⟩ := step_M (fl := fl) (t_lead w (xs (5 * i + 1)) (xs (5 * i + 2))) hc hm
      have r1 := rd_all (ia := ia1) (fi := fi1) (fl := fl1) (qa := qa1) hs hF (show 5 * i + 5 ≤ L by omega) hL
      simp only [r0.2.1, r0.2.2.1, ck_0, Option.bind_some, if_neg hroom, e1, r1.2.1, r1.2.2.1, ck_83, e2, if_true]
      exact next ia2 fi2 fl2 qa1 f Ω1 sz kc ks hF hkn hfr hsz (by omega) (by omega) h1 h2 w1
    rw [if_neg c1]
    by_cases c2 : xs (5 * i) &&& (31 : Int32) = (2 : Int32)
    · rw [if_pos c2]
      obtain ⟨v, ia1, fi1, fl1, qa1, ia2, fi2, fl2, Ω1, w1, e1, e2, h1, h2⟩ := step_M (fl := fl) (t_learn w (xs (5 * i + 1)) (xs (5 * i + 2))) hc hm
      have r1 := rd_all (ia := ia1) (fi := fi1) (fl := fl1) (qa := qa1) hs hF (show 5 * i + 5 ≤ L by omega) hL
      simp only [r0.2.1, r0.2.2.1, ck_0, Option.bind_some, if_neg hroom, e1, r1.2.1, r1.2.2.1, ck_83, e2, if_true]
      exact next ia2 fi2 fl2 qa1 f Ω1 sz kc ks hF hkn hfr hsz (by omega) (by omega) h1 h2 w1
    rw [if_neg c2]
    by_cases c3 : xs (5 * i) &&& (31 : Int32) = (3 : Int32)
    · rw [if_pos c3]
      obtain ⟨v, ia1, fi1, fl1, qa1, ia2, fi2, fl2, Ω1, w1, e1, e2, h1, h2⟩ := step_M (fl := fl) (t_forget w (xs (5 * i + 1)) (xs (5 * i + 2))) hc hm
      have r1 := rd_all (ia := ia1) (fi := fi1) (fl := fl1) (qa := qa1) hs hF (show 5 * i + 5 ≤ L by omega) hL
      simp only [r0.2.1, r0.2.2.1, ck_0, Option.bind_some, if_neg hroom, e1, r1.2.1, r1.2.2.1, ck_83, e2, if_true]
      exact next ia2 fi2 fl2 qa1 f Ω1 sz kc ks hF hkn hfr hsz (by omega) (by omega) h1 h2 w1
    rw [if_neg c3]
    by_cases c4 : xs (5 * i) &&& (31 : Int32) = (4 : Int32)
    · rw [if_pos c4]
      obtain ⟨v, ia1, fi1, fl1, qa1, ia2, fi2, fl2, Ω1, w1, e1, e2, h1, h2⟩ := step_M (fl := fl) (t_removeStage w (xs (5 * i + 1))) hc hm
      have r1 := rd_all (ia := ia1) (fi := fi1) (fl := fl1) (qa := qa1) hs hF (show 5 * i + 5 ≤ L by omega) hL
      simp only [r0.2.1, r0.2.2.1, ck_0, Option.bind_some, if_neg hroom, e1, r1.2.1, r1.2.2.1, ck_83, e2, if_true]
      exact next ia2 fi2 fl2 qa1 f Ω1 sz kc ks hF hkn hfr hsz (by omega) (by omega) h1 h2 w1
    rw [if_neg c4]
    by_cases c5 : xs (5 * i) &&& (31 : Int32) = (5 : Int32)
    · rw [if_pos c5]
      obtain ⟨v, ia1, fi1, fl1, qa1, ia2, fi2, fl2, Ω1, w1, e1, e2, h1, h2⟩ := step_M (fl := fl) (t_shrink w ) hc hm
      simp only [ck_0, Option.bind_some, if_neg hroom, e1, ck_83, e2, if_true]
      exact next ia2 fi2 fl2 qa1 f Ω1 sz kc ks hF hkn hfr hsz (by omega) (by omega) h1 h2 w1
    rw [if_neg c5]
    by_cases c6 : xs (5 * i) &&& (31 : Int32) = (6 : Int32)
    · rw [if_pos c6]
      obtain ⟨v, ia1, fi1, fl1, qa1, f1, sz1, ia2, fi2, fl2, Ω1, w1, e1, e2, h1, h2, x1, x2, x3⟩ := step_P (fl := fl) (t_put w hsz hfr (xs (5 * i + 1))) hc hm
      have hF1 := x2 _ _ hF
      have r1 := fun (ia fi : Nat → Nat → Int32) (fl : Nat → Nat → Int64) (qa : Nat → Nat → Option Nat) => rd_all (ia := ia) (fi := fi) (fl := fl) (qa := qa) hs hF1 (show 5 * i + 5 ≤ L by omega) hL
      simp only [r0.2.1, r0.2.2.1, r0.2.2.2.1, r0.2.2.2.2, ck_0, Option.bind_some, if_neg (show ¬ ¬ (kc + 2 ≤ 600000 ∧ ks + 66 ≤ 7302250) by omega), e1, (r1 ia1 fi1 fl1 qa1).2.1, (r1 ia1 fi1 fl1 qa1).2.2.1, (r1 ia1 fi1 fl1 qa1).2.2.2.1, (r1 ia1 fi1 fl1 qa1).2.2.2.2, ck_83, if_neg (show ¬ ¬ ((kc + 2) + 0 ≤ 600000 ∧ (ks + 66) + 0 ≤ 7302250) by omega), e2, if_true]
      exact next ia2 fi2 fl2 qa1 f1 Ω1 sz1 (kc + 2) (ks + 66) hF1 ⟨hkn.1, x2 _ _ hkn.2⟩ x3 (by omega) (by omega) (by omega) h1 h2 w1
    rw [if_neg c6]
    by_cases c7 : xs (5 * i) &&& (31 : Int32) = (7 : Int32)
    · rw [if_pos c7]
      obtain ⟨v, ia1, fi1, fl1, qa1, ia2, fi2, fl2, Ω1, w1, e1, e2, h1, h2⟩ := step_M (fl := fl) (t_drop w (xs (5 * i + 1))) hc hm
      have r1 := rd_all (ia := ia1) (fi := fi1) (fl := fl1) (qa := qa1) hs hF (show 5 * i + 5 ≤ L by omega) hL
      simp only [r0.2.1, r0.2.2.1, ck_0, Option.bind_some, if_neg hroom, e1, r1.2.1, r1.2.2.1, ck_83, e2, if_true]
      exact next ia2 fi2 fl2 qa1 f Ω1 sz kc ks hF hkn hfr hsz (by omega) (by omega) h1 h2 w1
    rw [if_neg c7]
    by_cases c8 : xs (5 * i) &&& (31 : Int32) = (8 : Int32)
    · rw [if_pos c8]
      obtain ⟨v, ia1, fi1, fl1, qa1, f1, sz1, ia2, fi2, fl2, Ω1, w1, e1, e2, h1, h2, x1, x2, x3⟩ := step_P (fl := fl) (t_join w hsz hfr (xs (5 * i + 1)) (xs (5 * i + 2)) (xs (5 * i + 3)) (xs (5 * i + 4))) hc hm
      have hF1 := x2 _ _ hF
      have r1 := fun (ia fi : Nat → Nat → Int32) (fl : Nat → Nat → Int64) (qa : Nat → Nat → Option Nat) => rd_all (ia := ia) (fi := fi) (fl := fl) (qa := qa) hs hF1 (show 5 * i + 5 ≤ L by omega) hL
      simp only [r0.2.1, r0.2.2.1, r0.2.2.2.1, r0.2.2.2.2, ck_0, Option.bind_some, if_neg (show ¬ ¬ (kc + 3 ≤ 600000 ∧ ks + 130 ≤ 7302250) by omega), e1, (r1 ia1 fi1 fl1 qa1).2.1, (r1 ia1 fi1 fl1 qa1).2.2.1, (r1 ia1 fi1 fl1 qa1).2.2.2.1, (r1 ia1 fi1 fl1 qa1).2.2.2.2, ck_83, if_neg (show ¬ ¬ ((kc + 3) + 0 ≤ 600000 ∧ (ks + 130) + 0 ≤ 7302250) by omega), e2, if_true]
      exact next ia2 fi2 fl2 qa1 f1 Ω1 sz1 (kc + 3) (ks + 130) hF1 ⟨hkn.1, x2 _ _ hkn.2⟩ x3 (by omega) (by omega) (by omega) h1 h2 w1
    rw [if_neg c8]
    by_cases c9 : xs (5 * i) &&& (31 : Int32) = (9 : Int32)
    · rw [if_pos c9]
      obtain ⟨ch, hch, ech, nch⟩ := i2c_n (xs (5 * i + 1))
      obtain ⟨v, ia1, fi1, fl1, qa1, ia2, fi2, fl2, Ω1, w1, e1, e2, h1, h2⟩ := step_M (fl := fl) (t_type w hch nch) hc hm
      have r1 := rd_all (ia := ia1) (fi := fi1) (fl := fl1) (qa := qa1) hs hF (show 5 * i + 5 ≤ L by omega) hL
      simp only [r0.2.1, r0.2.2.1, ck_0, Option.bind_some, if_neg hroom, ech, e1, r1.2.1, r1.2.2.1, ck_83, e2, if_true]
      exact next ia2 fi2 fl2 qa1 f Ω1 sz kc ks hF hkn hfr hsz (by omega) (by omega) h1 h2 w1
    rw [if_neg c9]
    by_cases c10 : xs (5 * i) &&& (31 : Int32) = (10 : Int32)
    · rw [if_pos c10]
      obtain ⟨v, ia1, fi1, fl1, qa1, ia2, fi2, fl2, Ω1, w1, e1, e2, h1, h2⟩ := step_M (fl := fl) (t_clearText w ) hc hm
      simp only [ck_0, Option.bind_some, if_neg hroom, e1, ck_83, e2, if_true]
      exact next ia2 fi2 fl2 qa1 f Ω1 sz kc ks hF hkn hfr hsz (by omega) (by omega) h1 h2 w1
    rw [if_neg c10]
    by_cases c11 : xs (5 * i) &&& (31 : Int32) = (11 : Int32)
    · rw [if_pos c11]
      obtain ⟨v, ia1, fi1, fl1, qa1, ia2, fi2, fl2, Ω1, w1, e1, e2, h1, h2⟩ := step_M (fl := fl) (t_undo w ) hc hm
      simp only [ck_0, Option.bind_some, if_neg hroom, e1, ck_83, e2, if_true]
      exact next ia2 fi2 fl2 qa1 f Ω1 sz kc ks hF hkn hfr hsz (by omega) (by omega) h1 h2 w1
    rw [if_neg c11]
    by_cases c12 : xs (5 * i) &&& (31 : Int32) = (12 : Int32)
    · rw [if_pos c12]
      obtain ⟨v, ia1, fi1, fl1, qa1, ia2, fi2, fl2, Ω1, w1, e1, e2, h1, h2⟩ := step_M (fl := fl) (t_keep w ) hc hm
      simp only [ck_0, Option.bind_some, if_neg hroom, e1, ck_83, e2, if_true]
      exact next ia2 fi2 fl2 qa1 f Ω1 sz kc ks hF hkn hfr hsz (by omega) (by omega) h1 h2 w1
    rw [if_neg c12]
    by_cases c13 : xs (5 * i) &&& (31 : Int32) = (13 : Int32)
    · rw [if_pos c13]
      obtain ⟨v, ia1, fi1, fl1, qa1, ia2, fi2, fl2, Ω1, w1, e1, e2, h1, h2⟩ := step_M (fl := fl) (t_restore w ) hc hm
      simp only [ck_0, Option.bind_some, if_neg hroom, e1, ck_83, e2, if_true]
      exact next ia2 fi2 fl2 qa1 f Ω1 sz kc ks hF hkn hfr hsz (by omega) (by omega) h1 h2 w1
    rw [if_neg c13]
    by_cases c14 : xs (5 * i) &&& (31 : Int32) = (14 : Int32)
    · rw [if_pos c14]
      obtain ⟨v, ia1, fi1, fl1, qa1, ia2, fi2, fl2, Ω1, w1, e1, e2, h1, h2⟩ := step_M (fl := fl) (t_stage w (xs (5 * i + 1)) (xs (5 * i + 2))) hc hm
      have r1 := rd_all (ia := ia1) (fi := fi1) (fl := fl1) (qa := qa1) hs hF (show 5 * i + 5 ≤ L by omega) hL
      simp only [r0.2.1, r0.2.2.1, ck_0, Option.bind_some, if_neg hroom, e1, r1.2.1, r1.2.2.1, ck_83, e2, if_true]
      exact next ia2 fi2 fl2 qa1 f Ω1 sz kc ks hF hkn hfr hsz (by omega) (by omega) h1 h2 w1
    rw [if_neg c14]
    by_cases c15 : xs (5 * i) &&& (31 : Int32) = (15 : Int32)
    · rw [if_pos c15]
      obtain ⟨v, ia1, fi1, fl1, qa1, ia2, fi2, fl2, Ω1, w1, e1, e2, h1, h2⟩ := step_M (fl := fl) (t_alike w (xs (5 * i + 1)) (xs (5 * i + 2))) hc hm
      have r1 := rd_all (ia := ia1) (fi := fi1) (fl := fl1) (qa := qa1) hs hF (show 5 * i + 5 ≤ L by omega) hL
      simp only [r0.2.1, r0.2.2.1, ck_0, Option.bind_some, if_neg hroom, e1, r1.2.1, r1.2.2.1, ck_83, e2, if_true]
      exact next ia2 fi2 fl2 qa1 f Ω1 sz kc ks hF hkn hfr hsz (by omega) (by omega) h1 h2 w1
    rw [if_neg c15]
    by_cases c16 : xs (5 * i) &&& (31 : Int32) = (16 : Int32)
    · rw [if_pos c16]
      obtain ⟨v, ia1, fi1, fl1, qa1, ia2, fi2, fl2, Ω1, w1, e1, e2, h1, h2⟩ := step_M (fl := fl) (t_claim w (hR f Ω w) hkn (xs (5 * i + 1)) (xs (5 * i + 2))) hc hm
      have r1 := rd_all (ia := ia1) (fi := fi1) (fl := fl1) (qa := qa1) hs hF (show 5 * i + 5 ≤ L by omega) hL
      simp only [r0.2.1, r0.2.2.1, ck_0, Option.bind_some, if_neg hroom, e1, r1.2.1, r1.2.2.1, ck_83, e2, if_true]
      exact next ia2 fi2 fl2 qa1 f Ω1 sz kc ks hF hkn hfr hsz (by omega) (by omega) h1 h2 w1
    rw [if_neg c16]
    by_cases c17 : xs (5 * i) &&& (31 : Int32) = (17 : Int32)
    · rw [if_pos c17]
      obtain ⟨v, ia1, fi1, fl1, qa1, ia2, fi2, fl2, Ω1, w1, e1, e2, h1, h2⟩ := step_M (fl := fl) (t_holds w (xs (5 * i + 1)) (xs (5 * i + 2))) hc hm
      have r1 := rd_all (ia := ia1) (fi := fi1) (fl := fl1) (qa := qa1) hs hF (show 5 * i + 5 ≤ L by omega) hL
      simp only [r0.2.1, r0.2.2.1, ck_0, Option.bind_some, if_neg hroom, e1, r1.2.1, r1.2.2.1, ck_83, e2, if_true]
      exact next ia2 fi2 fl2 qa1 f Ω1 sz kc ks hF hkn hfr hsz (by omega) (by omega) h1 h2 w1
    rw [if_neg c17]
    by_cases c18 : xs (5 * i) &&& (31 : Int32) = (18 : Int32)
    · rw [if_pos c18]
      obtain ⟨v, ia1, fi1, fl1, qa1, ia2, fi2, fl2, Ω1, w1, e1, e2, h1, h2⟩ := step_M (fl := fl) (t_follows w (hR f Ω w) hkn (xs (5 * i + 1)) (xs (5 * i + 2))) hc hm
      have r1 := rd_all (ia := ia1) (fi := fi1) (fl := fl1) (qa := qa1) hs hF (show 5 * i + 5 ≤ L by omega) hL
      simp only [r0.2.1, r0.2.2.1, ck_0, Option.bind_some, if_neg hroom, e1, r1.2.1, r1.2.2.1, ck_83, e2, if_true]
      exact next ia2 fi2 fl2 qa1 f Ω1 sz kc ks hF hkn hfr hsz (by omega) (by omega) h1 h2 w1
    rw [if_neg c18]
    by_cases c19 : xs (5 * i) &&& (31 : Int32) = (19 : Int32)
    · rw [if_pos c19]
      obtain ⟨v, ia1, fi1, fl1, qa1, ia2, fi2, fl2, Ω1, w1, e1, e2, h1, h2⟩ := step_M (fl := fl) (t_followsPlainly w hkn (xs (5 * i + 1)) (xs (5 * i + 2))) hc hm
      have r1 := rd_all (ia := ia1) (fi := fi1) (fl := fl1) (qa := qa1) hs hF (show 5 * i + 5 ≤ L by omega) hL
      simp only [r0.2.1, r0.2.2.1, ck_0, Option.bind_some, if_neg hroom, e1, r1.2.1, r1.2.2.1, ck_83, e2, if_true]
      exact next ia2 fi2 fl2 qa1 f Ω1 sz kc ks hF hkn hfr hsz (by omega) (by omega) h1 h2 w1
    rw [if_neg c19]
    by_cases c20 : xs (5 * i) &&& (31 : Int32) = (20 : Int32)
    · rw [if_pos c20]
      obtain ⟨v, ia1, fi1, fl1, qa1, ia2, fi2, fl2, Ω1, w1, e1, e2, h1, h2⟩ := step_M (fl := fl) (t_fewestStages w hkn (xs (5 * i + 1)) (xs (5 * i + 2))) hc hm
      have r1 := rd_all (ia := ia1) (fi := fi1) (fl := fl1) (qa := qa1) hs hF (show 5 * i + 5 ≤ L by omega) hL
      simp only [r0.2.1, r0.2.2.1, ck_0, Option.bind_some, if_neg hroom, e1, r1.2.1, r1.2.2.1, ck_83, e2, if_true]
      exact next ia2 fi2 fl2 qa1 f Ω1 sz kc ks hF hkn hfr hsz (by omega) (by omega) h1 h2 w1
    rw [if_neg c20]
    by_cases c21 : xs (5 * i) &&& (31 : Int32) = (21 : Int32)
    · rw [if_pos c21]
      obtain ⟨v, ia1, fi1, fl1, qa1, ia2, fi2, fl2, Ω1, w1, e1, e2, h1, h2⟩ := step_M (fl := fl) (t_fewestPremises w (hR f Ω w) hkn (xs (5 * i + 1)) (xs (5 * i + 2))) hc hm
      have r1 := rd_all (ia := ia1) (fi := fi1) (fl := fl1) (qa := qa1) hs hF (show 5 * i + 5 ≤ L by omega) hL
      simp only [r0.2.1, r0.2.2.1, ck_0, Option.bind_some, if_neg hroom, e1, r1.2.1, r1.2.2.1, ck_83, e2, if_true]
      exact next ia2 fi2 fl2 qa1 f Ω1 sz kc ks hF hkn hfr hsz (by omega) (by omega) h1 h2 w1
    rw [if_neg c21]
    by_cases c22 : xs (5 * i) &&& (31 : Int32) = (22 : Int32)
    · rw [if_pos c22]
      obtain ⟨v, ia1, fi1, fl1, qa1, ia2, fi2, fl2, Ω1, w1, e1, e2, h1, h2⟩ := step_M (fl := fl) (t_relation w (hR f Ω w) hkn (xs (5 * i + 1)) (xs (5 * i + 2))) hc hm
      have r1 := rd_all (ia := ia1) (fi := fi1) (fl := fl1) (qa := qa1) hs hF (show 5 * i + 5 ≤ L by omega) hL
      simp only [r0.2.1, r0.2.2.1, ck_0, Option.bind_some, if_neg hroom, e1, r1.2.1, r1.2.2.1, ck_83, e2, if_true]
      exact next ia2 fi2 fl2 qa1 f Ω1 sz kc ks hF hkn hfr hsz (by omega) (by omega) h1 h2 w1
    rw [if_neg c22]
    by_cases c23 : xs (5 * i) &&& (31 : Int32) = (23 : Int32)
    · rw [if_pos c23]
      obtain ⟨v, ia1, fi1, fl1, qa1, ia2, fi2, fl2, Ω1, w1, e1, e2, h1, h2⟩ := step_M (fl := fl) (t_count w (xs (5 * i + 1))) hc hm
      have r1 := rd_all (ia := ia1) (fi := fi1) (fl := fl1) (qa := qa1) hs hF (show 5 * i + 5 ≤ L by omega) hL
      simp only [r0.2.1, r0.2.2.1, ck_0, Option.bind_some, if_neg hroom, e1, r1.2.1, r1.2.2.1, ck_83, e2, if_true]
      exact next ia2 fi2 fl2 qa1 f Ω1 sz kc ks hF hkn hfr hsz (by omega) (by omega) h1 h2 w1
    rw [if_neg c23]
    exact next ia fi fl qa f Ω sz kc ks hF hkn hfr hsz (by omega) (by omega) hc hm w
end LAW
