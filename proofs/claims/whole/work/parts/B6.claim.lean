/-! claim, all but what follows from nothing -/
section CLAIM
variable {b : Nat} {ia fi : Nat → Nat → Int32} {fl : Nat → Nat → Int64} {qa : Nat → Nat → Option Nat} {f : mmF} {Ω : mO}
/-- the class's claim, behind lookAt -/
noncomputable def claimT (v0 r7 : Nat) (v1 v2 u : Int32) (f : mmF) : Option (Int32 × mmF) :=
  if v2 = (0 : Int32) then
  (some (u, f))
  else
  if v2 = (1 : Int32) then
  ((ldR f v0 9 0).bind fun x92 =>
  (ckO f x92 7).bind fun _ =>
  (f_X7_lowestOutside x92 u f).bind fun q97 =>
  some (q97, f))
  else
  if v2 = (2 : Int32) then
  ((ldI f r7 0 0).bind fun x102 =>
  some (x102, f))
  else
  if v2 = (3 : Int32) then
  ((ldR f v0 9 8).bind fun x107 =>
  (ckO f x107 4).bind fun _ =>
  (f_X4_different x107 f).bind fun q110 =>
  some (q110, f))
  else
  if v2 = (4 : Int32) then
  ((ldR f v0 9 8).bind fun x115 =>
  (ckO f x115 4).bind fun _ =>
  (f_X4_usedFacts x115 f).bind fun q118 =>
  some (q118, f))
  else
  if v2 = (5 : Int32) then
  ((ldR f v0 9 6).bind fun x123 =>
  (ckO f x123 5).bind fun _ =>
  (f_X5_isFound x123 (0 : Int32) v1 f).bind fun q128 =>
  (f_X9_truth q128.1 q128.2).bind fun q131 =>
  some (q131, q128.2))
  else
  if v2 = (6 : Int32) then
  ((ldR f v0 9 7).bind fun x136 =>
  (ckO f x136 6).bind fun _ =>
  (f_X6_entailsPlainly x136 (0 : Int32) v1 f).bind fun q141 =>
  (f_X9_truth q141 f).bind fun q144 =>
  some (q144, f))
  else
  if v2 = (7 : Int32) then
  ((ldR f v0 9 8).bind fun x149 =>
  (ckO f x149 4).bind fun _ =>
  (f_X4_depth x149 v1 f).bind fun q153 =>
  some (q153.1, q153.2))
  else
  some ((-2 : Int32), f)
theorem C_claim (h : CR b ia fi qa f Ω) (w : WO Ω) {kn : Nat} (hkn : KNf b f kn) {p : Nat} (hp : p < 5) (h0 : 0 < Ω.1.2.2.2.1 p) : ∃ (ia1 fi1 : Nat → Nat → Int32) (S : Nat) (kd lf rt : Nat → Nat) (Pn : Nat → Nat → Nat) (c : Nat), (∀ y, f_X9_claim kn b (nI p) y (wr (SK b) ia fi fl qa f) = claimT b c (nI p) y (nI (hO Ω p)) (wr (SK b) ia1 fi1 fl qa f)) ∧ LKA b ia1 fi1 Ω.1.2.2.2.1 Ω.1.2.2.2.2 (2 ^ p) S kd lf rt Pn ∧ CR b ia1 fi1 qa f Ω ∧ highE b ia fi ia1 fi1 ∧ ClA b f c (Ω.1.2.2.2.1 p) (Ω.1.2.2.2.2 p) := by
  have hb1 : isSt b (b + 1) := Or.inl rfl
  have hW : 2 ^ p < 32 := Nat.lt_of_le_of_lt (Nat.pow_le_pow_right (n := 2) (by decide) (show p ≤ 4 by omega)) (by decide)
  obtain ⟨ia1, fi1, S, kd, lf, rt, Pn, z1, z2, z3, z4⟩ := C_look (fl := fl) h w hkn hW
  obtain ⟨y1, ia2, y2, y3, y4, y5⟩ := C_with (fl := fl) z3 w z2.1 hp ⟨h0, by rw [Nat.testBit_two_pow]; exact decide_eq_true rfl⟩
  rcases h.1.2 p hp with ⟨h1, _⟩ | ⟨_, c, h2, hc⟩
  · omega
  · refine ⟨ia2, fi1, S, kd, lf, rt, Pn, c, fun y => ?_, z2.with y5, y3, z4.tr y4, hc⟩
    unfold f_X9_claim claimT
    simp only [ck_0, claimAt_t hp, Option.bind_some, h2, qc, bt_shl (show p < 32 by omega), z1, R_0_0, R_0_8, ck_22, y1, S_ck hb1, y2]
noncomputable def clV (Ω : mO) (p : Nat) (y : Int32) : Int32 := if y = 0 then nI (hO Ω p) else if y = 1 then loI (hO Ω p) Ω.1.1 else if y = 2 then nI (Ω.1.2.2.2.1 p) else if y = 3 then nI (difN (Ω.1.2.2.2.2 p) (Ω.1.2.2.2.1 p)) else if y = 4 then nI (fcN (Ω.1.2.2.2.2 p) (Ω.1.2.2.2.1 p)) else if y = 7 then nI (dN (Ω.1.2.2.2.2 p) (Ω.1.2.2.2.1 p - 1)) else -2
theorem C_clV (h : CR b ia fi qa f Ω) (w : WO Ω) {kn : Nat} (hkn : KNf b f kn) {p : Nat} (hp : p < 5) (h0 : 0 < Ω.1.2.2.2.1 p) {y : Int32} (h5 : y ≠ 5) (h6 : y ≠ 6) : CRes b f ia fi (f_X9_claim kn b (nI p) y (wr (SK b) ia fi fl qa f)) (clV Ω p y) Ω := by
  have hb1 : isSt b (b + 1) := Or.inl rfl
  obtain ⟨qf, hqf⟩ := FU_1000
  have n8 := w.1.1.2.1
  have hH31 : hO Ω p < 2 ^ 31 := Nat.lt_trans (hO_lt w hp h0) (by decide)
  obtain ⟨ia1, fi1, S, kd, lf, rt, Pn, c, z1, z2, z3, z4, z5⟩ := C_claim (fl := fl) h w hkn hp h0
  rw [z1 y]
  unfold claimT clV
  by_cases e0 : y = 0
  · rw [if_pos e0, if_pos e0]
    exact ⟨_, _, _, _, rfl, z3, z4⟩
  rw [if_neg e0, if_neg e0]
  by_cases e1 : y = 1
  · rw [if_pos e1, if_pos e1]
    have hl : f_X7_lowestOutside (b + 1) (nI (hO Ω p)) (wr (SK b) ia1 fi1 fl qa f) = some (loI (hO Ω p) Ω.1.1) := c_low_2 hb1 z3.1.1.1 n8 hH31 Ω.1.1 0 FU (by omega) (by omega)
    simp only [R_0_0, S_ck hb1, Option.bind_some, hl]
    exact ⟨_, _, _, _, rfl, z3, z4⟩
  rw [if_neg e1, if_neg e1]
  by_cases e2 : y = 2
  · rw [if_pos e2, if_pos e2]
    simp only [cl_I z5, Option.bind_some]
    exact ⟨_, _, _, _, rfl, z3, z4⟩
  rw [if_neg e2, if_neg e2]
  by_cases e3 : y = 3
  · rw [if_pos e3, if_pos e3]
    simp only [R_0_8, ck_22, C_different (fl := fl) (qa := qa) (f := f) w h0 hp z2.1, Option.bind_some]
    exact ⟨_, _, _, _, rfl, z3, z4⟩
  rw [if_neg e3, if_neg e3]
  by_cases e4 : y = 4
  · rw [if_pos e4, if_pos e4]
    simp only [R_0_8, ck_22, C_facts (fl := fl) (qa := qa) (f := f) h0 hp z2.1, Option.bind_some]
    exact ⟨_, _, _, _, rfl, z3, z4⟩
  rw [if_neg e4, if_neg e4, if_neg h5, if_neg h6]
  by_cases e7 : y = 7
  · rw [if_pos e7, if_pos e7]
    obtain ⟨ia2, d1, d2, d3⟩ := C_depth (fl := fl) z3 w z2.1 hp ⟨h0, by rw [Nat.testBit_two_pow]; exact decide_eq_true rfl⟩
    simp only [R_0_8, ck_22, d1, Option.bind_some]
    exact ⟨_, _, _, _, rfl, d2, z4.tr d3⟩
  · rw [if_neg e7, if_neg e7]
    exact ⟨_, _, _, _, rfl, z3, z4⟩
theorem M_clV (h : MR b ia fi Ω) (w : WO Ω) {p : Nat} (hp : p < 5) (h0 : 0 < Ω.1.2.2.2.1 p) {y : Int32} (h5 : y ≠ 5) (h6 : y ≠ 6) : MRes b f ia fi qa (f_X10_claim (b + 83) (nI p) y (wr (SK b) ia fi fl qa f)) (clV Ω p y) Ω := by
  obtain ⟨qf, hqf⟩ := FU_1000
  have n8 := w.1.1.2.1
  have k30 := w.1.k30 hp
  have hH31 : hO Ω p < 2 ^ 31 := Nat.lt_trans (hO_lt w hp h0) (by decide)
  have hHn : hO Ω p < 2 ^ Ω.1.1 := by
    have hv := w.1.2 p hp h0
    exact hN_lt _ _ hv.ok _ (by have := hv.1; omega)
  have h2n := p8 n8
  have eall : (1 : Int32) <<< (nI Ω.1.1 &&& 31) - 1 = nI (2 ^ Ω.1.1 - 1) := by
    rw [bt_shl (show Ω.1.1 < 32 by omega)]
    exact pk_sub (a := 2 ^ Ω.1.1) (b := 1) (Nat.two_pow_pos _)
  unfold f_X10_claim clV
  simp only [ck_83, noClaim_t h.1.2 hp (show Ω.1.2.2.2.1 p < 2 ^ 31 by omega), Option.bind_some, if_neg (show ¬ Ω.1.2.2.2.1 p = 0 by omega), R_83_0, A16, h.1.1.1, eall]
  rw [if_pos trivial]
  obtain ⟨ia1, a1, a2, a3, a4⟩ := M_holding (fl := fl) (qa := qa) (f := f) h w hp h0
  by_cases e0 : y = 0
  · rw [if_pos e0, if_pos e0, a1]
    exact ⟨_, _, _, rfl, a2, a3⟩
  rw [if_neg e0, if_neg e0]
  by_cases e1 : y = 1
  · rw [if_pos e1, if_pos e1, a1]
    simp only [Option.bind_some]
    have q1 : (nI (hO Ω p) = nI (2 ^ Ω.1.1 - 1)) = (hO Ω p = 2 ^ Ω.1.1 - 1) := propext (nI_eq (by omega) (by omega))
    by_cases hf : hO Ω p = 2 ^ Ω.1.1 - 1
    · rw [if_pos (q1.mpr hf)]
      refine ⟨ia1, fi, fl, ?_, a2, a3⟩
      rw [loI, (loO_full hHn).mpr hf]
      rfl
    · rw [if_neg (fun e => hf (q1.mp e))]
      simp only [ck_83, Option.bind_some]
      obtain ⟨ia2, b1, b2, b3, b4⟩ := M_holding (fl := fl) (qa := qa) (f := f) a2 w hp h0
      have hw : ∀ j, j < Ω.1.1 → ((2 ^ Ω.1.1 - 1) &&& (255 ^^^ hO Ω p)).testBit j = !(hO Ω p).testBit j := fun j hj => by
        rw [Nat.testBit_and, Nat.testBit_xor, Nat.testBit_two_pow_sub_one, show (255 : Nat) = 2 ^ 8 - 1 from rfl, Nat.testBit_two_pow_sub_one, decide_eq_true hj, decide_eq_true (show j < 8 by omega)]
        cases (hO Ω p).testBit j <;> rfl
      have hl : f_X10_lowest (nI ((2 ^ Ω.1.1 - 1) &&& (255 ^^^ hO Ω p))) (wr (SK b) ia2 fi fl qa f) = some (loI (hO Ω p) Ω.1.1) := m_low_2 (n := Ω.1.1) (Nat.lt_of_le_of_lt Nat.and_le_left (by omega)) n8 hw Ω.1.1 0 FU (by omega) (by omega) (fun e => hf ((loO_full hHn).mp e))
      rw [b1]
      simp only [Option.bind_some, and_no _ (hO_lt w hp h0) _ (show 2 ^ Ω.1.1 - 1 < 256 by omega), hl]
      exact ⟨_, _, _, rfl, b2, a3.tr b3⟩
  rw [if_neg e1, if_neg e1]
  by_cases e2 : y = 2
  · rw [if_pos e2, if_pos e2, at17, An_84 (show 17 + 31 * p < 172 by omega), (h.1.2 p hp).1]
    exact MRes.same h
  rw [if_neg e2, if_neg e2]
  by_cases e3 : y = 3
  · rw [if_pos e3, if_pos e3]
    obtain ⟨ia2, d1, d2, d3⟩ := M_different (fl := fl) (qa := qa) (f := f) h w hp h0
    rw [d1]
    exact ⟨_, _, _, rfl, d2, d3⟩
  rw [if_neg e3, if_neg e3]
  by_cases e4 : y = 4
  · rw [if_pos e4, if_pos e4, M_facts h w hp h0]
    exact MRes.same h
  rw [if_neg e4, if_neg e4, if_neg h5, if_neg h6]
  by_cases e7 : y = 7
  · rw [if_pos e7, if_pos e7]
    obtain ⟨ia2, d1, d2, d3⟩ := M_depth (fl := fl) (qa := qa) (f := f) h w hp h0
    rw [d1]
    exact ⟨_, _, _, rfl, d2, d3⟩
  · rw [if_neg e7, if_neg e7]
    exact MRes.same h
theorem t_claim_no (w : WO Ω) {kn : Nat} (hkn : KNf b f kn) (x y : Int32) (h5 : y ≠ 5) (h6 : y ≠ 6) : Meth b f Ω (fun μ => f_X9_claim kn b x y μ) (fun μ => f_X10_claim (b + 83) x y μ) := by
  by_cases hx : ∃ k, k < 5 ∧ x = nI k
  · obtain ⟨k, hk, rfl⟩ := hx
    have k30 := w.1.k30 hk
    by_cases h0 : Ω.1.2.2.2.1 k = 0
    · refine ⟨-1, Ω, w, fun ia fi fl qa h => ?_, fun ia fi fl qa h => ?_⟩
      · show CRes b f ia fi (f_X9_claim kn b (nI k) y _) _ _
        unfold f_X9_claim
        simp only [ck_0, claimAt_t hk, Option.bind_some]
        rcases h.1.2 k hk with ⟨_, h1⟩ | ⟨h1, _⟩
        · rw [h1]
          exact CRes.same h
        · omega
      · show MRes b f ia fi qa (f_X10_claim (b + 83) (nI k) y _) _ _
        unfold f_X10_claim
        simp only [ck_83, noClaim_t h.1.2 hk (show Ω.1.2.2.2.1 k < 2 ^ 31 by omega), Option.bind_some, h0, if_true, i10, if_false]
        exact MRes.same h
    · exact ⟨clV Ω k y, Ω, w, fun ia fi fl qa h => C_clV h w hkn hk (by omega) h5 h6, fun ia fi fl qa h => M_clV h w hk (by omega) h5 h6⟩
  · have hx2 : ∀ k, k < 5 → x ≠ nI k := fun k hk e => hx ⟨k, hk, e⟩
    refine ⟨-1, Ω, w, fun ia fi fl qa h => ?_, fun ia fi fl qa h => ?_⟩
    · show CRes b f ia fi (f_X9_claim kn b x y _) _ _
      unfold f_X9_claim
      simp only [ck_0, claimAt_f hx2, Option.bind_some, qc]
      exact CRes.same h
    · show MRes b f ia fi qa (f_X10_claim (b + 83) x y _) _ _
      unfold f_X10_claim
      simp only [ck_83, noClaim_f hx2, Option.bind_some, i10, if_false]
      exact MRes.same h
end CLAIM
