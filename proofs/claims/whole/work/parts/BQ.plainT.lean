/-! followsPlainly AND fewestStages ANSWER ALIKE; claim's question 6 -/
section PLT
variable {b : Nat} {ia fi : Nat → Nat → Int32} {fl : Nat → Nat → Int64} {qa : Nat → Nat → Option Nat} {f : mmF} {Ω : mO} {W p : Nat}
theorem setR.kept {K : Nat → Nat} {G : Nat → Nat → Nat} {P : Nat} {op lf rt : Nat → Nat} {pr : Nat → Nat} {pg : Nat} {Γ : Nat → Bool} (h : setR b ia fi K G W p P op lf rt pr pg Γ) {k : Nat} (hk : k < 4) : (kpN K G W p k ∧ f_X10_isKept (b + 83) (nI k) (wr (SK b) ia fi fl qa f) = some 0) ∨ (¬ kpN K G W p k ∧ f_X10_isKept (b + 83) (nI k) (wr (SK b) ia fi fl qa f) = some 1) := by
  have h2 := kept_t (fl := fl) (qa := qa) (f := f) h.1 h.2.2.2.1 hk h.2.2.2.2.2.2.2.1 h.2.2.2.2.2.2.1
  rw [h.kp hk] at h2
  exact h2
theorem M_plain (h : MR b ia fi Ω) (w : WO Ω) (hq : qOk Ω W p) (h0 : f_X10_isBad (b + 83) (nI W) (wr (SK b) ia fi fl qa f) = some 0 ∧ f_X10_noClaim (b + 83) (nI p) (wr (SK b) ia fi fl qa f) = some 0) : MRes b f ia fi qa (f_X10_followsPlainly (b + 83) (nI W) (nI p) (wr (SK b) ia fi fl qa f)) (plV Ω.1.2.2.2.1 Ω.1.2.2.2.2 W p) Ω := by
  obtain ⟨ia1, fi1, P1, op1, lf1, rt1, pr1, pg, Γ1, z1, z2, z3⟩ := sets_t (fl := fl) (qa := qa) (f := f) h w hq
  obtain ⟨m1, m2⟩ := h.hE z3
  have hkp := z2.kept (fl := fl) (qa := qa) (f := f) (k := 0) (by decide)
  have hfw := (kp_fw (hq.ok w) hq.2.1).1
  rw [show nI 0 = (0 : Int32) from rfl] at hkp
  unfold f_X10_followsPlainly plV
  simp only [ck_83, h0.1, h0.2, Option.bind_some, if_true, z1]
  rcases hkp with ⟨a1, a2⟩ | ⟨a1, a2⟩
  · rw [if_pos (hfw.mp a1), a2]
    simp only [Option.bind_some, if_true]
    exact ⟨ia1, fi1, fl, rfl, m1, m2⟩
  · rw [if_neg (fun e => a1 (hfw.mpr e)), a2]
    simp only [Option.bind_some, i10, if_false]
    exact ⟨ia1, fi1, fl, rfl, m1, m2⟩
theorem M_fewest (h : MR b ia fi Ω) (w : WO Ω) (hq : qOk Ω W p) (h0 : f_X10_isBad (b + 83) (nI W) (wr (SK b) ia fi fl qa f) = some 0 ∧ f_X10_noClaim (b + 83) (nI p) (wr (SK b) ia fi fl qa f) = some 0) : MRes b f ia fi qa (f_X10_fewestStages (b + 83) (nI W) (nI p) (wr (SK b) ia fi fl qa f)) (fwV Ω.1.2.2.2.1 Ω.1.2.2.2.2 W p) Ω := by
  obtain ⟨ia1, fi1, P1, op1, lf1, rt1, pr1, pg, Γ1, z1, z2, z3⟩ := sets_t (fl := fl) (qa := qa) (f := f) h w hq
  obtain ⟨m1, m2⟩ := h.hE z3
  have k0 := z2.kept (fl := fl) (qa := qa) (f := f) (k := 0) (by decide)
  have k1 := z2.kept (fl := fl) (qa := qa) (f := f) (k := 1) (by decide)
  have k2 := z2.kept (fl := fl) (qa := qa) (f := f) (k := 2) (by decide)
  have k3 := z2.kept (fl := fl) (qa := qa) (f := f) (k := 3) (by decide)
  obtain ⟨f1, f2, f3⟩ := kp_fw (hq.ok w) hq.2.1
  rw [show nI 0 = (0 : Int32) from rfl] at k0
  rw [show nI 1 = (1 : Int32) from rfl] at k1
  rw [show nI 2 = (2 : Int32) from rfl] at k2
  rw [show nI 3 = (3 : Int32) from rfl] at k3
  unfold f_X10_fewestStages fwV
  simp only [ck_83, h0.1, h0.2, Option.bind_some, if_true, z1]
  rcases k0 with ⟨a1, a2⟩ | ⟨a1, a2⟩
  · rw [if_pos (f1.mp a1), a2]
    simp only [Option.bind_some, if_true]
    exact ⟨ia1, fi1, fl, rfl, m1, m2⟩
  · have n1 : ¬ fw1 Ω.1.2.2.2.1 Ω.1.2.2.2.2 W p := fun e => a1 (f1.mpr e)
    rw [if_neg n1, a2]
    simp only [Option.bind_some, i10, if_false]
    rcases k1 with ⟨b1, b2⟩ | ⟨b1, b2⟩
    · rw [if_pos ((f2 n1).mp b1), b2]
      simp only [Option.bind_some, if_true]
      exact ⟨ia1, fi1, fl, rfl, m1, m2⟩
    · have n2 : ¬ fw2 Ω.1.2.2.2.1 Ω.1.2.2.2.2 W p := fun e => b1 ((f2 n1).mpr e)
      rw [if_neg n2, b2]
      simp only [Option.bind_some, i10, if_false]
      rcases k2 with ⟨c1, c2⟩ | ⟨c1, c2⟩
      · rw [if_pos ((f3 n1 n2).mp (Or.inl c1)), c2]
        simp only [Option.bind_some, if_true]
        exact ⟨ia1, fi1, fl, rfl, m1, m2⟩
      · rw [c2]
        simp only [Option.bind_some, i10, if_false]
        rcases k3 with ⟨d1, d2⟩ | ⟨d1, d2⟩
        · rw [if_pos ((f3 n1 n2).mp (Or.inr d1)), d2]
          simp only [Option.bind_some, if_true]
          exact ⟨ia1, fi1, fl, rfl, m1, m2⟩
        · rw [if_neg (fun e => ((f3 n1 n2).mpr e).elim c1 d1), d2]
          simp only [Option.bind_some, i10, if_false]
          exact ⟨ia1, fi1, fl, rfl, m1, m2⟩
/-- a question: with bad premises, or no claim, both sides refuse alike -/
theorem asks_t (w : WO Ω) (x y : Int32) {C M : mmF → Option (Int32 × mmF)} (hC : ∀ (ia fi : Nat → Nat → Int32) (fl : Nat → Nat → Int64) (qa : Nat → Nat → Option Nat) (e : Int32), e ≠ 0 → CR b ia fi qa f Ω → f_X9_questionError b x y (wr (SK b) ia fi fl qa f) = some e → C (wr (SK b) ia fi fl qa f) = some (e, wr (SK b) ia fi fl qa f)) (hM : ∀ (ia fi : Nat → Nat → Int32) (fl : Nat → Nat → Int64) (qa : Nat → Nat → Option Nat), MR b ia fi Ω → (f_X10_isBad (b + 83) x (wr (SK b) ia fi fl qa f) = some 1 → M (wr (SK b) ia fi fl qa f) = some (-2, wr (SK b) ia fi fl qa f)) ∧ (f_X10_isBad (b + 83) x (wr (SK b) ia fi fl qa f) = some 0 → f_X10_noClaim (b + 83) y (wr (SK b) ia fi fl qa f) = some 1 → M (wr (SK b) ia fi fl qa f) = some (-1, wr (SK b) ia fi fl qa f))) (hq : ∀ W p, x = nI W → y = nI p → qOk Ω W p → (∀ (ia fi : Nat → Nat → Int32) (fl : Nat → Nat → Int64) (qa : Nat → Nat → Option Nat), CR b ia fi qa f Ω → f_X9_questionError b x y (wr (SK b) ia fi fl qa f) = some 0) → (∀ (ia fi : Nat → Nat → Int32) (fl : Nat → Nat → Int64) (qa : Nat → Nat → Option Nat), MR b ia fi Ω → f_X10_isBad (b + 83) x (wr (SK b) ia fi fl qa f) = some 0 ∧ f_X10_noClaim (b + 83) y (wr (SK b) ia fi fl qa f) = some 0) → Meth b f Ω C M) : Meth b f Ω C M := by
  rcases asked (b := b) (f := f) w x y with ⟨e, e0, h1, ⟨rfl, h2⟩ | ⟨rfl, h2⟩⟩ | ⟨W, p, ex, ey, hqq, h1, h2⟩
  · refine ⟨-2, Ω, w, fun ia fi fl qa h => ?_, fun ia fi fl qa h => ?_⟩
    · rw [hC ia fi fl qa _ e0 h (h1 ia fi fl qa h)]
      exact CRes.same h
    · rw [(hM ia fi fl qa h).1 (h2 ia fi fl qa h)]
      exact MRes.same h
  · refine ⟨-1, Ω, w, fun ia fi fl qa h => ?_, fun ia fi fl qa h => ?_⟩
    · rw [hC ia fi fl qa _ e0 h (h1 ia fi fl qa h)]
      exact CRes.same h
    · rw [(hM ia fi fl qa h).2 (h2 ia fi fl qa h).1 (h2 ia fi fl qa h).2]
      exact MRes.same h
  · exact hq W p ex ey hqq h1 h2
theorem t_followsPlainly (w : WO Ω) {kn : Nat} (hkn : KNf b f kn) (x y : Int32) : Meth b f Ω (fun μ => f_X9_followsPlainly kn b x y μ) (fun μ => f_X10_followsPlainly (b + 83) x y μ) := by
  refine asks_t w x y (fun ia fi fl qa e e0 h he => ?_) (fun ia fi fl qa h => ⟨fun h1 => ?_, fun h1 h2 => ?_⟩) (fun W p ex ey hq h1 h2 => ?_)
  · show f_X9_followsPlainly kn b x y _ = _
    unfold f_X9_followsPlainly
    simp only [ck_0, he, Option.bind_some, if_neg e0]
  · show f_X10_followsPlainly (b + 83) x y _ = _
    unfold f_X10_followsPlainly
    simp only [ck_83, h1, Option.bind_some, i10, if_false]
  · show f_X10_followsPlainly (b + 83) x y _ = _
    unfold f_X10_followsPlainly
    simp only [ck_83, h1, h2, Option.bind_some, i10, i00, if_true, if_false]
  · subst ex ey
    exact ⟨_, Ω, w, fun ia fi fl qa h => C_followsPlainly h w hkn hq (h1 ia fi fl qa h), fun ia fi fl qa h => M_plain h w hq (h2 ia fi fl qa h)⟩
/-- a claim alone, without premises -/
theorem qOk.one {p : Nat} (hp : p < 5) (h0 : 0 < Ω.1.2.2.2.1 p) : qOk Ω 0 p := ⟨by decide, hp, h0, fun i hi => by rw [Nat.zero_testBit] at hi; cases hi⟩
theorem bad_0 (h : MR b ia fi Ω) (w : WO Ω) {p : Nat} (hp : p < 5) (h0 : 0 < Ω.1.2.2.2.1 p) : f_X10_isBad (b + 83) (0 : Int32) (wr (SK b) ia fi fl qa f) = some 0 := by
  have hk31 : ∀ p, p < 5 → Ω.1.2.2.2.1 p < 2 ^ 31 := fun p hp => Nat.lt_of_le_of_lt (w.1.k30 hp) (by decide)
  have hpl : plN Ω.1.2.2.2.1 5 < 32 := plN_lt _ 5
  have hin : f_X10_in (nI 0) 0 (nI 31) (wr (SK b) ia fi fl qa f) = some 1 := in_t (by omega) (by decide) _
  rw [show nI 0 = (0 : Int32) from rfl, show nI 31 = (31 : Int32) from rfl] at hin
  have ha : (0 : Int32) &&& (nI (plN Ω.1.2.2.2.1 5) ^^^ (-1 : Int32)) = 0 := by
    have := and_no _ (show plN Ω.1.2.2.2.1 5 < 256 by omega) 0 (by decide)
    rw [Nat.zero_and] at this
    exact this
  unfold f_X10_isBad
  simp only [hin, Option.bind_some, i10, if_false, ck_83, m_places h.1.2 hk31, ha, if_true]
theorem t_claim_6 (w : WO Ω) {kn : Nat} (hkn : KNf b f kn) {p : Nat} (hp : p < 5) (h0 : 0 < Ω.1.2.2.2.1 p) : Meth b f Ω (fun μ => f_X9_claim kn b (nI p) 6 μ) (fun μ => f_X10_claim (b + 83) (nI p) 6 μ) := by
  have k30 := w.1.k30 hp
  refine ⟨plV Ω.1.2.2.2.1 Ω.1.2.2.2.2 0 p, Ω, w, fun ia fi fl qa h => ?_, fun ia fi fl qa h => ?_⟩
  · obtain ⟨ia1, fi1, S, kd, lf, rt, Pn, c, z1, z2, z3, z4, z5⟩ := C_claim (fl := fl) h w hkn hp h0
    have hpl := C_plain (fl := fl) z3 w (qOk.one hp h0) z2 (fun i hi => by
      rcases hi with hi | rfl
      · rw [Nat.zero_testBit] at hi; cases hi
      · exact ⟨h0, Nat.testBit_two_pow_self⟩)
    rw [show nI 0 = (0 : Int32) from rfl] at hpl
    show CRes b f ia fi (f_X9_claim kn b (nI p) 6 _) _ _
    rw [z1 6]
    unfold claimT
    rw [if_neg (by decide), if_neg (by decide), if_neg (by decide), if_neg (by decide), if_neg (by decide), if_neg (by decide), if_pos rfl]
    simp only [R_0_7, ck_21, hpl, plV_t, Option.bind_some]
    exact ⟨ia1, fi1, fl, qa, rfl, z3, z4⟩
  · show MRes b f ia fi qa (f_X10_claim (b + 83) (nI p) 6 _) _ _
    have hn : f_X10_noClaim (b + 83) (nI p) (wr (SK b) ia fi fl qa f) = some 0 := by
      rw [noClaim_t h.1.2 hp (show Ω.1.2.2.2.1 p < 2 ^ 31 by omega), if_neg (by omega)]
    have hm := M_plain (fl := fl) (qa := qa) (f := f) h w (qOk.one hp h0) ⟨bad_0 h w hp h0, hn⟩
    obtain ⟨ia1, fi1, fl1, y1, y2, y3⟩ := hm
    rw [show nI 0 = (0 : Int32) from rfl] at y1
    refine ⟨ia1, fi1, fl1, ?_, y2, y3⟩
    unfold f_X10_claim
    simp only [ck_83, hn, Option.bind_some, if_true, R_83_0, A16]
    rw [if_neg (by decide), if_neg (by decide), if_neg (by decide), if_neg (by decide), if_neg (by decide), if_neg (by decide), y1]
    rfl
end PLT
