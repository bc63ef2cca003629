/-! put, done -/
section METH11
variable {b sz : Nat} {f : mmF} {Ω : mO}
theorem cl_ck {c k : Nat} {g : Nat → Nat} {ia fi : Nat → Nat → Int32} {fl : Nat → Nat → Int64} {qa : Nat → Nat → Option Nat} (h : ClA b f c k g) : ckO (wr (SK b) ia fi fl qa f) c 0 = some () := by
  obtain ⟨h1, sg, hh, h2, h3, h4, h5⟩ := h
  simp only [ckO, wr_o (SK_high h1), h3, if_pos]
theorem VC.lt {k : Nat} {g : Nat → Nat} (h : VC k g) : ∀ j, j < k → g j < 2 ^ 31 := fun j hj => Nat.lt_trans (h.ok j hj).1 (by decide)
theorem t_put (w : WO Ω) (hsz : b + 102 ≤ sz) (hfr : fresh f sz) (x : Int32) : MethP b f sz Ω (fun μ s => f_X9_put b x μ s) (fun μ => f_X10_put (b + 83) x μ) := by
  have hb1 : isSt b (b + 1) := Or.inl rfl
  have hlen := w.2.2.2.2.1
  have htx5 := w.2.2.2.2.2
  have hsg : ∀ j, j < Ω.2.2.2.2.1 → sgn (Ω.2.2.2.2.2 j) < 2 ^ 31 := fun j hj => by
    rcases sgn_all (Ω.2.2.2.2.2 j) with h | h | h | h | h | h | h | h | h | h | h | h | h <;> omega
  by_cases hx : ∃ k, k < 5 ∧ x = nI k
  · obtain ⟨p, hp, rfl⟩ := hx
    have hpr := pr_ok (sg := fun j => sgn (Ω.2.2.2.2.2 j)) Ω.2.2.2.2.1 0 pS0 (by omega) WP0 WL0
    have K30 := w.1.k30 hp
    have G31 : ∀ j, j < Ω.1.2.2.2.1 p → Ω.1.2.2.2.2 p j < 2 ^ 31 := fun j hj => (w.1.2 p hp (by omega)).lt j hj
    -- what both sides have read
    have rC : ∀ {ia fi : Nat → Nat → Int32} {fl : Nat → Nat → Int64} {qa : Nat → Nat → Option Nat}, CR b ia fi qa f Ω → ∃ ia1 fi1 : Nat → Nat → Int32, (CR b ia1 fi1 qa f Ω ∧ highE b ia fi ia1 fi1) ∧ ((∃ k, pr (fun j => sgn (Ω.2.2.2.2.2 j)) Ω.2.2.2.2.1 0 pS0 = .inl k ∧ f_X8_readFault (b + 16) (wr (SK b) ia fi fl qa f) = some (nI k, wr (SK b) ia1 fi1 fl qa f)) ∨ ∃ (g : Nat → Nat) (k : Nat), pr (fun j => sgn (Ω.2.2.2.2.2 j)) Ω.2.2.2.2.1 0 pS0 = .inr (g, k) ∧ f_X8_readFault (b + 16) (wr (SK b) ia fi fl qa f) = some (-1, wr (SK b) ia1 fi1 fl qa f) ∧ fi1 (b + 16) 3 = nI k ∧ ∀ j, j < k → ia1 (b + 18) j = nI (g j)) := by
      intro ia fi fl qa h
      obtain ⟨ia1, fi1, hF, hr⟩ := c_readFault (fl := fl) (qa := qa) (f := f) (sg := fun j => sgn (Ω.2.2.2.2.2 j)) hlen hsg h.2.2.2.2.1.1 h.2.2.2.2.1.2
      exact ⟨ia1, fi1, h.scr (fun a ha => hF.1 a (by omega) (by omega)) (fun a j ha => hF.2 a j (by omega)), hr⟩
    have rM : ∀ {f' : mmF} {ia fi : Nat → Nat → Int32} {fl : Nat → Nat → Int64} {qa : Nat → Nat → Option Nat}, MR b ia fi Ω → ∃ ia1 fi1 : Nat → Nat → Int32, (MR b ia1 fi1 Ω ∧ lowE b ia fi ia1 fi1) ∧ ((∃ k, pr (fun j => sgn (Ω.2.2.2.2.2 j)) Ω.2.2.2.2.1 0 pS0 = .inl k ∧ f_X10_isClaim (b + 83) (wr (SK b) ia fi fl qa f') = some (0, wr (SK b) ia1 fi1 fl qa f') ∧ fi1 (b + 83) 9 = nI k) ∨ ∃ (g : Nat → Nat) (k : Nat), pr (fun j => sgn (Ω.2.2.2.2.2 j)) Ω.2.2.2.2.1 0 pS0 = .inr (g, k) ∧ f_X10_isClaim (b + 83) (wr (SK b) ia fi fl qa f') = some (1, wr (SK b) ia1 fi1 fl qa f') ∧ fi1 (b + 83) 11 = nI k ∧ ∀ j, j < k → ia1 (b + 90) j = nI (g j)) := by
      intro f' ia fi fl qa h
      obtain ⟨ia1, fi1, hF, hr⟩ := m_isClaim (fl := fl) (qa := qa) (f := f') (tx := Ω.2.2.2.2.2) hlen htx5 h.2.2.2.2.1 h.2.2.2.2.2
      exact ⟨ia1, fi1, h.scr (fun a ha => hF.1 a (by omega) (by omega)) (fun a j ha => hF.2 a j (by omega)), hr⟩
    cases hR : pr (fun j => sgn (Ω.2.2.2.2.2 j)) Ω.2.2.2.2.1 0 pS0 with
    | inl kf =>
      have hkf := hpr.1 kf hR
      refine ⟨-100 - nI kf, Ω, w, fun ia fi fl qa h => ?_, fun f' ia fi fl qa h => ?_⟩
      · show CResP b f sz ia fi (f_X9_put b (nI p) _ sz) _ _
        obtain ⟨ia1, fi1, ⟨h1, hh⟩, hr⟩ := rC (fl := fl) h
        rcases hr with ⟨k, e1, e2⟩ | ⟨g, k, e1, _⟩
        · rw [hR] at e1
          cases e1
          unfold f_X9_put
          simp only [place_t hp, Option.bind_some, i10, if_false, R_0_5, ck_16, e2, if_neg (show ¬ nI kf < (0 : Int32) from nI_pos (by omega))]
          exact ⟨_, _, _, _, _, _, rfl, h1, hh, Nat.le_refl _, by omega, extM.rf f, hfr⟩
        · rw [hR] at e1
          cases e1
      · show MRes b f' ia fi qa (f_X10_put (b + 83) (nI p) _) _ _
        obtain ⟨ia1, fi1, ⟨h1, hh⟩, hr⟩ := rM (f' := f') (fl := fl) (qa := qa) h
        rcases hr with ⟨k, e1, e2, e3⟩ | ⟨g, k, e1, _⟩
        · rw [hR] at e1
          cases e1
          unfold f_X10_put
          simp only [noPlace_t hp, Option.bind_some, i00, if_true, ck_83, e2, I_83_9, e3]
          exact ⟨_, _, _, rfl, h1, hh⟩
        · rw [hR] at e1
          cases e1
    | inr gk =>
      obtain ⟨g, k⟩ := gk
      have hv : VC k g := hpr.2 g k hR
      have k1 := hv.1
      have k30 := hv.2.1
      by_cases hS : Sm Ω.1.2.2.2.1 Ω.1.2.2.2.2 p k g
      · refine ⟨-5, Ω, w, fun ia fi fl qa h => ?_, fun f' ia fi fl qa h => ?_⟩
        · show CResP b f sz ia fi (f_X9_put b (nI p) _ sz) _ _
          obtain ⟨ia1, fi1, ⟨h1, hh⟩, hr⟩ := rC (fl := fl) h
          rcases hr with ⟨k, e1, e2⟩ | ⟨g2, k2, e1, e2, e3, e4⟩
          · rw [hR] at e1
            cases e1
          · rw [hR] at e1
            cases e1
            obtain ⟨f1, em, hc, hex, hfr1⟩ := made_ok (fl := fl) (qa := qa) (ia := ia1) (fi := fi1) hsz hfr k30 e3 e4
            have h2 := h1.ext hex
            rcases h2.1.2 p hp with ⟨h0, _⟩ | ⟨h0, c, hq, hc2⟩
            · have := hS.1
              omega
            · obtain ⟨r, hr, hr2⟩ := c_same (ia := ia1) (fi := fi1) (fl := fl) (qa := qa) hc hc2 (by omega) (by omega) hv.lt G31
              have hr1 : r = 1 := by
                rcases hr2 with ⟨x, _⟩ | ⟨_, x⟩
                · exact x
                · exact absurd hS x
              unfold f_X9_put
              simp only [place_t hp, Option.bind_some, i10, if_false, R_0_5, ck_16, e2, if_pos (show (-1 : Int32) < 0 by decide), em, ck_0, claimAt_t hp, hq, qc, cl_ck hc, hr, hr1]
              exact ⟨_, _, _, _, _, _, rfl, h2, hh, by omega, by omega, hex, hfr1⟩
        · show MRes b f' ia fi qa (f_X10_put (b + 83) (nI p) _) _ _
          obtain ⟨ia1, fi1, ⟨h1, hh⟩, hr⟩ := rM (f' := f') (fl := fl) (qa := qa) h
          rcases hr with ⟨k, e1, e2⟩ | ⟨g2, k2, e1, e2, e3, e4⟩
          · rw [hR] at e1
            cases e1
          · rw [hR] at e1
            cases e1
            obtain ⟨r, hr, hr2⟩ := m_same (fl := fl) (qa := qa) (f := f') h1.1.2 hp k30 K30 e3 e4 hv.lt G31
            have hr1 : r = 1 := by
              rcases hr2 with ⟨x, _⟩ | ⟨_, x⟩
              · exact x
              · exact absurd hS x
            unfold f_X10_put
            simp only [noPlace_t hp, Option.bind_some, i00, if_true, ck_83, e2, i10, if_false, hr, hr1]
            exact ⟨_, _, _, rfl, h1, hh⟩
      · refine ⟨nI (hO (putO Ω p k g) p), putO Ω p k g, w.putO hv, fun ia fi fl qa h => ?_, fun f' ia fi fl qa h => ?_⟩
        · show CResP b f sz ia fi (f_X9_put b (nI p) _ sz) _ _
          obtain ⟨ia1, fi1, ⟨h1, hh⟩, hr⟩ := rC (fl := fl) h
          rcases hr with ⟨k, e1, e2⟩ | ⟨g2, k2, e1, e2, e3, e4⟩
          · rw [hR] at e1
            cases e1
          · rw [hR] at e1
            cases e1
            obtain ⟨f1, em, hc, hex, hfr1⟩ := made_ok (fl := fl) (qa := qa) (ia := ia1) (fi := fi1) hsz hfr k30 e3 e4
            have h2 := h1.ext hex
            obtain ⟨ia2, fi2, qa2, μ1, ia3, fi3, qa3, y1, y2, y3, y4, y5, y6⟩ := C_put (fl := fl) h2 w hp hc hv
            have e58 : f_X9_put_58 b (nI p) sz (wr (SK b) ia1 fi1 fl qa f1) (sz + 2) = some (nI (hO (putO Ω p k g) p), wr (SK b) ia3 fi3 fl qa3 f1, sz + 2) := by
              unfold f_X9_put_58
              simp only [ck_0, y1, Option.bind_some, R_0_0, S_R3 hb1, y2, y3, y4]
            have fin : CResP b f sz ia fi (some (nI (hO (putO Ω p k g) p), wr (SK b) ia3 fi3 fl qa3 f1, sz + 2)) (nI (hO (putO Ω p k g) p)) (putO Ω p k g) := ⟨_, _, _, _, _, _, rfl, y5, hh.tr y6, by omega, by omega, hex, hfr1⟩
            unfold f_X9_put
            simp only [place_t hp, Option.bind_some, i10, if_false, R_0_5, ck_16, e2, if_pos (show (-1 : Int32) < 0 by decide), em, ck_0, claimAt_t hp]
            rcases h2.1.2 p hp with ⟨h0, hq⟩ | ⟨h0, c, hq, hc2⟩
            · simp only [hq, qc, e58]
              exact fin
            · obtain ⟨r, hr, hr2⟩ := c_same (ia := ia1) (fi := fi1) (fl := fl) (qa := qa) hc hc2 (by omega) (by omega) hv.lt G31
              have hr1 : r = 0 := by
                rcases hr2 with ⟨_, x⟩ | ⟨x, _⟩
                · exact absurd x hS
                · exact x
              simp only [hq, qc, cl_ck hc, hr, hr1, Option.bind_some, i00, if_true, e58]
              exact fin
        · show MRes b f' ia fi qa (f_X10_put (b + 83) (nI p) _) _ _
          obtain ⟨ia1, fi1, ⟨h1, hh⟩, hr⟩ := rM (f' := f') (fl := fl) (qa := qa) h
          rcases hr with ⟨k, e1, e2⟩ | ⟨g2, k2, e1, e2, e3, e4⟩
          · rw [hR] at e1
            cases e1
          · rw [hR] at e1
            cases e1
            obtain ⟨r, hr, hr2⟩ := m_same (fl := fl) (qa := qa) (f := f') h1.1.2 hp k30 K30 e3 e4 hv.lt G31
            have hr1 : r = 0 := by
              rcases hr2 with ⟨_, x⟩ | ⟨x, _⟩
              · exact absurd x hS
              · exact x
            obtain ⟨ia2, fi2, er, g1, g2', g3, g4⟩ := M_rec3 (fl := fl) (qa := qa) (f := f') h1 w
            obtain ⟨μ1, ia3, l1, l2, l3, l4, l5⟩ := M_lay (fl := fl) (qa := qa) (f := f') g1 w hp hv (by rw [g4 11 (by decide)]; exact e3) (fun j hj => by rw [g3 _ (by omega)]; exact e4 j hj)
            unfold f_X10_put
            simp only [noPlace_t hp, Option.bind_some, i00, if_true, ck_83, e2, i10, if_false, hr, hr1, er, l1, l2, l3]
            exact ⟨_, _, _, rfl, l4, (hh.tr g2').tr l5⟩
  · have hx2 : ∀ k, k < 5 → x ≠ nI k := fun k hk e => hx ⟨k, hk, e⟩
    refine ⟨-1, Ω, w, fun ia fi fl qa h => ?_, fun f' ia fi fl qa h => ?_⟩
    · show CResP b f sz ia fi (f_X9_put b x _ sz) _ _
      unfold f_X9_put
      simp only [place_f hx2, Option.bind_some, i00, if_true]
      exact CResP.same h hfr
    · show MRes b f' ia fi qa (f_X10_put (b + 83) x _) _ _
      unfold f_X10_put
      simp only [noPlace_f hx2, Option.bind_some, i10, if_false]
      exact MRes.same h
end METH11
