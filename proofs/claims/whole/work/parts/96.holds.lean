/-! holds -/
section HOLDS
variable {b : Nat} {ia fi : Nat → Nat → Int32} {fl : Nat → Nat → Int64} {qa : Nat → Nat → Option Nat} {f : mmF} {Ω : mO}
theorem CR.scr2 {ia1 fi1 : Nat → Nat → Int32} (h : CR b ia fi qa f Ω) (e : ∀ a : Nat, a < b + 5 ∨ (b + 8 ≤ a ∧ a < b + 18) ∨ (b + 20 ≤ a ∧ a < b + 23) ∨ a = b + 29 ∨ a = b + 35 ∨ a = b + 36 ∨ b + 55 ≤ a → ia1 a = ia a) (e23 : ∀ i, i < 6 → ia1 (b + 23) i = ia (b + 23) i) (e2 : ∀ a j : Nat, a < b + 16 ∨ (a = b + 16 ∧ j = 0) ∨ (b + 17 ≤ a ∧ a < b + 20) ∨ a = b + 33 ∨ b + 55 ≤ a → fi1 a j = fi a j) : CR b ia1 fi1 qa f Ω ∧ highE b ia fi ia1 fi1 := by
  obtain ⟨h1, ⟨ad, hA, hI, hH⟩, h3, ⟨h4, h4b⟩, ⟨h5, h5b⟩, c1, c2, c3, c4, c5⟩ := h
  refine ⟨⟨?_, ⟨ad, hA, hI, fun q hq hq4 => ?_⟩, ?_, ⟨?_, fun τ hτ => ?_⟩, ⟨?_, fun i hi => ?_⟩, c1.cg (e _ (by omega)) (e _ (by omega)) (e2 _ _ (by omega)), c2, c3, fun i hi => ?_, fun i hi => ?_⟩, fun a ha => ⟨e a (by omega), funext fun j => e2 a j (by omega)⟩⟩
  · exact h1.congr (e2 _ _ (by omega)) (e _ (by omega)) (e _ (by omega)) rfl
  · obtain ⟨k, hk, ha⟩ := (hA q hq4).2
    exact (hH q hq hq4).congr (e2 _ _ (by omega)) (e _ (by omega)) (e _ (by omega)) rfl
  · rw [e2 _ _ (by omega)]; exact h3
  · rw [e2 _ _ (by omega)]; exact h4
  · exact (h4b τ hτ).congr (e2 _ _ (by omega)) (e _ (by omega)) (e _ (by omega)) rfl
  · rw [e2 _ _ (by omega)]; exact h5
  · rw [e _ (by omega)]; exact h5b i hi
  · rw [e23 i hi]; exact c4 i hi
  · rw [e _ (by omega)]; exact c5 i hi
/-- where the claim of a place holds -/
abbrev hO (Ω : mO) (p : Nat) : Nat := hN Ω.1.1 Ω.1.2.1 Ω.1.2.2.1 (Ω.1.2.2.2.2 p) (Ω.1.2.2.2.1 p - 1)
theorem hO_lt (w : WO Ω) {p : Nat} (hp : p < 5) (h0 : 0 < Ω.1.2.2.2.1 p) : hO Ω p < 256 := by
  have hv := w.1.2 p hp h0
  exact Nat.lt_of_lt_of_le (hN_lt _ _ hv.ok _ (by have := hv.1; omega)) (p8 w.1.1.2.1)
/-- the parts of some places are taken -/
theorem C_take (h : CR b ia fi qa f Ω) (w : WO Ω) {W : Nat} (hW : W < 32) : ∃ (ia1 fi1 : Nat → Nat → Int32) (S : Nat) (kd lf rt : Nat → Nat) (Pn : Nat → Nat → Nat), f_X4_take (b + 22) (b + 4) (nI W) (wr (SK b) ia fi fl qa f) = some (wr (SK b) ia1 fi1 fl qa f) ∧ TK b ia1 fi1 Ω.1.2.2.2.1 Ω.1.2.2.2.2 W S kd lf rt Pn 5 ∧ CR b ia1 fi1 qa f Ω ∧ highE b ia fi ia1 fi1 := by
  obtain ⟨ia1, fi1, S, kd, lf, rt, Pn, z1, z2, z3, z4⟩ := take_ok (ia := ia) (fi := fi) (fl := fl) h.1.2 w.1.2 h.2.2.2.2.2.2.2.2.1 hW
  have hS := h.scr2 (ia1 := ia1) (fi1 := fi1) (fun a ha => z3 a (by omega)) (fun i hi => by
    rw [z2.1.2.1 i (by have := z2.2.1.1; omega), z2.2.1.2.2.1 i hi]
    exact (h.2.2.2.2.2.2.2.2.1 i hi).symm) (fun a j ha => by rw [z4 a (by omega)])
  exact ⟨ia1, fi1, S, kd, lf, rt, Pn, z1, z2, hS.1, hS.2⟩
/-- the stages at which a taken part holds -/
theorem C_with (h : CR b ia fi qa f Ω) (w : WO Ω) {W S : Nat} {kd lf rt : Nat → Nat} {Pn : Nat → Nat → Nat} (ht : TK b ia fi Ω.1.2.2.2.1 Ω.1.2.2.2.2 W S kd lf rt Pn 5) {p : Nat} (hp : p < 5) (hs : selP Ω.1.2.2.2.1 W p) : f_X4_whole (b + 22) (nI p) (wr (SK b) ia fi fl qa f) = some (nI (Pn p (Ω.1.2.2.2.1 p - 1))) ∧ ∃ ia1 : Nat → Nat → Int32, f_X7_stagesWith (b + 1) (b + 22) (nI (Pn p (Ω.1.2.2.2.1 p - 1))) (wr (SK b) ia fi fl qa f) = some (nI (hO Ω p), wr (SK b) ia1 fi fl qa f) ∧ CR b ia1 fi qa f Ω ∧ highE b ia fi ia1 fi ∧ ∀ a : Nat, a ≠ b + 7 → ia1 a = ia a := by
  have hb1 : isSt b (b + 1) := Or.inl rfl
  obtain ⟨qf, hqf⟩ := FU_1000
  obtain ⟨t1, t2, t3, t4, t5⟩ := ht
  have hv := w.1.2 p hp hs.1
  have k1 := hv.1
  rcases t5 p hp with ⟨_, hn, hw⟩ | ⟨hn, _⟩
  · obtain ⟨R1, hR⟩ := c_with (fl := fl) (qa := qa) (f := f) hb1 (Or.inl (by omega)) h.1.1 w.1.1 t1 t2 (hn (Ω.1.2.2.2.1 p - 1) (by omega)).1 S 0 FU (ia (b + 1 + 6)) (by omega) (by have := t2.2.1; omega) (fun d hd => absurd hd (Nat.not_lt_zero _))
    rw [rw2_id] at hR
    have hval : hPv Ω.1.1 Ω.1.2.1 Ω.1.2.2.1 kd lf rt (Pn p (Ω.1.2.2.2.1 p - 1)) = hO Ω p := hn.val t2 hv.ok _ (by omega)
    have hS := h.scr (ia1 := rw2 ia (b + 1 + 6) R1) (fi1 := fi) (fun a ha => rw2_n _ _ (by omega)) (fun a j ha => rfl)
    refine ⟨?_, _, ?_, hS.1, hS.2, fun a ha => rw2_n _ _ (by omega)⟩
    · unfold f_X4_whole
      simp only [R_22_4, Option.bind_some, at_row L_26 (An_26 hp) hp (by decide), hw]
    · rw [hval] at hR
      exact hR
  · exact absurd hs hn
theorem C_stagesOf (h : CR b ia fi qa f Ω) (w : WO Ω) {p : Nat} (hp : p < 5) (h0 : 0 < Ω.1.2.2.2.1 p) : ∃ (ia1 fi1 : Nat → Nat → Int32), f_X9_stagesOf b (nI p) (wr (SK b) ia fi fl qa f) = some (nI (hO Ω p), wr (SK b) ia1 fi1 fl qa f) ∧ CR b ia1 fi1 qa f Ω ∧ highE b ia fi ia1 fi1 := by
  have hb1 : isSt b (b + 1) := Or.inl rfl
  have hW : 2 ^ p < 32 := Nat.lt_of_le_of_lt (Nat.pow_le_pow_right (n := 2) (by decide) (show p ≤ 4 by omega)) (by decide)
  obtain ⟨ia1, fi1, S, kd, lf, rt, Pn, z1, z2, z3, z4⟩ := C_take (fl := fl) h w hW
  obtain ⟨y1, ia2, y2, y3, y4, _⟩ := C_with (fl := fl) z3 w z2 hp ⟨h0, by rw [Nat.testBit_two_pow]; exact decide_eq_true rfl⟩
  refine ⟨ia2, fi1, ?_, y3, z4.tr y4⟩
  unfold f_X9_stagesOf
  have e3 : ldR (wr (SK b) ia fi fl qa f) (b + 1) 7 3 = some (b + 4) := S_R3 hb1
  simp only [R_0_8, R_0_0, e3, ck_22, bt_shl (show p < 32 by omega), z1, Option.bind_some, y1, S_ck hb1, y2]
theorem M_holding (h : MR b ia fi Ω) (w : WO Ω) {p : Nat} (hp : p < 5) (h0 : 0 < Ω.1.2.2.2.1 p) : ∃ (ia1 : Nat → Nat → Int32), f_X10_holding (b + 83) (nI p) (wr (SK b) ia fi fl qa f) = some (nI (hO Ω p), wr (SK b) ia1 fi fl qa f) ∧ MR b ia1 fi Ω ∧ lowE b ia fi ia1 fi ∧ ∀ a : Nat, a ≠ b + 92 → ia1 a = ia a := by
  obtain ⟨R1, hR⟩ := m_holding (fi := fi) (fl := fl) (qa := qa) (f := f) h.1.1 w.1.1 hp (h.1.2 p hp).1 (h.1.2 p hp).2 (w.1.2 p hp h0)
  have hS := h.scr (ia1 := rw2 ia (b + 92) R1) (fi1 := fi) (fun a ha => rw2_n _ _ (by omega)) (fun a j ha => rfl)
  exact ⟨_, hR, hS.1, hS.2, fun a ha => rw2_n _ _ ha⟩
end HOLDS
section METH9
variable {b : Nat} {f : mmF} {Ω : mO}
theorem t_holds (w : WO Ω) (x y : Int32) : Meth b f Ω (fun μ => f_X9_holds b x y μ) (fun μ => f_X10_holds (b + 83) x y μ) := by
  have wf := w.1.1
  have hb1 : isSt b (b + 1) := Or.inl rfl
  have n1 := wf.1
  have n8' := wf.2.1
  by_cases hx : ∃ k, k < 5 ∧ x = nI k
  · obtain ⟨k, hk, rfl⟩ := hx
    have k30 := w.1.k30 hk
    by_cases h0 : Ω.1.2.2.2.1 k = 0
    · refine ⟨-1, Ω, w, fun ia fi fl qa h => ?_, fun ia fi fl qa h => ?_⟩
      · show CRes b f ia fi (f_X9_holds b (nI k) y _) _ _
        unfold f_X9_holds
        simp only [ck_0, claimAt_t hk, Option.bind_some]
        rcases h.1.2 k hk with ⟨_, h1⟩ | ⟨h1, _⟩
        · rw [h1]
          exact CRes.same h
        · omega
      · show MRes b f ia fi qa (f_X10_holds (b + 83) (nI k) y _) _ _
        unfold f_X10_holds
        simp only [ck_83, noClaim_t h.1.2 hk (show Ω.1.2.2.2.1 k < 2 ^ 31 by omega), Option.bind_some, h0, if_true, i10, if_false]
        exact MRes.same h
    · by_cases hy : ∃ j, j < Ω.1.1 ∧ y = nI j
      · obtain ⟨j, hj, rfl⟩ := hy
        have hH := hO_lt w hk (by omega)
        have hH31 : hO Ω k < 2 ^ 31 := Nat.lt_trans hH (by decide)
        refine ⟨if (hO Ω k).testBit j then 1 else 0, Ω, w, fun ia fi fl qa h => ?_, fun ia fi fl qa h => ?_⟩
        · show CRes b f ia fi (f_X9_holds b (nI k) (nI j) _) _ _
          obtain ⟨ia1, fi1, e, h1, hh⟩ := C_stagesOf (fl := fl) h w hk (show 0 < Ω.1.2.2.2.1 k by omega)
          unfold f_X9_holds
          simp only [ck_0, claimAt_t hk, Option.bind_some]
          rcases h.1.2 k hk with ⟨h1, _⟩ | ⟨_, c, h2, _⟩
          · omega
          · rw [h2]
            simp only [qc, R_0_0, S_ck hb1, isStage_t hb1 h.1.1.1 hj (by omega), Option.bind_some, i10, if_false, e, has_eq]
            cases hb : (hO Ω k).testBit j with
            | false =>
              rw [if_pos ((bt_0 hH31 (by omega)).mpr hb), truth_0]
              exact ⟨_, _, _, _, rfl, h1, hh⟩
            | true =>
              have hne : ¬ ((nI (hO Ω k) >>> (nI j &&& 31)) &&& 1) = (0 : Int32) := fun e => by
                rw [bt_0 hH31 (by omega), hb] at e
                cases e
              rw [if_neg hne, truth_1]
              exact ⟨_, _, _, _, rfl, h1, hh⟩
        · show MRes b f ia fi qa (f_X10_holds (b + 83) (nI k) (nI j) _) _ _
          obtain ⟨ia1, e, h1, hh, _⟩ := M_holding (fl := fl) (qa := qa) (f := f) h w hk (show 0 < Ω.1.2.2.2.1 k by omega)
          unfold f_X10_holds
          simp only [ck_83, noClaim_t h.1.2 hk (show Ω.1.2.2.2.1 k < 2 ^ 31 by omega), Option.bind_some, if_neg h0, i00, if_true, m_noS_t h.1.1.1 hj (by omega), e]
          rw [bt_get hH31 (by omega)]
          exact ⟨_, _, _, rfl, h1, hh⟩
      · have hy2 : ∀ k, k < Ω.1.1 → y ≠ nI k := fun k hk e => hy ⟨k, hk, e⟩
        refine ⟨-1, Ω, w, fun ia fi fl qa h => ?_, fun ia fi fl qa h => ?_⟩
        · show CRes b f ia fi (f_X9_holds b (nI k) y _) _ _
          unfold f_X9_holds
          simp only [ck_0, claimAt_t hk, Option.bind_some]
          rcases h.1.2 k hk with ⟨h1, _⟩ | ⟨_, c, h2, _⟩
          · omega
          · rw [h2]
            simp only [qc, R_0_0, S_ck hb1, isStage_f hb1 h.1.1.1 (by omega) hy2, Option.bind_some, i00, if_true]
            exact CRes.same h
        · show MRes b f ia fi qa (f_X10_holds (b + 83) (nI k) y _) _ _
          unfold f_X10_holds
          simp only [ck_83, noClaim_t h.1.2 hk (show Ω.1.2.2.2.1 k < 2 ^ 31 by omega), Option.bind_some, if_neg h0, i00, if_true, m_noS_f h.1.1.1 n1 (by omega) hy2, i10, if_false]
          exact MRes.same h
  · have hx2 : ∀ k, k < 5 → x ≠ nI k := fun k hk e => hx ⟨k, hk, e⟩
    refine ⟨-1, Ω, w, fun ia fi fl qa h => ?_, fun ia fi fl qa h => ?_⟩
    · show CRes b f ia fi (f_X9_holds b x y _) _ _
      unfold f_X9_holds
      simp only [ck_0, claimAt_f hx2, Option.bind_some, qc]
      exact CRes.same h
    · show MRes b f ia fi qa (f_X10_holds (b + 83) x y _) _ _
      unfold f_X10_holds
      simp only [ck_83, noClaim_f hx2, Option.bind_some, i10, if_false]
      exact MRes.same h
end METH9
