/-! count, done -/
section METH7
variable {b : Nat} {f : mmF} {Ω : mO}
theorem t_count (w : WO Ω) (y : Int32) : Meth b f Ω (fun μ => f_X9_count b y μ) (fun μ => f_X10_count (b + 83) y μ) := by
  have wf := w.1.1
  have hb1 : isSt b (b + 1) := Or.inl rfl
  have n8' := wf.2.1
  have e31 : ∀ p, p < 5 → Ω.1.2.2.2.1 p < 2 ^ 31 := fun p hp => by
    have := w.1.k30 hp
    omega
  have h32 : plN Ω.1.2.2.2.1 5 < 256 := Nat.lt_of_lt_of_le (plN_lt _ 5) (by decide)
  have h31 : plN Ω.1.2.2.2.1 5 < 2 ^ 31 := Nat.lt_of_lt_of_le (plN_lt _ 5) (by decide)
  have e16 : bcN (plN Ω.1.2.2.2.1 5) 16 = bcN (plN Ω.1.2.2.2.1 5) 8 := by
    rw [bcN_more (n := 5) (plN_lt _ 5) 11, ← bcN_more (n := 5) (plN_lt _ 5) 3]
  obtain ⟨q0, hq0⟩ := FU_1000
  by_cases y0 : y = 0
  · refine ⟨nI Ω.1.1, Ω, w, fun ia fi fl qa h => ?_, fun ia fi fl qa h => ?_⟩
    · show CRes b f ia fi (f_X9_count b y _) _ _
      unfold f_X9_count
      simp only [if_pos y0, R_0_0, Option.bind_some, S_I hb1, h.1.1.1]
      exact CRes.same h
    · show MRes b f ia fi qa (f_X10_count (b + 83) y _) _ _
      unfold f_X10_count
      simp only [if_pos y0, Option.bind_some, R_83_0, A16, h.1.1.1]
      exact MRes.same h
  by_cases y1 : y = 1
  · refine ⟨nI (sumN (fun i => bcN (Ω.1.2.1 i) 8) Ω.1.1) - nI Ω.1.1, Ω, w, fun ia fi fl qa h => ?_, fun ia fi fl qa h => ?_⟩
    · show CRes b f ia fi (f_X9_count b y _) _ _
      unfold f_X9_count
      simp only [if_neg y0, if_pos y1, R_0_0, Option.bind_some, S_ck hb1, c_pairs hb1 h.1.1 wf, S_I hb1, h.1.1.1]
      exact CRes.same h
    · show MRes b f ia fi qa (f_X10_count (b + 83) y _) _ _
      unfold f_X10_count
      simp only [if_neg y0, if_pos y1, Option.bind_some, ck_83, m_pairs h.1.1 wf]
      exact MRes.same h
  by_cases y2 : y = 2
  · refine ⟨nI (bcN (plN Ω.1.2.2.2.1 5) 8), Ω, w, fun ia fi fl qa h => ?_, fun ia fi fl qa h => ?_⟩
    · show CRes b f ia fi (f_X9_count b y _) _ _
      unfold f_X9_count
      simp only [if_neg y0, if_neg y1, if_pos y2, R_0_0, Option.bind_some, S_ck hb1, c_fill hb1 h.1.2, jb_eq h32]
      exact CRes.same h
    · show MRes b f ia fi qa (f_X10_count (b + 83) y _) _ _
      unfold f_X10_count
      simp only [if_neg y0, if_neg y1, if_pos y2, Option.bind_some, ck_83, m_places h.1.2 e31, bits_eq h31, e16]
      exact MRes.same h
  by_cases y3 : y = 3
  · refine ⟨nI (seN Ω.1.2.1 Ω.1.1), Ω, w, fun ia fi fl qa h => ?_, fun ia fi fl qa h => ?_⟩
    · show CRes b f ia fi (f_X9_count b y _) _ _
      have eL : f_X7_lastStages (b + 1) (wr (SK b) ia fi fl qa f) = some (nI (seN Ω.1.2.1 Ω.1.1)) := c_last_4 hb1 h.1.1 wf Ω.1.1 0 FU (by omega) (by omega)
      unfold f_X9_count
      simp only [if_neg y0, if_neg y1, if_neg y2, if_pos y3, R_0_0, Option.bind_some, S_ck hb1, eL]
      exact CRes.same h
    · show MRes b f ia fi qa (f_X10_count (b + 83) y _) _ _
      have eL : f_X10_ends (b + 83) 1 (wr (SK b) ia fi fl qa f) = some (nI (seN Ω.1.2.1 Ω.1.1)) := m_ends_1 h.1.1 wf Ω.1.1 0 FU (by omega) (by omega)
      unfold f_X10_count
      simp only [if_neg y0, if_neg y1, if_neg y2, if_pos y3, Option.bind_some, ck_83, eL]
      exact MRes.same h
  by_cases y4 : y = 4
  · refine ⟨nI (seN (fun v => colN Ω.1.2.1 v Ω.1.1) Ω.1.1), Ω, w, fun ia fi fl qa h => ?_, fun ia fi fl qa h => ?_⟩
    · show CRes b f ia fi (f_X9_count b y _) _ _
      have eL : f_X7_firstStages (b + 1) (wr (SK b) ia fi fl qa f) = some (nI (seN (fun v => colN Ω.1.2.1 v Ω.1.1) Ω.1.1)) := c_first_4 hb1 h.1.1 wf Ω.1.1 0 FU (by omega) (by omega)
      unfold f_X9_count
      simp only [if_neg y0, if_neg y1, if_neg y2, if_neg y3, if_pos y4, R_0_0, Option.bind_some, S_ck hb1, eL]
      exact CRes.same h
    · show MRes b f ia fi qa (f_X10_count (b + 83) y _) _ _
      have eL : f_X10_ends (b + 83) 0 (wr (SK b) ia fi fl qa f) = some (nI (seN (fun v => colN Ω.1.2.1 v Ω.1.1) Ω.1.1)) := m_ends_0 h.1.1 wf Ω.1.1 0 FU (by omega) (by omega)
      unfold f_X10_count
      simp only [if_neg y0, if_neg y1, if_neg y2, if_neg y3, if_pos y4, Option.bind_some, ck_83, eL]
      exact MRes.same h
  by_cases y5 : y = 5
  · have alr : ∀ v, v < Ω.1.1 → Al Ω.1.1 Ω.1.2.1 Ω.1.2.2.1 v v := fun v hv => Al.rf (fun i hi => (wf.2.2 i hi).1) hv
    refine ⟨nI (cnP (rep (Al Ω.1.1 Ω.1.2.1 Ω.1.2.2.1)) Ω.1.1), Ω, w, fun ia fi fl qa h => ?_, fun ia fi fl qa h => ?_⟩
    · show CRes b f ia fi (f_X9_count b y _) _ _
      obtain ⟨ia1, lk, e, h1, hh, h2⟩ := C_like (fl := fl) h w
      have eL := c_unlike_4 (fl := fl) (qa := qa) (f := f) (n := Ω.1.1) (ia := ia1) (fi := fi) hb1 h1.1.1.1 n8' (fun v hv => ⟨(h2 v hv).1, (h2 v hv).2.1, low_rep (alP w).1 (h2 v hv).2.2 (alr v hv)⟩) Ω.1.1 0 FU (by omega) (by omega)
      unfold f_X9_count f_X7_unlike
      simp only [if_neg y0, if_neg y1, if_neg y2, if_neg y3, if_neg y4, if_pos y5, R_0_0, S_ck hb1, e, Option.bind_some]
      have eL' : f_X7_unlike_4 (wr (SK b) ia1 fi fl qa f) FU (b + 1) 0 0 = some (nI (cnP (rep (Al Ω.1.1 Ω.1.2.1 Ω.1.2.2.1)) Ω.1.1)) := eL
      rw [eL']
      exact ⟨_, _, _, _, rfl, h1, hh⟩
    · show MRes b f ia fi qa (f_X10_count (b + 83) y _) _ _
      obtain ⟨ia1, lk, e, h1, hh, h2⟩ := M_like (fl := fl) (qa := qa) (f := f) h w
      have hl : ∀ v, ∃ l, v < Ω.1.1 → isLow (Al Ω.1.1 Ω.1.2.1 Ω.1.2.2.1) v l := fun v => by
        by_cases hv : v < Ω.1.1
        · obtain ⟨l, hl⟩ := low_of w hv
          exact ⟨l, fun _ => hl⟩
        · exact ⟨0, fun h => absurd h hv⟩
      have hlo : ∃ lo : Nat → Nat, ∀ v, v < Ω.1.1 → isLow (Al Ω.1.1 Ω.1.2.1 Ω.1.2.2.1) v (lo v) := ⟨fun v => Classical.choose (hl v), fun v hv => Classical.choose_spec (hl v) hv⟩
      obtain ⟨lo, hlo⟩ := hlo
      have eL := m_unlike_8 (fl := fl) (qa := qa) (f := f) (n := Ω.1.1) (ia := ia1) (fi := fi) (lk := lk) (lo := lo) (E := Al Ω.1.1 Ω.1.2.1 Ω.1.2.2.1) h1.1.1.1 n8' (fun v hv => ⟨(h2 v hv).1, fun μ => m_low w hv (h2 v hv).2.1 (h2 v hv).2.2 (hlo v hv) μ, Nat.not_lt.mp (fun hlt => (hlo v hv).2 v hlt (alr v hv)), low_rep (alP w).1 (hlo v hv) (alr v hv)⟩) Ω.1.1 0 FU (by omega) (by omega)
      unfold f_X10_count f_X10_unlike
      simp only [if_neg y0, if_neg y1, if_neg y2, if_neg y3, if_neg y4, if_pos y5, ck_83, e, Option.bind_some]
      have eL' : f_X10_unlike_8 FU (b + 83) 0 0 (wr (SK b) ia1 fi fl qa f) = some (nI (cnP (rep (Al Ω.1.1 Ω.1.2.1 Ω.1.2.2.1)) Ω.1.1), wr (SK b) ia1 fi fl qa f) := eL
      rw [eL']
      exact ⟨_, _, _, rfl, h1, hh⟩
  by_cases y6 : y = 6
  · refine ⟨nI (coN Ω.1.2.2.1 Ω.1.1), Ω, w, fun ia fi fl qa h => ?_, fun ia fi fl qa h => ?_⟩
    · show CRes b f ia fi (f_X9_count b y _) _ _
      have eL : f_X7_commonFacts (b + 1) (wr (SK b) ia fi fl qa f) = some (nI (coN Ω.1.2.2.1 Ω.1.1)) := c_com_5 hb1 h.1.1 wf Ω.1.1 0 FU (by omega) (by omega)
      unfold f_X9_count
      simp only [if_neg y0, if_neg y1, if_neg y2, if_neg y3, if_neg y4, if_neg y5, if_pos y6, R_0_0, Option.bind_some, S_ck hb1, eL]
      exact CRes.same h
    · show MRes b f ia fi qa (f_X10_count (b + 83) y _) _ _
      have eL : f_X10_everywhere (b + 83) (wr (SK b) ia fi fl qa f) = some (nI (coN Ω.1.2.2.1 Ω.1.1)) := m_every_5 h.1.1 wf Ω.1.1 0 FU (by omega) (by omega)
      unfold f_X10_count
      simp only [if_neg y0, if_neg y1, if_neg y2, if_neg y3, if_neg y4, if_neg y5, if_pos y6, Option.bind_some, ck_83, eL]
      exact MRes.same h
  by_cases y7 : y = 7
  · refine ⟨nI Ω.2.1, Ω, w, fun ia fi fl qa h => ?_, fun ia fi fl qa h => ?_⟩
    · show CRes b f ia fi (f_X9_count b y _) _ _
      unfold f_X9_count
      simp only [if_neg y0, if_neg y1, if_neg y2, if_neg y3, if_neg y4, if_neg y5, if_neg y6, if_pos y7, R_0_0, Option.bind_some, I_0_2, h.2.2.1]
      exact CRes.same h
    · show MRes b f ia fi qa (f_X10_count (b + 83) y _) _ _
      unfold f_X10_count
      simp only [if_neg y0, if_neg y1, if_neg y2, if_neg y3, if_neg y4, if_neg y5, if_neg y6, if_pos y7, Option.bind_some, I_83_2, h.2.2.1]
      exact MRes.same h
  by_cases y8 : y = 8
  · refine ⟨nI Ω.2.2.2.2.1, Ω, w, fun ia fi fl qa h => ?_, fun ia fi fl qa h => ?_⟩
    · show CRes b f ia fi (f_X9_count b y _) _ _
      unfold f_X9_count
      simp only [if_neg y0, if_neg y1, if_neg y2, if_neg y3, if_neg y4, if_neg y5, if_neg y6, if_neg y7, if_pos y8, R_0_0, Option.bind_some, R_0_5, I_16_0, h.2.2.2.2.1.1]
      exact CRes.same h
    · show MRes b f ia fi qa (f_X10_count (b + 83) y _) _ _
      unfold f_X10_count
      simp only [if_neg y0, if_neg y1, if_neg y2, if_neg y3, if_neg y4, if_neg y5, if_neg y6, if_neg y7, if_pos y8, Option.bind_some, I_83_7, h.2.2.2.2.1]
      exact MRes.same h
  · refine ⟨-2, Ω, w, fun ia fi fl qa h => ?_, fun ia fi fl qa h => ?_⟩
    · show CRes b f ia fi (f_X9_count b y _) _ _
      unfold f_X9_count
      simp only [if_neg y0, if_neg y1, if_neg y2, if_neg y3, if_neg y4, if_neg y5, if_neg y6, if_neg y7, if_neg y8]
      exact CRes.same h
    · show MRes b f ia fi qa (f_X10_count (b + 83) y _) _ _
      unfold f_X10_count
      simp only [if_neg y0, if_neg y1, if_neg y2, if_neg y3, if_neg y4, if_neg y5, if_neg y6, if_neg y7, if_neg y8]
      exact MRes.same h
end METH7
