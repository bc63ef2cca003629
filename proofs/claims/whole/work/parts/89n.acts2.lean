/-! CHANGES OF STAGES, GONE ON WITH: lead, learn, forget, removeStage -/
theorem i10 : ((1 : Int32) = 0) = False := eq_false (by decide)
theorem i00 : ((0 : Int32) = 0) = True := eq_self 0
theorem i01 : ((0 : Int32) = 1) = False := eq_false (by decide)
theorem i11 : ((1 : Int32) = 1) = True := eq_self 1
theorem WF.teach' {n : Nat} {L L1 F F1 : Nat → Nat} (w : WF n L F) (w1 : WF n L1 F1) : WF n L F1 := ⟨w.1, w.2.1, fun i hi => ⟨(w.2.2 i hi).1, (w1.2.2 i hi).2⟩⟩
theorem dif_c (a c n : Int32) : (a - n) - (c - n) = a - c := by
  simp only [Int32.sub_eq_add_neg, Int32.neg_add, Int32.neg_neg]
  rw [show a + -n + (-c + n) = a + -c + (n + -n) by ac_rfl, Int32.add_right_neg, Int32.add_zero]
theorem fact_t {k : Nat} (hk : k < 4) (f : mmF) : f_X9_isFact (nI k) f = some 1 := by
  unfold f_X9_isFact
  rw [if_neg (nI_pos (by omega)), show (4 : Int32) = nI 4 from rfl, if_neg (nI_ge hk (by decide))]
theorem fact_f {x : Int32} (hx : ∀ k, k < 4 → x ≠ nI k) (f : mmF) : f_X9_isFact x f = some 0 := by
  unfold f_X9_isFact
  by_cases h0 : x < 0
  · rw [if_pos h0]
  · rw [if_neg h0]
    obtain ⟨j, hj, rfl⟩ := nI_of h0
    have : 4 ≤ j := Nat.not_lt.mp fun h => hx j h rfl
    rw [show (4 : Int32) = nI 4 from rfl, if_pos (nI_le this hj)]
theorem in_t {k m : Nat} (hk : k ≤ m) (hm : m < 2 ^ 31) (f : mmF) : f_X10_in (nI k) 0 (nI m) f = some 1 := by
  unfold f_X10_in
  rw [if_neg (nI_pos (by omega)), if_neg (nI_nlt hk hm)]
theorem in_f {x : Int32} {m : Nat} (hm : m < 2 ^ 31) (hx : ∀ k, k ≤ m → x ≠ nI k) (f : mmF) : f_X10_in x 0 (nI m) f = some 0 := by
  unfold f_X10_in
  by_cases h0 : x < 0
  · rw [if_pos h0]
  · rw [if_neg h0]
    obtain ⟨j, hj, rfl⟩ := nI_of h0
    have : m < j := Nat.not_le.mp fun h => hx j h rfl
    rw [if_pos (nI_lt this hj)]
section METH2
variable {b : Nat} {f : mmF} {Ω : mO}
theorem t_lead (w : WO Ω) (x y : Int32) : Meth b f Ω (fun μ => f_X9_lead b x y μ) (fun μ => f_X10_lead (b + 83) x y μ) := by
  obtain ⟨⟨wf, wsh⟩, wr4, wrest⟩ := id w
  have hb1 : isSt b (b + 1) := Or.inl rfl
  have n1 := wf.1
  have n8' := wf.2.1
  by_cases hx : ∃ k, k < Ω.1.1 ∧ x = nI k
  · obtain ⟨k, hk, rfl⟩ := hx
    by_cases hy : ∃ j, j < Ω.1.1 ∧ y = nI j
    · obtain ⟨j, hj, rfl⟩ := hy
      by_cases hle : j ≤ k
      · have hn : ¬ nI k < nI j := nI_nlt hle (by omega)
        refine ⟨-2, Ω, w, fun ia fi fl qa h => ?_, fun ia fi fl qa h => ?_⟩
        · show CRes b f ia fi (f_X9_lead b (nI k) (nI j) _) _ _
          unfold f_X9_lead
          simp only [R_0_0, S_ck hb1, isStage_t hb1 h.1.1.1 hk (by omega), isStage_t hb1 h.1.1.1 hj (by omega), Option.bind_some, i10, if_false, if_neg hn]
          exact CRes.same h
        · show MRes b f ia fi qa (f_X10_lead (b + 83) (nI k) (nI j) _) _ _
          unfold f_X10_lead
          simp only [ck_83, m_noS_t h.1.1.1 hk (by omega), m_noS_t h.1.1.1 hj (by omega), Option.bind_some, i00, if_true, if_neg hn]
          exact MRes.same h
      · have hlt : nI k < nI j := nI_lt (by omega) (by omega)
        by_cases hb : (Ω.1.2.1 k).testBit j = true
        · refine ⟨-5, Ω, w, fun ia fi fl qa h => ?_, fun ia fi fl qa h => ?_⟩
          · show CRes b f ia fi (f_X9_lead b (nI k) (nI j) _) _ _
            have e : ¬ ((nI (Ω.1.2.1 k) >>> (nI j &&& 31)) &&& 1) = (0 : Int32) := fun e => by
              rw [bt_0 (Nat.lt_of_lt_of_le (wf.L31 hk) (by decide)) (by omega), hb] at e
              cases e
            unfold f_X9_lead
            simp only [R_0_0, S_ck hb1, isStage_t hb1 h.1.1.1 hk (by omega), isStage_t hb1 h.1.1.1 hj (by omega), Option.bind_some, i10, if_false, if_pos hlt, S_R1 hb1, S_A hb1 (Or.inl rfl) (show k < 8 by omega), has_eq, (h.1.1.2 k hk).1, if_neg e]
            exact CRes.same h
          · show MRes b f ia fi qa (f_X10_lead (b + 83) (nI k) (nI j) _) _ _
            unfold f_X10_lead
            simp only [ck_83, m_noS_t h.1.1.1 hk (by omega), m_noS_t h.1.1.1 hj (by omega), Option.bind_some, i00, if_true, if_pos hlt, m_leads h.1.1 wf hk (show j < 32 by omega), hb, i10, if_false]
            exact MRes.same h
        · have hb' : (Ω.1.2.1 k).testBit j = false := by cases hq : (Ω.1.2.1 k).testBit j with
            | true => exact absurd hq hb
            | false => rfl
          have wn : WF Ω.1.1 (cL Ω.1.1 k j Ω.1.2.1) (tF (Ω.1.2.1 j) (Ω.1.2.2.1 k) Ω.1.2.2.1) := (wf.connect hj).teach' (wf.teach (wf.2.2 k hk).2)
          refine ⟨nI (sumN (fun i => bcN (cL Ω.1.1 k j Ω.1.2.1 i) 8) Ω.1.1) - nI (sumN (fun i => bcN (Ω.1.2.1 i) 8) Ω.1.1), setS (recO Ω) Ω.1.1 (cL Ω.1.1 k j Ω.1.2.1) (tF (Ω.1.2.1 j) (Ω.1.2.2.1 k) Ω.1.2.2.1), w.rec.setS wn, fun ia fi fl qa h => ?_, fun ia fi fl qa h => ?_⟩
          · show CRes b f ia fi (f_X9_lead b (nI k) (nI j) _) _ _
            obtain ⟨ia1, fi1, qa1, er, hr, hh⟩ := C_rec (fl := fl) h w
            have hc1 : CS ia1 fi1 (b + 1) Ω.1.1 Ω.1.2.1 Ω.1.2.2.1 := hr.1.1
            have hcn := hc1.connect wf hk hj
            have e : ((nI (Ω.1.2.1 k) >>> (nI j &&& 31)) &&& 1) = (0 : Int32) := (bt_0 (Nat.lt_of_lt_of_le (wf.L31 hk) (by decide)) (by omega)).mpr hb'
            unfold f_X9_lead
            simp only [R_0_0, S_ck hb1, isStage_t hb1 h.1.1.1 hk (by omega), isStage_t hb1 h.1.1.1 hj (by omega), Option.bind_some, i10, if_false, if_pos hlt, S_R1 hb1, S_A hb1 (Or.inl rfl) (show k < 8 by omega), has_eq, (h.1.1.2 k hk).1, if_pos e, i00, if_true, ck_0, er, c_pairs hb1 hc1 wf, connect hb1 hc1.1 n8' hk hj, c_pairs hb1 hcn wn]
            have hS := hr.setS hcn (fun a ha => by rw [rw2_n _ _ (by omega), rw2_n _ _ (by omega)]) (fun a j ha => rfl)
            exact ⟨_, _, _, _, rfl, hS.1, hh.tr hS.2⟩
          · show MRes b f ia fi qa (f_X10_lead (b + 83) (nI k) (nI j) _) _ _
            obtain ⟨ia1, fi1, er, hr, hl⟩ := M_rec (fl := fl) (qa := qa) (f := f) h w
            have hm1 : MS (ia1 (b + 84)) Ω.1.1 Ω.1.2.1 Ω.1.2.2.1 := hr.1.1
            have hm2 := hm1.lead wf hk hj
            obtain ⟨q, hq⟩ := FU_1000
            unfold f_X10_lead
            simp only [ck_83, m_noS_t h.1.1.1 hk (by omega), m_noS_t h.1.1.1 hj (by omega), Option.bind_some, i00, if_true, if_pos hlt, m_leads h.1.1 wf hk (show j < 32 by omega), hb', Bool.false_eq_true, if_false, er, m_pairs hm1 wf, R_83_0, n0, An_84 (show j < 172 by omega), m_leadingTo hm1 wf (show k < 32 by omega)]
            have ho : (f_X10_pairs (b + 83) (wr (SK b) (rw2 ia1 (b + 84) (ldR2 (ia1 (b + 84)) (nI (colN Ω.1.2.1 k Ω.1.1)) k j Ω.1.1)) fi1 fl qa f)).bind (fun q => some (q - (nI (sumN (fun i => bcN (Ω.1.2.1 i) 8) Ω.1.1) - nI Ω.1.1), wr (SK b) (rw2 ia1 (b + 84) (ldR2 (ia1 (b + 84)) (nI (colN Ω.1.2.1 k Ω.1.1)) k j Ω.1.1)) fi1 fl qa f)) = some (nI (sumN (fun i => bcN (cL Ω.1.1 k j Ω.1.2.1 i) 8) Ω.1.1) - nI (sumN (fun i => bcN (Ω.1.2.1 i) 8) Ω.1.1), wr (SK b) (rw2 ia1 (b + 84) (ldR2 (ia1 (b + 84)) (nI (colN Ω.1.2.1 k Ω.1.1)) k j Ω.1.1)) fi1 fl qa f) := by
              rw [m_pairs (by rw [rw2_s]; exact hm2) wn, Option.bind_some, dif_c]
            have e := m_lead_67 (b := b) (ia := ia1) (fi := fi1) (fl := fl) (qa := qa) (f := f) (R := ia1 (b + 84)) hk hj n8' hm1.1 ho Ω.1.1 0 FU (by omega) (by omega)
            rw [ldR2_0, rw2_id] at e
            rw [show (0 : Int32) = nI 0 from rfl, e]
            have hS := hr.setS hm2 (fun j hj => ldR2_hi _ _ _ _ n8' hj)
            exact ⟨_, _, _, rfl, hS.1, hl.tr hS.2⟩
    · have hy2 : ∀ k, k < Ω.1.1 → y ≠ nI k := fun k hk e => hy ⟨k, hk, e⟩
      refine ⟨-1, Ω, w, fun ia fi fl qa h => ?_, fun ia fi fl qa h => ?_⟩
      · show CRes b f ia fi (f_X9_lead b (nI k) y _) _ _
        unfold f_X9_lead
        simp only [R_0_0, S_ck hb1, isStage_t hb1 h.1.1.1 hk (by omega), isStage_f hb1 h.1.1.1 (by omega) hy2, Option.bind_some, i10, if_false, i00, if_true]
        exact CRes.same h
      · show MRes b f ia fi qa (f_X10_lead (b + 83) (nI k) y _) _ _
        unfold f_X10_lead
        simp only [ck_83, m_noS_t h.1.1.1 hk (by omega), m_noS_f h.1.1.1 n1 (by omega) hy2, Option.bind_some, i00, if_true, i10, if_false]
        exact MRes.same h
  · have hx2 : ∀ k, k < Ω.1.1 → x ≠ nI k := fun k hk e => hx ⟨k, hk, e⟩
    refine ⟨-1, Ω, w, fun ia fi fl qa h => ?_, fun ia fi fl qa h => ?_⟩
    · show CRes b f ia fi (f_X9_lead b x y _) _ _
      unfold f_X9_lead
      simp only [R_0_0, S_ck hb1, isStage_f hb1 h.1.1.1 (by omega) hx2, Option.bind_some, i00, if_true]
      exact CRes.same h
    · show MRes b f ia fi qa (f_X10_lead (b + 83) x y _) _ _
      unfold f_X10_lead
      simp only [ck_83, m_noS_f h.1.1.1 n1 (by omega) hx2, Option.bind_some, i10, if_false]
      exact MRes.same h
theorem t_learn (w : WO Ω) (x y : Int32) : Meth b f Ω (fun μ => f_X9_learn b x y μ) (fun μ => f_X10_learn (b + 83) x y μ) := by
  obtain ⟨⟨wf, wsh⟩, wr4, wrest⟩ := id w
  have hb1 : isSt b (b + 1) := Or.inl rfl
  have n1 := wf.1
  have n8' := wf.2.1
  have h3 : (3 : Int32) = nI 3 := rfl
  by_cases hx : ∃ k, k < Ω.1.1 ∧ x = nI k
  · obtain ⟨k, hk, rfl⟩ := hx
    by_cases hy : ∃ j, j < 4 ∧ y = nI j
    · obtain ⟨j, hj, rfl⟩ := hy
      have hF : Ω.1.2.2.1 k < 2 ^ 31 := Nat.lt_trans (wf.2.2 k hk).2 (by decide)
      by_cases hb : (Ω.1.2.2.1 k).testBit j = true
      · refine ⟨-5, Ω, w, fun ia fi fl qa h => ?_, fun ia fi fl qa h => ?_⟩
        · show CRes b f ia fi (f_X9_learn b (nI k) (nI j) _) _ _
          have e : ¬ ((nI (Ω.1.2.2.1 k) >>> (nI j &&& 31)) &&& 1) = (0 : Int32) := fun e => by
            rw [bt_0 hF (by omega), hb] at e
            cases e
          unfold f_X9_learn
          simp only [R_0_0, S_ck hb1, isStage_t hb1 h.1.1.1 hk (by omega), fact_t hj, Option.bind_some, i10, if_false, S_R2 hb1, S_A hb1 (Or.inr (Or.inl rfl)) (show k < 8 by omega), has_eq, (h.1.1.2 k hk).2, if_neg e]
          exact CRes.same h
        · show MRes b f ia fi qa (f_X10_learn (b + 83) (nI k) (nI j) _) _ _
          have e : ((nI (Ω.1.2.2.1 k) >>> (nI j &&& 31)) &&& 1) = (1 : Int32) := (bt_1 hF (by omega)).mpr hb
          unfold f_X10_learn
          simp only [ck_83, m_noS_t h.1.1.1 hk (by omega), Option.bind_some, i00, if_true, h3, in_t (show j ≤ 3 by omega) (by decide), i10, if_false, R_83_0, n8, An_84 (show 8 + k < 172 by omega), (h.1.1.2 k hk).2, if_pos e]
          exact MRes.same h
      · have hb' : (Ω.1.2.2.1 k).testBit j = false := by cases hq : (Ω.1.2.2.1 k).testBit j with
          | true => exact absurd hq hb
          | false => rfl
        have h2j : 2 ^ j < 16 := Nat.lt_of_le_of_lt (Nat.pow_le_pow_right (n := 2) (by decide) (show j ≤ 3 by omega)) (by decide)
        have wn : WF Ω.1.1 Ω.1.2.1 (tF (Ω.1.2.1 k) (2 ^ j) Ω.1.2.2.1) := wf.teach h2j
        refine ⟨nI (colN (tF (Ω.1.2.1 k) (2 ^ j) Ω.1.2.2.1) j Ω.1.1), setS (recO Ω) Ω.1.1 Ω.1.2.1 (tF (Ω.1.2.1 k) (2 ^ j) Ω.1.2.2.1), w.rec.setS wn, fun ia fi fl qa h => ?_, fun ia fi fl qa h => ?_⟩
        · show CRes b f ia fi (f_X9_learn b (nI k) (nI j) _) _ _
          obtain ⟨ia1, fi1, qa1, er, hr, hh⟩ := C_rec (fl := fl) h w
          have hc1 : CS ia1 fi1 (b + 1) Ω.1.1 Ω.1.2.1 Ω.1.2.2.1 := hr.1.1
          have hcn := hc1.teach wf (kn := 2 ^ j) (wf.L31 hk)
          have e : ((nI (Ω.1.2.2.1 k) >>> (nI j &&& 31)) &&& 1) = (0 : Int32) := (bt_0 hF (by omega)).mpr hb'
          unfold f_X9_learn
          simp only [R_0_0, S_ck hb1, isStage_t hb1 h.1.1.1 hk (by omega), fact_t hj, Option.bind_some, i10, if_false, S_R2 hb1, S_R1 hb1, S_A hb1 (Or.inr (Or.inl rfl)) (show k < 8 by omega), has_eq, (h.1.1.2 k hk).2, if_pos e, i00, if_true, ck_0, er, S_A hb1 (Or.inl rfl) (show k < 8 by omega), (hc1.2 k hk).1, bt_shl (show j < 32 by omega), teach hb1 hc1.1 n8', c_knowing hb1 hcn wn (show j < 32 by omega)]
          have hS := hr.setS hcn (fun a ha => by rw [rw2_n _ _ (by omega)]) (fun a j ha => rfl)
          exact ⟨_, _, _, _, rfl, hS.1, hh.tr hS.2⟩
        · show MRes b f ia fi qa (f_X10_learn (b + 83) (nI k) (nI j) _) _ _
          obtain ⟨ia1, fi1, er, hr, hl⟩ := M_rec (fl := fl) (qa := qa) (f := f) h w
          have hm1 : MS (ia1 (b + 84)) Ω.1.1 Ω.1.2.1 Ω.1.2.2.1 := hr.1.1
          have hm2 := hm1.learn wf hk hj
          obtain ⟨q, hq⟩ := FU_1000
          have e : ¬ ((nI (Ω.1.2.2.1 k) >>> (nI j &&& 31)) &&& 1) = (1 : Int32) := fun e => by
            rw [bt_1 hF (by omega), hb'] at e
            cases e
          unfold f_X10_learn
          simp only [ck_83, m_noS_t h.1.1.1 hk (by omega), Option.bind_some, i00, if_true, h3, in_t (show j ≤ 3 by omega) (by decide), i10, if_false, R_83_0, n8, An_84 (show 8 + k < 172 by omega), (h.1.1.2 k hk).2, if_neg e, er]
          have e2 := m_learn_45 (b := b) (ia := ia1) (fi := fi1) (fl := fl) (qa := qa) (f := f) (R := ia1 (b + 84)) (k := k) (v := j) hk n8' hm1.1 (by rw [m_knownAt (by rw [rw2_s]; exact hm2) wn (show j < 32 by omega), Option.bind_some]) Ω.1.1 0 FU (by omega) (by omega)
          rw [up8_0, rw2_id] at e2
          rw [show (0 : Int32) = nI 0 from rfl, e2]
          have hS := hr.setS hm2 (fun j hj => up8_at _ _ (by omega))
          exact ⟨_, _, _, rfl, hS.1, hl.tr hS.2⟩
    · have hy2 : ∀ k, k < 4 → y ≠ nI k := fun k hk e => hy ⟨k, hk, e⟩
      refine ⟨-1, Ω, w, fun ia fi fl qa h => ?_, fun ia fi fl qa h => ?_⟩
      · show CRes b f ia fi (f_X9_learn b (nI k) y _) _ _
        unfold f_X9_learn
        simp only [R_0_0, S_ck hb1, isStage_t hb1 h.1.1.1 hk (by omega), fact_f hy2, Option.bind_some, i10, if_false, i00, if_true]
        exact CRes.same h
      · show MRes b f ia fi qa (f_X10_learn (b + 83) (nI k) y _) _ _
        unfold f_X10_learn
        simp only [ck_83, m_noS_t h.1.1.1 hk (by omega), h3, in_f (m := 3) (by decide) (fun k hk => hy2 k (by omega)), Option.bind_some, i00, if_true]
        exact MRes.same h
  · have hx2 : ∀ k, k < Ω.1.1 → x ≠ nI k := fun k hk e => hx ⟨k, hk, e⟩
    refine ⟨-1, Ω, w, fun ia fi fl qa h => ?_, fun ia fi fl qa h => ?_⟩
    · show CRes b f ia fi (f_X9_learn b x y _) _ _
      unfold f_X9_learn
      simp only [R_0_0, S_ck hb1, isStage_f hb1 h.1.1.1 (by omega) hx2, Option.bind_some, i00, if_true]
      exact CRes.same h
    · show MRes b f ia fi qa (f_X10_learn (b + 83) x y _) _ _
      unfold f_X10_learn
      simp only [ck_83, m_noS_f h.1.1.1 n1 (by omega) hx2, Option.bind_some, i10, if_false]
      exact MRes.same h
theorem t_forget (w : WO Ω) (x y : Int32) : Meth b f Ω (fun μ => f_X9_forget b x y μ) (fun μ => f_X10_forget (b + 83) x y μ) := by
  obtain ⟨⟨wf, wsh⟩, wr4, wrest⟩ := id w
  have hb1 : isSt b (b + 1) := Or.inl rfl
  have n1 := wf.1
  have n8' := wf.2.1
  have h3 : (3 : Int32) = nI 3 := rfl
  by_cases hx : ∃ k, k < Ω.1.1 ∧ x = nI k
  · obtain ⟨k, hk, rfl⟩ := hx
    by_cases hy : ∃ j, j < 4 ∧ y = nI j
    · obtain ⟨j, hj, rfl⟩ := hy
      have hF : Ω.1.2.2.1 k < 2 ^ 31 := Nat.lt_trans (wf.2.2 k hk).2 (by decide)
      by_cases hb : (Ω.1.2.2.1 k).testBit j = false
      · refine ⟨-5, Ω, w, fun ia fi fl qa h => ?_, fun ia fi fl qa h => ?_⟩
        · show CRes b f ia fi (f_X9_forget b (nI k) (nI j) _) _ _
          have e : ((nI (Ω.1.2.2.1 k) >>> (nI j &&& 31)) &&& 1) = (0 : Int32) := (bt_0 hF (by omega)).mpr hb
          unfold f_X9_forget
          simp only [R_0_0, S_ck hb1, isStage_t hb1 h.1.1.1 hk (by omega), fact_t hj, Option.bind_some, i10, if_false, S_R2 hb1, S_A hb1 (Or.inr (Or.inl rfl)) (show k < 8 by omega), has_eq, (h.1.1.2 k hk).2, if_pos e, i00, if_true]
          exact CRes.same h
        · show MRes b f ia fi qa (f_X10_forget (b + 83) (nI k) (nI j) _) _ _
          have e : ((nI (Ω.1.2.2.1 k) >>> (nI j &&& 31)) &&& 1) = (0 : Int32) := (bt_0 hF (by omega)).mpr hb
          unfold f_X10_forget
          simp only [ck_83, m_noS_t h.1.1.1 hk (by omega), Option.bind_some, i00, if_true, h3, in_t (show j ≤ 3 by omega) (by decide), i10, if_false, R_83_0, n8, An_84 (show 8 + k < 172 by omega), (h.1.1.2 k hk).2, if_pos e]
          exact MRes.same h
      · have hL : colN Ω.1.2.1 k Ω.1.1 < 256 := Nat.lt_of_lt_of_le (colN_lt _ _ _) (p8 n8')
        have wn : WF Ω.1.1 Ω.1.2.1 (uF (colN Ω.1.2.1 k Ω.1.1) j Ω.1.2.2.1) := wf.unteach hj
        refine ⟨nI (colN (uF (colN Ω.1.2.1 k Ω.1.1) j Ω.1.2.2.1) j Ω.1.1), setS (recO Ω) Ω.1.1 Ω.1.2.1 (uF (colN Ω.1.2.1 k Ω.1.1) j Ω.1.2.2.1), w.rec.setS wn, fun ia fi fl qa h => ?_, fun ia fi fl qa h => ?_⟩
        · show CRes b f ia fi (f_X9_forget b (nI k) (nI j) _) _ _
          obtain ⟨ia1, fi1, qa1, er, hr, hh⟩ := C_rec (fl := fl) h w
          have hc1 : CS ia1 fi1 (b + 1) Ω.1.1 Ω.1.2.1 Ω.1.2.2.1 := hr.1.1
          have hcn := hc1.unteach wf (k := j) hL hj
          have e : ¬ ((nI (Ω.1.2.2.1 k) >>> (nI j &&& 31)) &&& 1) = (0 : Int32) := fun e => hb ((bt_0 hF (by omega)).mp e)
          unfold f_X9_forget
          simp only [R_0_0, S_ck hb1, isStage_t hb1 h.1.1.1 hk (by omega), fact_t hj, Option.bind_some, i10, if_false, S_R2 hb1, S_A hb1 (Or.inr (Or.inl rfl)) (show k < 8 by omega), has_eq, (h.1.1.2 k hk).2, if_neg e, ck_0, er, c_earlier hb1 hc1 wf (show k < 32 by omega), unteach hb1 hc1.1 n8', c_knowing hb1 hcn wn (show j < 32 by omega)]
          have hS := hr.setS hcn (fun a ha => by rw [rw2_n _ _ (by omega)]) (fun a j ha => rfl)
          exact ⟨_, _, _, _, rfl, hS.1, hh.tr hS.2⟩
        · show MRes b f ia fi qa (f_X10_forget (b + 83) (nI k) (nI j) _) _ _
          obtain ⟨ia1, fi1, er, hr, hl⟩ := M_rec (fl := fl) (qa := qa) (f := f) h w
          have hm1 : MS (ia1 (b + 84)) Ω.1.1 Ω.1.2.1 Ω.1.2.2.1 := hr.1.1
          have hm2 := hm1.forget wf hk hj
          obtain ⟨q, hq⟩ := FU_1000
          have e : ¬ ((nI (Ω.1.2.2.1 k) >>> (nI j &&& 31)) &&& 1) = (0 : Int32) := fun e => hb ((bt_0 hF (by omega)).mp e)
          unfold f_X10_forget
          simp only [ck_83, m_noS_t h.1.1.1 hk (by omega), Option.bind_some, i00, if_true, h3, in_t (show j ≤ 3 by omega) (by decide), i10, if_false, R_83_0, n8, An_84 (show 8 + k < 172 by omega), (h.1.1.2 k hk).2, if_neg e, er]
          have e2 := m_forget_44 (b := b) (ia := ia1) (fi := fi1) (fl := fl) (qa := qa) (f := f) (R := ia1 (b + 84)) (k := k) (v := j) hk n8' hm1.1 (by rw [m_knownAt (by rw [rw2_s]; exact hm2) wn (show j < 32 by omega), Option.bind_some]) Ω.1.1 0 FU (by omega) (by omega)
          rw [up8_0, rw2_id] at e2
          rw [show (0 : Int32) = nI 0 from rfl, e2]
          have hS := hr.setS hm2 (fun j hj => up8_at _ _ (by omega))
          exact ⟨_, _, _, rfl, hS.1, hl.tr hS.2⟩
    · have hy2 : ∀ k, k < 4 → y ≠ nI k := fun k hk e => hy ⟨k, hk, e⟩
      refine ⟨-1, Ω, w, fun ia fi fl qa h => ?_, fun ia fi fl qa h => ?_⟩
      · show CRes b f ia fi (f_X9_forget b (nI k) y _) _ _
        unfold f_X9_forget
        simp only [R_0_0, S_ck hb1, isStage_t hb1 h.1.1.1 hk (by omega), fact_f hy2, Option.bind_some, i10, if_false, i00, if_true]
        exact CRes.same h
      · show MRes b f ia fi qa (f_X10_forget (b + 83) (nI k) y _) _ _
        unfold f_X10_forget
        simp only [ck_83, m_noS_t h.1.1.1 hk (by omega), h3, in_f (m := 3) (by decide) (fun k hk => hy2 k (by omega)), Option.bind_some, i00, if_true]
        exact MRes.same h
  · have hx2 : ∀ k, k < Ω.1.1 → x ≠ nI k := fun k hk e => hx ⟨k, hk, e⟩
    refine ⟨-1, Ω, w, fun ia fi fl qa h => ?_, fun ia fi fl qa h => ?_⟩
    · show CRes b f ia fi (f_X9_forget b x y _) _ _
      unfold f_X9_forget
      simp only [R_0_0, S_ck hb1, isStage_f hb1 h.1.1.1 (by omega) hx2, Option.bind_some, i00, if_true]
      exact CRes.same h
    · show MRes b f ia fi qa (f_X10_forget (b + 83) x y _) _ _
      unfold f_X10_forget
      simp only [ck_83, m_noS_f h.1.1.1 n1 (by omega) hx2, Option.bind_some, i10, if_false]
      exact MRes.same h
theorem t_removeStage (w : WO Ω) (x : Int32) : Meth b f Ω (fun μ => f_X9_removeStage b x μ) (fun μ => f_X10_removeStage (b + 83) x μ) := by
  obtain ⟨⟨wf, wsh⟩, wr4, wrest⟩ := id w
  have hb1 : isSt b (b + 1) := Or.inl rfl
  have n1 := wf.1
  have n8' := wf.2.1
  by_cases hx : ∃ k, k < Ω.1.1 ∧ x = nI k
  · obtain ⟨k, hk, rfl⟩ := hx
    by_cases h1 : Ω.1.1 = 1
    · refine ⟨-4, Ω, w, fun ia fi fl qa h => ?_, fun ia fi fl qa h => ?_⟩
      · show CRes b f ia fi (f_X9_removeStage b (nI k) _) _ _
        unfold f_X9_removeStage
        simp only [R_0_0, S_ck hb1, isStage_t hb1 h.1.1.1 hk (by omega), Option.bind_some, i10, if_false, S_I hb1, h.1.1.1, h1]
        rw [if_neg (by decide)]
        exact CRes.same h
      · show MRes b f ia fi qa (f_X10_removeStage (b + 83) (nI k) _) _ _
        unfold f_X10_removeStage
        simp only [ck_83, m_noS_t h.1.1.1 hk (by omega), Option.bind_some, i00, if_true, R_83_0, A16, h.1.1.1, h1]
        rw [if_pos (by decide)]
        exact MRes.same h
    · obtain ⟨n, hn⟩ : ∃ n, Ω.1.1 = n + 1 := ⟨Ω.1.1 - 1, by omega⟩
      have wf' := wf
      rw [hn] at wf'
      have wn : WF n (rL k Ω.1.2.1) (rF k Ω.1.2.2.1) := wf'.takeOut (by omega) (by omega)
      refine ⟨nI n, setS (recO Ω) n (rL k Ω.1.2.1) (rF k Ω.1.2.2.1), w.rec.setS wn, fun ia fi fl qa h => ?_, fun ia fi fl qa h => ?_⟩
      · show CRes b f ia fi (f_X9_removeStage b (nI k) _) _ _
        obtain ⟨ia1, fi1, qa1, er, hr, hh⟩ := C_rec (fl := fl) h w
        have hc1 : CS ia1 fi1 (b + 1) Ω.1.1 Ω.1.2.1 Ω.1.2.2.1 := hr.1.1
        rw [hn] at hc1
        have hcn := hc1.takeOut wf' (show k ≤ n by omega)
        have e : (1 : Int32) < nI Ω.1.1 := nI_lt (a := 1) (by omega) (by omega)
        unfold f_X9_removeStage
        simp only [R_0_0, S_ck hb1, isStage_t hb1 h.1.1.1 hk (by omega), Option.bind_some, i10, if_false, S_I hb1, h.1.1.1, if_pos e, ck_0, er, takeOut hb1 hc1.1 (show n < 8 by omega) (show k ≤ n by omega), u2_s]
        have hS := hr.setS hcn (fun a ha => by rw [rw2_n _ _ (by omega), rw2_n _ _ (by omega)]) (fun a j ha => by
          rcases ha with ha | ha
          · rw [u2_a _ _ ha]
          · rw [u2_i _ _ ha])
        exact ⟨_, _, _, _, rfl, hS.1, hh.tr hS.2⟩
      · show MRes b f ia fi qa (f_X10_removeStage (b + 83) (nI k) _) _ _
        obtain ⟨ia1, fi1, er, hr, hl⟩ := M_rec (fl := fl) (qa := qa) (f := f) h w
        have hm1 : MS (ia1 (b + 84)) Ω.1.1 Ω.1.2.1 Ω.1.2.2.1 := hr.1.1
        rw [hn] at hm1
        have hm2 := hm1.removes wf' (show k ≤ n by omega)
        have e : ¬ nI Ω.1.1 = (1 : Int32) := fun e => h1 ((nI_eq (a := Ω.1.1) (b := 1) (by omega) (by decide)).mp e)
        have er2 := m_removes (b := b) (ia := ia1) (fi := fi1) (fl := fl) (qa := qa) (f := f) (R := ia1 (b + 84)) (show n < 8 by omega) (show k ≤ n by omega) hm1.1
        rw [rw2_id] at er2
        unfold f_X10_removeStage
        simp only [ck_83, m_noS_t h.1.1.1 hk (by omega), Option.bind_some, i00, if_true, R_83_0, A16, h.1.1.1, if_neg e, er, er2, rw2_s, hm2.1]
        have hS := hr.setS hm2 (fun j hj => reE_hi (by omega) hj)
        exact ⟨_, _, _, rfl, hS.1, hl.tr hS.2⟩
  · have hx2 : ∀ k, k < Ω.1.1 → x ≠ nI k := fun k hk e => hx ⟨k, hk, e⟩
    refine ⟨-1, Ω, w, fun ia fi fl qa h => ?_, fun ia fi fl qa h => ?_⟩
    · show CRes b f ia fi (f_X9_removeStage b x _) _ _
      unfold f_X9_removeStage
      simp only [R_0_0, S_ck hb1, isStage_f hb1 h.1.1.1 (by omega) hx2, Option.bind_some, i00, if_true]
      exact CRes.same h
    · show MRes b f ia fi qa (f_X10_removeStage (b + 83) x _) _ _
      unfold f_X10_removeStage
      simp only [ck_83, m_noS_f h.1.1.1 n1 (by omega) hx2, Option.bind_some, i10, if_false]
      exact MRes.same h
end METH2
