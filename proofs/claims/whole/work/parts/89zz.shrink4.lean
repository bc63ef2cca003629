/-! SHRINK, DONE -/
section METH8
variable {b : Nat} {f : mmF} {Ω : mO}
theorem MS.cg {R : Nat → Int32} {n : Nat} {L L1 F : Nat → Nat} (h : MS R n L1 F) (e : ∀ j, j < n → L j = L1 j) : MS R n L F := ⟨h.1, fun i hi => by rw [e i hi]; exact h.2 i hi⟩
theorem lo_ex (w : WO Ω) : ∃ lo : Nat → Nat, (∀ v, lo v ≤ v) ∧ ∀ v, v < Ω.1.1 → isLow (Al Ω.1.1 Ω.1.2.1 Ω.1.2.2.1) v (lo v) := by
  have hl : ∀ v, ∃ l, l ≤ v ∧ (v < Ω.1.1 → isLow (Al Ω.1.1 Ω.1.2.1 Ω.1.2.2.1) v l) := fun v => by
    by_cases hv : v < Ω.1.1
    · obtain ⟨l, hl⟩ := low_of w hv
      exact ⟨l, Nat.not_lt.mp (fun hlt => hl.2 v hlt (Al.rf (fun i hi => (w.1.1.2.2 i hi).1) hv)), fun _ => hl⟩
    · exact ⟨v, Nat.le_refl _, fun h => absurd h hv⟩
  exact ⟨fun v => Classical.choose (hl v), fun v => (Classical.choose_spec (hl v)).1, fun v hv => (Classical.choose_spec (hl v)).2 hv⟩
theorem t_shrink (w : WO Ω) : Meth b f Ω (fun μ => f_X9_shrink b μ) (fun μ => f_X10_shrink (b + 83) μ) := by
  have wf := w.1.1
  have hb1 : isSt b (b + 1) := Or.inl rfl
  have n1 := wf.1
  have n8' := wf.2.1
  obtain ⟨q0, hq0⟩ := FU_1000
  obtain ⟨lo, hlo, hl⟩ := lo_ex w
  have alr : ∀ v, v < Ω.1.1 → Al Ω.1.1 Ω.1.2.1 Ω.1.2.2.1 v v := fun v hv => Al.rf (fun i hi => (wf.2.2 i hi).1) hv
  have hrep : ∀ v, v < Ω.1.1 → (lo v = v ↔ rep (Al Ω.1.1 Ω.1.2.1 Ω.1.2.2.1) v) := fun v hv => low_rep (alP w).1 (hl v hv) (alr v hv)
  have hsum := gn_sum hrep Ω.1.1 (Nat.le_refl _)
  have hgl := gnN_lt lo Ω.1.1
  have hg31 : gnN lo Ω.1.1 < 2 ^ 31 := Nat.lt_of_lt_of_le hgl (Nat.pow_le_pow_right (by decide) (by omega))
  have hb16 : bcN (gnN lo Ω.1.1) 16 = bcN (gnN lo Ω.1.1) Ω.1.1 := by
    have := bcN_more hgl (16 - Ω.1.1)
    rw [show Ω.1.1 + (16 - Ω.1.1) = 16 by omega] at this
    exact this
  have hcn := cnP_le (rep (Al Ω.1.1 Ω.1.2.1 Ω.1.2.2.1)) Ω.1.1
  have hsub : nI Ω.1.1 - nI (cnP (rep (Al Ω.1.1 Ω.1.2.1 Ω.1.2.2.1)) Ω.1.1) = nI (bcN (gnN lo Ω.1.1) 16) := by
    rw [hb16, pk_sub hcn]
    congr 1
    omega
  have hgz : gnN lo Ω.1.1 = 0 ↔ bcN (gnN lo Ω.1.1) 16 = 0 := by
    rw [hb16]
    constructor
    · intro e
      have : ∀ k, bcN 0 k = 0 := by
        intro k
        induction k with
        | zero => rfl
        | succ k ih =>
          show bcN 0 k + (if (0 : Nat).testBit k then 1 else 0) = 0
          rw [ih, Nat.zero_testBit]
          rfl
      rw [e]; exact this _
    · intro e
      refine Nat.eq_of_testBit_eq fun v => ?_
      rw [Nat.zero_testBit]
      cases hb : (gnN lo Ω.1.1).testBit v with
      | false => rfl
      | true =>
        exfalso
        have hv := (gnN_bit lo v Ω.1.1).mp hb
        have hP : ¬ rep (Al Ω.1.1 Ω.1.2.1 Ω.1.2.2.1) v := fun hp => hv.2 ((hrep v hv.1).mpr hp)
        have := cnP_lt (P := rep (Al Ω.1.1 Ω.1.2.1 Ω.1.2.2.1)) (Q := fun _ => True) Ω.1.1 (fun _ _ _ => trivial) v hv.1 hP trivial
        have h2 := cnP_le (fun _ => True) Ω.1.1
        omega
  -- what both sides read
  have hC : ∀ {ia fi : Nat → Nat → Int32} {fl : Nat → Nat → Int64} {qa : Nat → Nat → Option Nat}, CR b ia fi qa f Ω → ∃ ia1 : Nat → Nat → Int32, f_X7_findLikes (b + 1) (wr (SK b) ia fi fl qa f) = some (wr (SK b) ia1 fi fl qa f) ∧ CR b ia1 fi qa f Ω ∧ highE b ia fi ia1 fi ∧ (∀ v, v < Ω.1.1 → ia1 (b + 1 + 4) v = nI (lo v)) ∧ f_X7_unlike (b + 1) (wr (SK b) ia1 fi fl qa f) = some (nI (cnP (rep (Al Ω.1.1 Ω.1.2.1 Ω.1.2.2.1)) Ω.1.1)) ∧ ∃ r : Int32, f_X7_mergeLeadsBack (b + 1) (wr (SK b) ia1 fi fl qa f) = some r ∧ ((r = 1 ∧ ∃ j, j < Ω.1.1 ∧ bk Ω.1.2.1 lo j) ∨ (r = 0 ∧ ∀ j, j < Ω.1.1 → ¬ bk Ω.1.2.1 lo j)) := by
    intro ia fi fl qa h
    obtain ⟨ia1, lk, e, h1, hh, h2⟩ := C_like (fl := fl) h w
    have hk : ∀ v, v < Ω.1.1 → ia1 (b + 1 + 4) v = nI (lo v) := fun v hv => by
      rw [low_un w (hl v hv) (h2 v hv).2.2]
      exact (h2 v hv).1
    have eL := c_unlike_4 (fl := fl) (qa := qa) (f := f) (n := Ω.1.1) (ia := ia1) (fi := fi) hb1 h1.1.1.1 n8' (fun v hv => ⟨(h2 v hv).1, (h2 v hv).2.1, low_rep (alP w).1 (h2 v hv).2.2 (alr v hv)⟩) Ω.1.1 0 FU (by omega) (by omega)
    obtain ⟨r, hr, hr2⟩ := c_back_2 (fl := fl) (qa := qa) (f := f) hb1 h1.1.1 wf hlo hk Ω.1.1 0 FU (by omega) (by omega) (fun j hj => absurd hj (by omega))
    exact ⟨ia1, e, h1, hh, hk, eL, r, hr, hr2⟩
  have hM : ∀ {ia fi : Nat → Nat → Int32} {fl : Nat → Nat → Int64} {qa : Nat → Nat → Option Nat}, MR b ia fi Ω → ∃ ia1 : Nat → Nat → Int32, MR b ia1 fi Ω ∧ lowE b ia fi ia1 fi ∧ ((∃ u, u < Ω.1.1 ∧ bk Ω.1.2.1 lo u) ∧ f_X10_shrink (b + 83) (wr (SK b) ia fi fl qa f) = some (-4, wr (SK b) ia1 fi fl qa f) ∨ (∀ u, u < Ω.1.1 → ¬ bk Ω.1.2.1 lo u) ∧ (∀ j, j < Ω.1.1 → ia1 (b + 88) j = nI (ltV Ω.1.1 Ω.1.2.1 lo j)) ∧ ∃ q1 : Nat, f_X10_shrink (b + 83) (wr (SK b) ia fi fl qa f) = f_X10_shrink_16 (q1 + 1) (b + 83) (nI Ω.1.1) (nI (gnN lo Ω.1.1)) (nI Ω.1.1) (wr (SK b) ia1 fi fl qa f)) := by
    intro ia fi fl qa h
    obtain ⟨ia1, lk, e, h1, hh, h2⟩ := M_like (fl := fl) (qa := qa) (f := f) h w
    have e16 := m_16 (X := ia1 (b + 88)) (fi := fi) (fl := fl) (qa := qa) (f := f) h1.1.1 wf hlo (fun v hv => ⟨(h2 v hv).1, fun μ => m_low w hv (h2 v hv).2.1 (h2 v hv).2.2 (hl v hv) μ⟩) Ω.1.1 0 FU (by omega) (by omega) (fun u hu => absurd hu (by omega))
    rw [lkR_0, rw2_id] at e16
    have est : f_X10_shrink (b + 83) (wr (SK b) ia fi fl qa f) = f_X10_shrink_16 FU (b + 83) (nI Ω.1.1) (nI (gnN lo 0)) (nI 0) (wr (SK b) ia1 fi fl qa f) := by
      unfold f_X10_shrink
      simp only [ck_83, e, Option.bind_some, R_83_0, A16, h1.1.1.1]
      rfl
    rcases e16 with ⟨hbk, R, hR⟩ | ⟨hnb, q1, hR⟩
    · have hS := h1.scr (ia1 := rw2 ia1 (b + 88) R) (fi1 := fi) (fun a ha => rw2_n _ _ (by omega)) (fun a j ha => rfl)
      exact ⟨_, hS.1, hh.tr hS.2, Or.inl ⟨hbk, est.trans hR⟩⟩
    · have hS := h1.scr (ia1 := rw2 ia1 (b + 88) (lkR Ω.1.1 (ltV Ω.1.1 Ω.1.2.1 lo) (ia1 (b + 88)))) (fi1 := fi) (fun a ha => rw2_n _ _ (by omega)) (fun a j ha => rfl)
      exact ⟨_, hS.1, hh.tr hS.2, Or.inr ⟨hnb, fun j hj => by rw [rw2_s, lkR_at hj], q1, est.trans hR⟩⟩
  by_cases hB : ∃ u, u < Ω.1.1 ∧ bk Ω.1.2.1 lo u
  · refine ⟨-4, Ω, w, fun ia fi fl qa h => ?_, fun ia fi fl qa h => ?_⟩
    · show CRes b f ia fi (f_X9_shrink b _) _ _
      obtain ⟨ia1, e, h1, hh, hk, eL, r, hr, hr2⟩ := hC (fl := fl) h
      have hr1 : r = 1 := by
        rcases hr2 with ⟨h, _⟩ | ⟨_, h⟩
        · exact h
        · obtain ⟨u, hu, hb⟩ := hB
          exact absurd hb (h u hu)
      unfold f_X9_shrink
      simp only [R_0_0, S_ck hb1, e, Option.bind_some, S_I hb1, eL, hr, hr1, i10, if_false]
      exact ⟨_, _, _, _, rfl, h1, hh⟩
    · show MRes b f ia fi qa (f_X10_shrink (b + 83) _) _ _
      obtain ⟨ia1, h1, hh, h2⟩ := hM (fl := fl) (qa := qa) h
      rcases h2 with ⟨_, h2⟩ | ⟨h2, _⟩
      · exact ⟨_, _, _, h2, h1, hh⟩
      · obtain ⟨u, hu, hb⟩ := hB
        exact absurd hb (h2 u hu)
  · have hnB : ∀ u, u < Ω.1.1 → ¬ bk Ω.1.2.1 lo u := fun u hu hb => hB ⟨u, hu, hb⟩
    by_cases hG : gnN lo Ω.1.1 = 0
    · refine ⟨-5, Ω, w, fun ia fi fl qa h => ?_, fun ia fi fl qa h => ?_⟩
      · show CRes b f ia fi (f_X9_shrink b _) _ _
        obtain ⟨ia1, e, h1, hh, hk, eL, r, hr, hr2⟩ := hC (fl := fl) h
        have hr1 : r = 0 := by
          rcases hr2 with ⟨_, h⟩ | ⟨h, _⟩
          · obtain ⟨u, hu, hb⟩ := h
            exact absurd hb (hnB u hu)
          · exact h
        unfold f_X9_shrink
        simp only [R_0_0, S_ck hb1, e, Option.bind_some, S_I hb1, eL, hr, hr1, i00, if_true, h1.1.1.1, hsub, hgz.mp hG]
        rw [if_pos (by decide)]
        exact ⟨_, _, _, _, rfl, h1, hh⟩
      · show MRes b f ia fi qa (f_X10_shrink (b + 83) _) _ _
        obtain ⟨ia1, h1, hh, h2⟩ := hM (fl := fl) (qa := qa) h
        rcases h2 with ⟨h2, _⟩ | ⟨_, _, q1, h2⟩
        · exact absurd h2 hB
        · rw [h2, f_X10_shrink_16, if_pos (Int32.le_refl _), hG, if_pos (by decide)]
          exact ⟨_, _, _, rfl, h1, hh⟩
    · have h0 : lo 0 = 0 := by have := hlo 0; omega
      have hgN : ¬ nI (bcN (gnN lo Ω.1.1) 16) = 0 := fun e => hG (hgz.mpr ((nI_eq (b := 0) (by rw [hb16]; have := bcN_le (gnN lo Ω.1.1) Ω.1.1; omega) (by decide)).mp e))
      have hg0 : ¬ nI (gnN lo Ω.1.1) = 0 := fun e => hG ((nI_eq (b := 0) hg31 (by decide)).mp e)
      have wm := wf.mrg hlo
      have wn := rmA_WF h0 Ω.1.1 Ω.1.1 _ _ (Nat.le_refl _) wm
      have wlt : WF Ω.1.1 (ltV Ω.1.1 Ω.1.2.1 lo) Ω.1.2.2.1 := ⟨wf.1, wf.2.1, fun i hi => ⟨by
        show (if lo i = i then lkO lo (Ω.1.2.1 i) Ω.1.1 else 0) < _
        by_cases hx : lo i = i
        · rw [if_pos hx]; exact lkO_low hlo _
        · rw [if_neg hx]; exact Nat.two_pow_pos _, (wf.2.2 i hi).2⟩⟩
      refine ⟨nI (bcN (gnN lo Ω.1.1) 16), setS (recO Ω) _ _ _, w.rec.setS wn, fun ia fi fl qa h => ?_, fun ia fi fl qa h => ?_⟩
      · show CRes b f ia fi (f_X9_shrink b _) _ _
        obtain ⟨ia1, e, h1, hh, hk, eL, r, hr, hr2⟩ := hC (fl := fl) h
        have hr1 : r = 0 := by
          rcases hr2 with ⟨_, h⟩ | ⟨h, _⟩
          · obtain ⟨u, hu, hb⟩ := h
            exact absurd hb (hnB u hu)
          · exact h
        obtain ⟨ia2, fi2, qa2, er, g1, g2, g3⟩ := C_rec2 (fl := fl) h1 w
        have hc2 : CS ia2 fi2 (b + 1) Ω.1.1 Ω.1.2.1 Ω.1.2.2.1 := g1.1.1
        obtain ⟨ia3, fi3, m1, m2, m3, m4⟩ := c_merge (fl := fl) (qa := qa2) (f := f) hb1 hlo hc2 wf (fun v hv => by rw [g3 _ (by omega)]; exact hk v hv)
        unfold f_X9_shrink
        simp only [R_0_0, S_ck hb1, e, Option.bind_some, S_I hb1, eL, hr, hr1, i00, if_true, h1.1.1.1, hsub, if_neg hgN, ck_0, er, m1]
        have hS := g1.setS m2 (fun a ha => m3 a (by omega) (by omega)) (fun a j ha => m4 a j ha)
        exact ⟨_, _, _, _, rfl, hS.1, (hh.tr g2).tr hS.2⟩
      · show MRes b f ia fi qa (f_X10_shrink (b + 83) _) _ _
        obtain ⟨ia1, h1, hh, h2⟩ := hM (fl := fl) (qa := qa) h
        rcases h2 with ⟨h2, _⟩ | ⟨_, hlt, q1, h2⟩
        · exact absurd h2 hB
        · obtain ⟨ia2, fi2, er, g1, g2, g3⟩ := M_rec2 (fl := fl) (qa := qa) (f := f) h1 w
          have hm2 : MS (ia2 (b + 84)) Ω.1.1 Ω.1.2.1 Ω.1.2.2.1 := g1.1.1
          rw [h2, f_X10_shrink_16, if_pos (Int32.le_refl _), if_neg hg0]
          simp only [ck_83, er, Option.bind_some]
          have e146 := m_146 (b := b) (n := Ω.1.1) (ia := ia2) (fi := fi2) (fl := fl) (qa := qa) (f := f) (g := nI (gnN lo Ω.1.1)) (R := ia2 (b + 88)) n8' (fun j => rfl) Ω.1.1 0 FU (by omega) (by omega)
          rw [up1_0, rw2_id] at e146
          rw [show (0 : Int32) = nI 0 from rfl, e146]
          have hR : MS (rw2 ia2 (b + 84) (up1 (ia2 (b + 88)) (ia2 (b + 84)) Ω.1.1) (b + 84)) Ω.1.1 (ltV Ω.1.1 Ω.1.2.1 lo) Ω.1.2.2.1 := by
            rw [rw2_s]
            refine ⟨?_, fun i hi => ⟨?_, ?_⟩⟩
            · rw [up1_at _ _ (by omega)]; exact hm2.1
            · rw [up1_in _ _ hi, g3 _ (by omega)]; exact hlt i hi
            · rw [up1_at _ _ (by omega)]; exact (hm2.2 i hi).2
          obtain ⟨ia4, k1, k2, k3, k4⟩ := m_175 (b := b) (fi := fi2) (fl := fl) (qa := qa) (f := f) hlo n8' Ω.1.1 FU Ω.1.1 _ _ _ (by omega) (Nat.le_refl _) (Nat.le_refl _) hR wlt
          rw [k1]
          obtain ⟨x1, x2, x3⟩ := rmA_agr (lo := lo) h0 Ω.1.1 Ω.1.1 (fun j => lkO lo (Ω.1.2.1 j) Ω.1.1) (ltV Ω.1.1 Ω.1.2.1 lo) Ω.1.2.2.1 (Nat.le_refl _) n1 (fun j hj => ⟨fun _ hx => (if_pos hx).symm, fun hx => absurd hj (by omega)⟩)
          rw [← x1, ← x2] at k2
          have k5 := k2.cg x3
          have e4 : ia4 = rw2 ia2 (b + 84) (ia4 (b + 84)) := by
            funext a
            by_cases ha : a = b + 84
            · subst ha; rw [rw2_s]
            · rw [rw2_n _ _ ha, k3 a ha, rw2_n _ _ ha]
          have hS := g1.setS k5 (fun j hj => by rw [k4 j hj, rw2_s, up1_at _ _ (by omega)])
          rw [← e4] at hS
          exact ⟨_, _, _, rfl, hS.1, (hh.tr g2).tr hS.2⟩
end METH8
