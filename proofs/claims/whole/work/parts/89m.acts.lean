/-! METHODS OF BOTH SIDES: the frame; the reference's record; changes of stages -/
def CRes (b : Nat) (f : mmF) (ia fi : Nat → Nat → Int32) (o : Option (Int32 × mmF)) (v : Int32) (Ω : mO) : Prop := ∃ (ia1 fi1 : Nat → Nat → Int32) (fl1 : Nat → Nat → Int64) (qa1 : Nat → Nat → Option Nat), o = some (v, wr (SK b) ia1 fi1 fl1 qa1 f) ∧ CR b ia1 fi1 qa1 f Ω ∧ highE b ia fi ia1 fi1
def MRes (b : Nat) (f : mmF) (ia fi : Nat → Nat → Int32) (qa : Nat → Nat → Option Nat) (o : Option (Int32 × mmF)) (v : Int32) (Ω : mO) : Prop := ∃ (ia1 fi1 : Nat → Nat → Int32) (fl1 : Nat → Nat → Int64), o = some (v, wr (SK b) ia1 fi1 fl1 qa f) ∧ MR b ia1 fi1 Ω ∧ lowE b ia fi ia1 fi1
def Meth (b : Nat) (f : mmF) (Ω : mO) (C M : mmF → Option (Int32 × mmF)) : Prop := ∃ (v : Int32) (Ω1 : mO), WO Ω1 ∧ (∀ (ia fi : Nat → Nat → Int32) (fl : Nat → Nat → Int64) (qa : Nat → Nat → Option Nat), CR b ia fi qa f Ω → CRes b f ia fi (C (wr (SK b) ia fi fl qa f)) v Ω1) ∧ (∀ (ia fi : Nat → Nat → Int32) (fl : Nat → Nat → Int64) (qa : Nat → Nat → Option Nat), MR b ia fi Ω → MRes b f ia fi qa (M (wr (SK b) ia fi fl qa f)) v Ω1)
theorem highE_rf {b : Nat} {ia fi : Nat → Nat → Int32} : highE b ia fi ia fi := fun _ _ => ⟨rfl, rfl⟩
theorem lowE_rf {b : Nat} {ia fi : Nat → Nat → Int32} : lowE b ia fi ia fi := fun _ _ => ⟨rfl, rfl⟩
theorem highE.tr {b : Nat} {ia fi ia1 fi1 ia2 fi2 : Nat → Nat → Int32} (h : highE b ia fi ia1 fi1) (h2 : highE b ia1 fi1 ia2 fi2) : highE b ia fi ia2 fi2 := fun a ha => ⟨(h2 a ha).1.trans (h a ha).1, (h2 a ha).2.trans (h a ha).2⟩
theorem lowE.tr {b : Nat} {ia fi ia1 fi1 ia2 fi2 : Nat → Nat → Int32} (h : lowE b ia fi ia1 fi1) (h2 : lowE b ia1 fi1 ia2 fi2) : lowE b ia fi ia2 fi2 := fun a ha => ⟨(h2 a ha).1.trans (h a ha).1, (h2 a ha).2.trans (h a ha).2⟩
/-- nothing is changed -/
theorem CRes.same {b : Nat} {f : mmF} {ia fi : Nat → Nat → Int32} {fl : Nat → Nat → Int64} {qa : Nat → Nat → Option Nat} {Ω : mO} {v : Int32} (h : CR b ia fi qa f Ω) : CRes b f ia fi (some (v, wr (SK b) ia fi fl qa f)) v Ω := ⟨ia, fi, fl, qa, rfl, h, highE_rf⟩
theorem MRes.same {b : Nat} {f : mmF} {ia fi : Nat → Nat → Int32} {fl : Nat → Nat → Int64} {qa : Nat → Nat → Option Nat} {Ω : mO} {v : Int32} (h : MR b ia fi Ω) : MRes b f ia fi qa (some (v, wr (SK b) ia fi fl qa f)) v Ω := ⟨ia, fi, fl, rfl, h, lowE_rf⟩
section ACT
variable {b : Nat} {ia fi : Nat → Nat → Int32} {fl : Nat → Nat → Int64} {qa : Nat → Nat → Option Nat} {f : mmF} {Ω : mO}
theorem M_rec (h : MR b ia fi Ω) (w : WO Ω) : ∃ (ia1 fi1 : Nat → Nat → Int32), f_X10_record (b + 83) (wr (SK b) ia fi fl qa f) = some (wr (SK b) ia1 fi1 fl qa f) ∧ MR b ia1 fi1 (recO Ω) ∧ lowE b ia fi ia1 fi1 := by
  obtain ⟨h1, h2, h3, ⟨h4, h4b⟩, h5, h6⟩ := h
  have hr4 := w.2.1
  by_cases hr : Ω.2.1 = 4
  · have hk : fi (b + 83) 2 = nI 4 := by rw [h3, hr]
    refine ⟨_, _, m_rec_4 hk, ⟨?_, fun q hq => ?_, ?_, ⟨?_, fun τ hτ => ?_⟩, ?_, fun i hi => ?_⟩, fun a ha => ⟨?_, ?_⟩⟩
    · rw [rw2_n _ _ (by omega)]; exact h1
    · have hq4 : q < 4 := by
        have : q < (if Ω.2.1 = 4 then 4 else Ω.2.1 + 1) := hq
        rw [if_pos hr] at this
        exact this
      rw [rw2_s]
      show MSt _ ((if Ω.2.1 = 4 then (fun q => if q = 3 then Ω.1 else Ω.2.2.1 (q + 1)) else fun q => if q = Ω.2.1 then Ω.1 else Ω.2.2.1 q) q)
      rw [if_pos hr]
      by_cases h3q : q = 3
      · subst h3q
        simp only [if_pos]
        refine h1.copy w.1 (fun j hj => ?_)
        rw [if_neg (by omega), if_pos (by omega), show 172 * 3 + j - 516 = j by omega]
      · simp only [if_neg h3q]
        refine (h2 (q + 1) (by omega)).copy (w.2.2.1 (q + 1) (by omega)) (fun j hj => ?_)
        rw [if_pos (by omega)]
        congr 1
        omega
    · show u2 fi (b + 83) 2 (nI 4) (b + 83) 2 = nI (if Ω.2.1 = 4 then 4 else Ω.2.1 + 1)
      rw [if_pos hr, u2_s]
    · rw [u2_i _ _ (by omega)]; exact h4
    · rw [rw2_n _ _ (by omega)]; exact h4b τ hτ
    · rw [u2_i _ _ (by omega)]; exact h5
    · rw [rw2_n _ _ (by omega)]; exact h6 i hi
    · exact rw2_n _ _ (by omega)
    · funext j; exact u2_a _ _ (by omega)
  · have hlt : Ω.2.1 < 4 := by omega
    refine ⟨_, _, m_rec_lt h3 hlt, ⟨?_, fun q hq => ?_, ?_, ⟨?_, fun τ hτ => ?_⟩, ?_, fun i hi => ?_⟩, fun a ha => ⟨?_, ?_⟩⟩
    · rw [rw2_n _ _ (by omega)]; exact h1
    · have hq4 : q < Ω.2.1 + 1 := by
        have : q < (if Ω.2.1 = 4 then 4 else Ω.2.1 + 1) := hq
        rw [if_neg hr] at this
        exact this
      rw [rw2_s]
      show MSt _ ((if Ω.2.1 = 4 then (fun q => if q = 3 then Ω.1 else Ω.2.2.1 (q + 1)) else fun q => if q = Ω.2.1 then Ω.1 else Ω.2.2.1 q) q)
      rw [if_neg hr]
      by_cases h3q : q = Ω.2.1
      · simp only [if_pos h3q]
        refine h1.copy w.1 (fun j hj => ?_)
        subst h3q
        rw [if_pos (by omega)]
        congr 1
        omega
      · simp only [if_neg h3q]
        refine (h2 q (by omega)).copy (w.2.2.1 q (by omega)) (fun j hj => ?_)
        rw [if_neg (by omega)]
    · show u2 fi (b + 83) 2 (nI (Ω.2.1 + 1)) (b + 83) 2 = nI (if Ω.2.1 = 4 then 4 else Ω.2.1 + 1)
      rw [if_neg hr, u2_s]
    · rw [u2_i _ _ (by omega)]; exact h4
    · rw [rw2_n _ _ (by omega)]; exact h4b τ hτ
    · rw [u2_i _ _ (by omega)]; exact h5
    · rw [rw2_n _ _ (by omega)]; exact h6 i hi
    · exact rw2_n _ _ (by omega)
    · funext j; exact u2_a _ _ (by omega)
/-- other stages, the same shelf -/
abbrev setS (Ω : mO) (n : Nat) (L F : Nat → Nat) : mO := ((n, L, F, Ω.1.2.2.2), Ω.2)
theorem WO.setS (w : WO Ω) {n : Nat} {L F : Nat → Nat} (h : WF n L F) : WO (setS Ω n L F) := ⟨⟨h, w.1.2⟩, w.2⟩
theorem CR.setS {ia1 fi1 : Nat → Nat → Int32} {n : Nat} {L F : Nat → Nat} (h : CR b ia fi qa f Ω) (hs : CS ia1 fi1 (b + 1) n L F) (e : ∀ a : Nat, a < b + 2 ∨ b + 8 ≤ a → ia1 a = ia a) (e2 : ∀ a j : Nat, a ≠ b + 1 ∨ j ≠ 0 → fi1 a j = fi a j) : CR b ia1 fi1 qa f (setS Ω n L F) ∧ highE b ia fi ia1 fi1 := by
  obtain ⟨h1, ⟨ad, hA, hI, hH⟩, h3, ⟨h4, h4b⟩, ⟨h5, h5b⟩, c1, c2, c3, c4, c5⟩ := h
  refine ⟨⟨⟨hs, h1.2⟩, ⟨ad, hA, hI, fun q hq hq4 => ?_⟩, ?_, ⟨?_, fun τ hτ => ?_⟩, ⟨?_, fun i hi => ?_⟩, c1.cg (e _ (by omega)) (e _ (by omega)) (e2 _ _ (by omega)), c2, c3, fun i hi => ?_, fun i hi => ?_⟩, fun a ha => ⟨e a (by omega), ?_⟩⟩
  · obtain ⟨k, hk, ha⟩ := (hA q hq4).2
    exact (hH q hq hq4).congr (e2 _ _ (by omega)) (e _ (by omega)) (e _ (by omega)) rfl
  · rw [e2 _ _ (by omega)]; exact h3
  · rw [e2 _ _ (by omega)]; exact h4
  · exact (h4b τ hτ).congr (e2 _ _ (by omega)) (e _ (by omega)) (e _ (by omega)) rfl
  · rw [e2 _ _ (by omega)]; exact h5
  · rw [e _ (by omega)]; exact h5b i hi
  · rw [e _ (by omega)]; exact c4 i hi
  · rw [e _ (by omega)]; exact c5 i hi
  · funext j; exact e2 _ _ (by omega)
theorem MR.setS {R : Nat → Int32} {n : Nat} {L F : Nat → Nat} (h : MR b ia fi Ω) (hs : MS R n L F) (e : ∀ j : Nat, 17 ≤ j → R j = ia (b + 84) j) : MR b (rw2 ia (b + 84) R) fi (setS Ω n L F) ∧ lowE b ia fi (rw2 ia (b + 84) R) fi := by
  obtain ⟨h1, h2, h3, ⟨h4, h4b⟩, h5, h6⟩ := h
  refine ⟨⟨?_, fun q hq => ?_, h3, ⟨h4, fun τ hτ => ?_⟩, h5, fun i hi => ?_⟩, fun a ha => ⟨rw2_n _ _ (by omega), rfl⟩⟩
  · rw [rw2_s]
    refine ⟨hs, fun p hp => ⟨?_, fun j hj => ?_⟩⟩
    · rw [e _ (by omega)]; exact (h1.2 p hp).1
    · rw [e _ (by omega)]; exact (h1.2 p hp).2 j hj
  · rw [rw2_n _ _ (by omega)]; exact h2 q hq
  · rw [rw2_n _ _ (by omega)]; exact h4b τ hτ
  · rw [rw2_n _ _ (by omega)]; exact h6 i hi
end ACT
section METH1
variable {b : Nat} {f : mmF} {Ω : mO}
theorem t_addStage (w : WO Ω) (x : Int32) : Meth b f Ω (fun μ => f_X9_addStage b x μ) (fun μ => f_X10_addStage (b + 83) x μ) := by
  obtain ⟨⟨wf, wsh⟩, wr4, wrest⟩ := id w
  have hb1 : isSt b (b + 1) := Or.inl rfl
  have n1 := wf.1
  have n8' := wf.2.1
  by_cases hx : ∃ k, k < Ω.1.1 ∧ x = nI k
  · obtain ⟨k, hk, rfl⟩ := hx
    by_cases h8 : Ω.1.1 = 8
    · refine ⟨-3, Ω, w, fun ia fi fl qa h => ?_, fun ia fi fl qa h => ?_⟩
      · show CRes b f ia fi (f_X9_addStage b (nI k) _) _ _
        unfold f_X9_addStage
        rw [R_0_0]
        simp only [Option.bind_some]
        rw [S_ck hb1]
        simp only [Option.bind_some]
        rw [isStage_t hb1 h.1.1.1 hk (by omega)]
        simp only [Option.bind_some]
        rw [if_neg (by decide)]
        rw [S_I hb1]
        simp only [Option.bind_some]
        rw [h.1.1.1, h8, if_neg (by decide)]
        exact CRes.same h
      · show MRes b f ia fi qa (f_X10_addStage (b + 83) (nI k) _) _ _
        unfold f_X10_addStage
        rw [ck_83]
        simp only [Option.bind_some]
        rw [m_noS_t h.1.1.1 hk (by omega)]
        simp only [Option.bind_some]
        rw [if_pos (by decide), R_83_0]
        simp only [Option.bind_some]
        rw [A16, h.1.1.1, h8]
        simp only [Option.bind_some]
        rw [if_pos (by decide)]
        exact MRes.same h
    · have hlt : Ω.1.1 < 8 := by omega
      refine ⟨nI Ω.1.1, setS (recO Ω) (Ω.1.1 + 1) (gL Ω.1.1 k Ω.1.2.1) (gF Ω.1.1 k Ω.1.2.2.1), w.rec.setS (wf.grow hlt hk), fun ia fi fl qa h => ?_, fun ia fi fl qa h => ?_⟩
      · show CRes b f ia fi (f_X9_addStage b (nI k) _) _ _
        obtain ⟨ia1, fi1, qa1, er, hr, hh⟩ := C_rec (fl := fl) h w
        have hc1 : CS ia1 fi1 (b + 1) Ω.1.1 Ω.1.2.1 Ω.1.2.2.1 := hr.1.1
        unfold f_X9_addStage
        rw [R_0_0]
        simp only [Option.bind_some]
        rw [S_ck hb1]
        simp only [Option.bind_some]
        rw [isStage_t hb1 h.1.1.1 hk (by omega)]
        simp only [Option.bind_some]
        rw [if_neg (by decide)]
        rw [S_I hb1]
        simp only [Option.bind_some]
        rw [h.1.1.1, if_pos (show nI Ω.1.1 < 8 from nI_lt (b := 8) hlt (by decide)), ck_0]
        simp only [Option.bind_some]
        rw [er]
        simp only [Option.bind_some]
        rw [R_0_0]
        simp only [Option.bind_some]
        rw [S_ck hb1]
        simp only [Option.bind_some]
        rw [grow hb1 hc1.1 hlt hk]
        have hS := hr.setS (hc1.grow wf hlt hk) (fun a ha => by rw [u2_row _ _ (by omega), u2_row _ _ (by omega), rw2_n _ _ (by omega)]) (fun a j ha => by
          rcases ha with ha | ha
          · rw [u2_a _ _ ha]
          · rw [u2_i _ _ ha])
        exact ⟨_, _, _, _, rfl, hS.1, hh.tr hS.2⟩
      · show MRes b f ia fi qa (f_X10_addStage (b + 83) (nI k) _) _ _
        obtain ⟨ia1, fi1, er, hr, hl⟩ := M_rec (fl := fl) (qa := qa) (f := f) h w
        have hm1 : MS (ia1 (b + 84)) Ω.1.1 Ω.1.2.1 Ω.1.2.2.1 := hr.1.1
        obtain ⟨q, hq⟩ := FU_1000
        unfold f_X10_addStage
        rw [ck_83]
        simp only [Option.bind_some]
        rw [m_noS_t h.1.1.1 hk (by omega)]
        simp only [Option.bind_some]
        rw [if_pos (by decide), R_83_0]
        simp only [Option.bind_some]
        rw [A16, h.1.1.1]
        simp only [Option.bind_some]
        have hne : ¬ nI Ω.1.1 = 8 := fun e => h8 ((nI_eq (a := Ω.1.1) (b := 8) (by omega) (by decide)).mp e)
        rw [if_neg hne]
        rw [er]
        simp only [Option.bind_some]
        have e := m_add_33 (b := b) (ia := ia1) (fi := fi1) (fl := fl) (qa := qa) (f := f) (R := ia1 (b + 84)) hk hlt Ω.1.1 0 FU (by omega) (by omega)
        rw [up1_0, rw2_id] at e
        rw [show (0 : Int32) = nI 0 from rfl, e]
        have hS := hr.setS (hm1.grow wf hlt hk) (fun j hj => agE_hi hlt hj)
        exact ⟨_, _, _, rfl, hS.1, hl.tr hS.2⟩
  · have hx2 : ∀ k, k < Ω.1.1 → x ≠ nI k := fun k hk e => hx ⟨k, hk, e⟩
    refine ⟨-1, Ω, w, fun ia fi fl qa h => ?_, fun ia fi fl qa h => ?_⟩
    · show CRes b f ia fi (f_X9_addStage b x _) _ _
      unfold f_X9_addStage
      rw [R_0_0]
      simp only [Option.bind_some]
      rw [S_ck hb1]
      simp only [Option.bind_some]
      rw [isStage_f hb1 h.1.1.1 (by omega) hx2]
      simp only [Option.bind_some]
      rw [if_pos (by decide)]
      exact CRes.same h
    · show MRes b f ia fi qa (f_X10_addStage (b + 83) x _) _ _
      unfold f_X10_addStage
      rw [ck_83]
      simp only [Option.bind_some]
      rw [m_noS_f h.1.1.1 n1 (by omega) hx2]
      simp only [Option.bind_some]
      rw [if_neg (by decide)]
      exact MRes.same h
end METH1
