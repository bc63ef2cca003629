/-! keep, clearText, type -/
section METH4
variable {b : Nat} {f : mmF} {Ω : mO}
theorem t_keep (w : WO Ω) : Meth b f Ω (fun μ => f_X9_keep b μ) (fun μ => f_X10_keep (b + 83) μ) := by
  have hb1 : isSt b (b + 1) := Or.inl rfl
  have hb9 : isSt b (b + 9) := Or.inr (Or.inl rfl)
  refine ⟨nI Ω.1.1, (Ω.1, Ω.2.1, Ω.2.2.1, some Ω.1, Ω.2.2.2.2), ⟨w.1, w.2.1, w.2.2.1, fun τ hτ => by cases hτ; exact w.1, w.2.2.2.2⟩, fun ia fi fl qa h => ?_, fun ia fi fl qa h => ?_⟩
  · show CRes b f ia fi (f_X9_keep b _) _ _
    obtain ⟨h1, ⟨ad, hA, hI, hH⟩, h3, ⟨h4, h4b⟩, ⟨h5, h5b⟩, c1, c2, c3, c4, c5⟩ := h
    unfold f_X9_keep
    simp only [R_0_0, R_0_3, Option.bind_some, S_ck hb9, tf hb9 hb1 (show b + 9 ≠ b + 1 by omega) h1.2.out, sI_0_4, S_I hb1]
    have e : ∀ a : Nat, a ≠ b + 9 + 1 → a ≠ b + 9 + 2 → (rw2 (rw2 ia (b + 9 + 1) (fun j => if j < 8 then ia (b + 1 + 1) j else ia (b + 9 + 1) j)) (b + 9 + 2) (fun j => if j < 8 then ia (b + 1 + 2) j else ia (b + 9 + 2) j)) a = ia a := fun a x y => by rw [rw2_n _ _ y, rw2_n _ _ x]
    have e2 : ∀ a j : Nat, a ≠ b + 9 → (a ≠ b ∨ j ≠ 4) → (u2 (u2 fi (b + 9) 0 (nI Ω.1.1)) b 4 1) a j = fi a j := fun a j x y => by
      rcases y with y | y
      · rw [u2_a _ _ y, u2_a _ _ x]
      · rw [u2_i _ _ y, u2_a _ _ x]
    have e3 : ∀ a : Nat, a ≠ b + 9 + 3 → (rw2 qa (b + 9 + 3) (fun j => if j < 5 then qa (b + 1 + 3) j else qa (b + 9 + 3) j)) a = qa a := fun a x => rw2_n _ _ x
    rw [h1.1.1, e2 _ _ (by omega) (by omega), h1.1.1]
    refine ⟨_, _, _, _, rfl, ⟨?_, ⟨ad, fun j hj => ?_, hI, fun q hq hq4 => ?_⟩, ?_, ⟨?_, fun τ hτ => ?_⟩, ⟨?_, fun i hi => ?_⟩, c1.cg (e _ (by omega) (by omega)) (e _ (by omega) (by omega)) (e2 _ _ (by omega) (by omega)), c2, c3, fun i hi => ?_, fun i hi => ?_⟩, fun a ha => ⟨e a (by omega) (by omega), ?_⟩⟩
    · exact h1.congr (e2 _ _ (by omega) (by omega)) (e _ (by omega) (by omega)) (e _ (by omega) (by omega)) (e3 _ (by omega))
    · rw [e3 _ (by omega)]; exact hA j hj
    · obtain ⟨k, hk, ha⟩ := (hA q hq4).2
      exact (hH q hq hq4).congr (e2 _ _ (by omega) (by omega)) (e _ (by omega) (by omega)) (e _ (by omega) (by omega)) (e3 _ (by omega))
    · rw [e2 _ _ (by omega) (by omega)]; exact h3
    · exact u2_s _ _ _ _
    · cases hτ
      refine h1.copy w.1 ?_ (fun j hj => ?_) (fun j hj => ?_) (fun j hj => ?_)
      · rw [u2_a _ _ (by omega), u2_s, h1.1.1]
      · rw [rw2_n _ _ (by omega), rw2_s]; exact if_pos hj
      · rw [rw2_s]; exact if_pos hj
      · rw [rw2_s]; exact if_pos hj
    · rw [e2 _ _ (by omega) (by omega)]; exact h5
    · rw [e _ (by omega) (by omega)]; exact h5b i hi
    · rw [e _ (by omega) (by omega)]; exact c4 i hi
    · rw [e _ (by omega) (by omega)]; exact c5 i hi
    · funext j; exact e2 _ _ (by omega) (by omega)
  · show MRes b f ia fi qa (f_X10_keep (b + 83) _) _ _
    obtain ⟨q, hq⟩ := FU_1000
    obtain ⟨h1, h2, h3, ⟨h4, h4b⟩, h5, h6⟩ := h
    have hl := m_keep_2 (b := b) (ia := ia) (fi := fi) (fl := fl) (qa := qa) (f := f) 172 0 FU rfl (by omega)
    rw [row_0, rw2_id] at hl
    unfold f_X10_keep
    rw [show (0 : Int32) = nI 0 from rfl, hl, h1.1.1]
    refine ⟨_, _, _, rfl, ⟨?_, fun q hq => ?_, ?_, ⟨?_, fun τ hτ => ?_⟩, ?_, fun i hi => ?_⟩, fun a ha => ⟨rw2_n _ _ (by omega), ?_⟩⟩
    · rw [rw2_n _ _ (by omega)]; exact h1
    · rw [rw2_n _ _ (by omega)]; exact h2 q hq
    · rw [u2_i _ _ (by omega)]; exact h3
    · exact u2_s _ _ _ _
    · cases hτ
      rw [rw2_s]
      exact h1.copy w.1 (fun j hj => if_pos hj)
    · rw [u2_i _ _ (by omega)]; exact h5
    · rw [rw2_n _ _ (by omega)]; exact h6 i hi
    · funext j; exact u2_a _ _ (by omega)
/-- other texts -/
abbrev setT (Ω : mO) (t : Nat) (tx : Nat → Nat) : mO := (Ω.1, Ω.2.1, Ω.2.2.1, Ω.2.2.2.1, t, tx)
theorem WO.setT (w : WO Ω) {t : Nat} {tx : Nat → Nat} (h : t ≤ 30) (hx : ∀ i, i < t → tx i < 65536) : WO (setT Ω t tx) := ⟨w.1, w.2.1, w.2.2.1, w.2.2.2.1, h, hx⟩
theorem CR.setT {ia fi ia1 fi1 : Nat → Nat → Int32} {qa : Nat → Nat → Option Nat} {t : Nat} {tx : Nat → Nat} (h : CR b ia fi qa f Ω) (ht : fi1 (b + 16) 0 = nI t) (hx : ∀ i, i < t → ia1 (b + 17) i = nI (sgn (tx i))) (e : ∀ a : Nat, a ≠ b + 17 → ia1 a = ia a) (e2 : ∀ a : Nat, a ≠ b + 16 → fi1 a = fi a) : CR b ia1 fi1 qa f (setT Ω t tx) ∧ highE b ia fi ia1 fi1 := by
  obtain ⟨h1, ⟨ad, hA, hI, hH⟩, h3, ⟨h4, h4b⟩, ⟨h5, h5b⟩, c1, c2, c3, c4, c5⟩ := h
  refine ⟨⟨?_, ⟨ad, hA, hI, fun q hq hq4 => ?_⟩, ?_, ⟨?_, fun τ hτ => ?_⟩, ⟨ht, hx⟩, c1.cg (e _ (by omega)) (e _ (by omega)) (by rw [e2 _ (by omega)]), c2, c3, fun i hi => ?_, fun i hi => ?_⟩, fun a ha => ⟨e a (by omega), e2 _ (by omega)⟩⟩
  · exact h1.congr (by rw [e2 _ (by omega)]) (e _ (by omega)) (e _ (by omega)) rfl
  · obtain ⟨k, hk, ha⟩ := (hA q hq4).2
    exact (hH q hq hq4).congr (by rw [e2 _ (by omega)]) (e _ (by omega)) (e _ (by omega)) rfl
  · rw [e2 _ (by omega)]; exact h3
  · rw [e2 _ (by omega)]; exact h4
  · exact (h4b τ hτ).congr (by rw [e2 _ (by omega)]) (e _ (by omega)) (e _ (by omega)) rfl
  · rw [e _ (by omega)]; exact c4 i hi
  · rw [e _ (by omega)]; exact c5 i hi
theorem MR.setT {ia fi ia1 fi1 : Nat → Nat → Int32} {t : Nat} {tx : Nat → Nat} (h : MR b ia fi Ω) (ht : fi1 (b + 83) 7 = nI t) (hx : ∀ i, i < t → ia1 (b + 89) i = nI (tx i)) (e : ∀ a : Nat, a ≠ b + 89 → ia1 a = ia a) (e2 : ∀ a j : Nat, a ≠ b + 83 ∨ j ≠ 7 → fi1 a j = fi a j) : MR b ia1 fi1 (setT Ω t tx) ∧ lowE b ia fi ia1 fi1 := by
  obtain ⟨h1, h2, h3, ⟨h4, h4b⟩, h5, h6⟩ := h
  refine ⟨⟨?_, fun q hq => ?_, ?_, ⟨?_, fun τ hτ => ?_⟩, ht, hx⟩, fun a ha => ⟨e _ (by omega), ?_⟩⟩
  · rw [e _ (by omega)]; exact h1
  · rw [e _ (by omega)]; exact h2 q hq
  · rw [e2 _ _ (by omega)]; exact h3
  · rw [e2 _ _ (by omega)]; exact h4
  · rw [e _ (by omega)]; exact h4b τ hτ
  · funext j; exact e2 _ _ (by omega)
theorem t_clearText (w : WO Ω) : Meth b f Ω (fun μ => f_X9_clearText b μ) (fun μ => f_X10_clearText (b + 83) μ) := by
  refine ⟨nI Ω.2.2.2.2.1, setT Ω 0 Ω.2.2.2.2.2, w.setT (by omega) (fun i hi => absurd hi (by omega)), fun ia fi fl qa h => ?_, fun ia fi fl qa h => ?_⟩
  · show CRes b f ia fi (f_X9_clearText b _) _ _
    unfold f_X9_clearText
    simp only [R_0_5, I_16_0, sI_16_0, Option.bind_some, h.2.2.2.2.1.1]
    have hS := h.setT (ia1 := ia) (fi1 := u2 fi (b + 16) 0 0) (t := 0) (tx := Ω.2.2.2.2.2) (u2_s _ _ _ _) (fun i hi => absurd hi (by omega)) (fun a ha => rfl) (fun a ha => u2_row _ _ ha)
    exact ⟨_, _, _, _, rfl, hS.1, hS.2⟩
  · show MRes b f ia fi qa (f_X10_clearText (b + 83) _) _ _
    unfold f_X10_clearText
    simp only [I_83_7, sI_83_7, Option.bind_some, h.2.2.2.2.1]
    have hS := h.setT (ia1 := ia) (fi1 := u2 fi (b + 83) 7 0) (t := 0) (tx := Ω.2.2.2.2.2) (u2_s _ _ _ _) (fun i hi => absurd hi (by omega)) (fun a ha => rfl) (fun a j h2 => by
        rcases h2 with h2 | h2
        · rw [u2_a _ _ h2]
        · rw [u2_i _ _ h2])
    exact ⟨_, _, _, rfl, hS.1, hS.2⟩
theorem sign_of {c : Nat} (hc : c < 65536) (f : mmF) : f_X8_signOf (nI c) f = some (nI (sgn c)) := by
  have q : ∀ k : Nat, k < 65536 → (nI c = nI k) = (c = k) := fun k hk => propext (nI_eq (by omega) (by omega))
  have q38 : (nI c = (38 : Int32)) = (c = 38) := q 38 (by decide)
  have q40 : (nI c = (40 : Int32)) = (c = 40) := q 40 (by decide)
  have q41 : (nI c = (41 : Int32)) = (c = 41) := q 41 (by decide)
  have q62 : (nI c = (62 : Int32)) = (c = 62) := q 62 (by decide)
  have q70 : (nI c = (70 : Int32)) = (c = 70) := q 70 (by decide)
  have q84 : (nI c = (84 : Int32)) = (c = 84) := q 84 (by decide)
  have q97 : (nI c = (97 : Int32)) = (c = 97) := q 97 (by decide)
  have q98 : (nI c = (98 : Int32)) = (c = 98) := q 98 (by decide)
  have q99 : (nI c = (99 : Int32)) = (c = 99) := q 99 (by decide)
  have q100 : (nI c = (100 : Int32)) = (c = 100) := q 100 (by decide)
  have q124 : (nI c = (124 : Int32)) = (c = 124) := q 124 (by decide)
  have q126 : (nI c = (126 : Int32)) = (c = 126) := q 126 (by decide)
  unfold f_X8_signOf sgn
  simp only [q38, q40, q41, q62, q70, q84, q97, q98, q99, q100, q124, q126]
  by_cases h1 : c = 38
  · subst h1; rfl
  by_cases h2 : c = 40
  · subst h2; rfl
  by_cases h3 : c = 41
  · subst h3; rfl
  by_cases h4 : c = 62
  · subst h4; rfl
  by_cases h5 : c = 70
  · subst h5; rfl
  by_cases h6 : c = 84
  · subst h6; rfl
  by_cases h7 : c = 97
  · subst h7; rfl
  by_cases h8 : c = 98
  · subst h8; rfl
  by_cases h9 : c = 99
  · subst h9; rfl
  by_cases h10 : c = 100
  · subst h10; rfl
  by_cases h11 : c = 124
  · subst h11; rfl
  by_cases h12 : c = 126
  · subst h12; rfl
  simp only [if_neg h1, if_neg h2, if_neg h3, if_neg h4, if_neg h5, if_neg h6, if_neg h7, if_neg h8, if_neg h9, if_neg h10, if_neg h11, if_neg h12]
  rfl
theorem t_type (w : WO Ω) {c : Nat} (hc : c < 65536) (hn : vp_nar .char (nI c) = nI c) : Meth b f Ω (fun μ => f_X9_type b (nI c) μ) (fun μ => f_X10_type (b + 83) (nI c) μ) := by
  have ht := w.2.2.2.2.1
  by_cases h30 : Ω.2.2.2.2.1 = 30
  · refine ⟨-3, Ω, w, fun ia fi fl qa h => ?_, fun ia fi fl qa h => ?_⟩
    · show CRes b f ia fi (f_X9_type b _ _) _ _
      unfold f_X9_type
      simp only [R_0_5, I_16_0, Option.bind_some, h.2.2.2.2.1.1, h30]
      rw [if_neg (by decide)]
      exact CRes.same h
    · show MRes b f ia fi qa (f_X10_type (b + 83) _ _) _ _
      unfold f_X10_type
      simp only [I_83_7, Option.bind_some, h.2.2.2.2.1, h30]
      rw [if_pos (by decide)]
      exact MRes.same h
  · have hlt : Ω.2.2.2.2.1 < 30 := by omega
    refine ⟨nI (Ω.2.2.2.2.1 + 1), setT Ω (Ω.2.2.2.2.1 + 1) (fun i => if i = Ω.2.2.2.2.1 then c else Ω.2.2.2.2.2 i), w.setT (by omega) (fun i hi => ?_), fun ia fi fl qa h => ?_, fun ia fi fl qa h => ?_⟩
    · show (if i = Ω.2.2.2.2.1 then c else Ω.2.2.2.2.2 i) < 65536
      by_cases hi2 : i = Ω.2.2.2.2.1
      · rw [if_pos hi2]; exact hc
      · rw [if_neg hi2]; exact w.2.2.2.2.2 i (by omega)
    · show CRes b f ia fi (f_X9_type b _ _) _ _
      have e1 : nI Ω.2.2.2.2.1 < (30 : Int32) := nI_lt (b := 30) hlt (by decide)
      have e2 : ¬ (30 : Int32) ≤ nI Ω.2.2.2.2.1 := nI_ge (b := 30) hlt (by decide)
      unfold f_X9_type f_X8_append
      simp only [R_0_5, I_16_0, Option.bind_some, h.2.2.2.2.1.1, if_pos e1, if_neg e2, ck_16, R_16_1, sign_of hc, sAn_17 hlt, nI_1, sI_16_0, u2_s]
      have hS := h.setT (ia1 := u2 ia (b + 17) Ω.2.2.2.2.1 (nI (sgn c))) (fi1 := u2 fi (b + 16) 0 (nI (Ω.2.2.2.2.1 + 1))) (t := Ω.2.2.2.2.1 + 1) (tx := fun i => if i = Ω.2.2.2.2.1 then c else Ω.2.2.2.2.2 i) (u2_s _ _ _ _) (fun i hi => by
        by_cases hi2 : i = Ω.2.2.2.2.1
        · subst hi2
          rw [u2_s]
          simp only [if_pos]
        · rw [u2_i _ _ hi2, if_neg hi2]; exact h.2.2.2.2.1.2 i (by omega)) (fun a ha => u2_row _ _ ha) (fun a ha => u2_row _ _ ha)
      exact ⟨_, _, _, _, rfl, hS.1, hS.2⟩
    · show MRes b f ia fi qa (f_X10_type (b + 83) _ _) _ _
      have e1 : ¬ nI Ω.2.2.2.2.1 = (30 : Int32) := fun e => h30 ((nI_eq (b := 30) (by omega) (by decide)).mp e)
      unfold f_X10_type
      simp only [I_83_7, Option.bind_some, h.2.2.2.2.1, if_neg e1, R_83_8, hn, sAn_89 hlt, nI_1, sI_83_7, u2_s]
      have hS := h.setT (ia1 := u2 ia (b + 89) Ω.2.2.2.2.1 (nI c)) (fi1 := u2 fi (b + 83) 7 (nI (Ω.2.2.2.2.1 + 1))) (t := Ω.2.2.2.2.1 + 1) (tx := fun i => if i = Ω.2.2.2.2.1 then c else Ω.2.2.2.2.2 i) (u2_s _ _ _ _) (fun i hi => by
        by_cases hi2 : i = Ω.2.2.2.2.1
        · subst hi2
          rw [u2_s]
          simp only [if_pos]
        · rw [u2_i _ _ hi2, if_neg hi2]; exact h.2.2.2.2.2 i (by omega)) (fun a ha => u2_row _ _ ha) (fun a j h2 => by
        rcases h2 with h2 | h2
        · rw [u2_a _ _ h2]
        · rw [u2_i _ _ h2])
      exact ⟨_, _, _, rfl, hS.1, hS.2⟩
end METH4
