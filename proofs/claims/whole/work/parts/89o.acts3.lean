/-! undo, keep, restore, clearText, type -/
section ACT3
variable {b : Nat} {ia fi : Nat → Nat → Int32} {fl : Nat → Nat → Int64} {qa : Nat → Nat → Option Nat} {f : mmF} {Ω : mO}
theorem m_undo_22 {r : Nat} (hr : fi (b + 83) 2 = nI r) (h4 : r < 4) : ∀ (m i n : Nat), i + m = 172 → m < n → f_X10_undo_22 n (b + 83) (nI i) (wr (SK b) (rw2 ia (b + 84) (fun j => if j < i then ia (b + 85) (172 * r + j) else ia (b + 84) j)) fi fl qa f) = some (nI r, wr (SK b) (rw2 ia (b + 84) (fun j => if j < 172 then ia (b + 85) (172 * r + j) else ia (b + 84) j)) fi fl qa f) := by
  intro m
  induction m with
  | zero =>
    intro i n hi hm
    obtain ⟨n, rfl⟩ : ∃ k, n = k + 1 := ⟨n - 1, by omega⟩
    have hi6 : i = 172 := by omega
    subst hi6
    rw [f_X10_undo_22, if_pos (show (172 : Int32) ≤ nI 172 by decide)]
    simp only [I_83_2, Option.bind_some, hr]
  | succ m ih =>
    intro i n hi hm
    obtain ⟨n, rfl⟩ : ∃ k, n = k + 1 := ⟨n - 1, by omega⟩
    have hlt : ¬ (172 : Int32) ≤ nI i := nI_ge (a := i) (b := 172) (by omega) (by decide)
    have e : (172 : Int32) * fi (b + 83) 2 + nI i = nI (172 * r + i) := by rw [hr, show (172 : Int32) = nI 172 from rfl, pk_mul, nI_add]
    rw [f_X10_undo_22, if_neg hlt]
    simp only [R_83_0, R_83_1, I_83_2, Option.bind_some, e, An_85 (show 172 * r + i < 688 by omega), sAn_84 (show i < 172 by omega), u2_rw2]
    rw [rw2_n _ _ (by omega), row_step (fun j => ia (b + 85) (172 * r + j)) _ _ _ rfl, nI_1]
    exact ih (i + 1) n (by omega) (by omega)
theorem m_keep_2 : ∀ (m i n : Nat), i + m = 172 → m < n → f_X10_keep_2 n (b + 83) (nI i) (wr (SK b) (rw2 ia (b + 86) (fun j => if j < i then ia (b + 84) j else ia (b + 86) j)) fi fl qa f) = some (ia (b + 84) 16, wr (SK b) (rw2 ia (b + 86) (fun j => if j < 172 then ia (b + 84) j else ia (b + 86) j)) (u2 fi (b + 83) 4 1) fl qa f) := by
  intro m
  induction m with
  | zero =>
    intro i n hi hm
    obtain ⟨n, rfl⟩ : ∃ k, n = k + 1 := ⟨n - 1, by omega⟩
    have hi6 : i = 172 := by omega
    subst hi6
    rw [f_X10_keep_2, if_pos (show (172 : Int32) ≤ nI 172 by decide)]
    simp only [sI_83_4, R_83_0, A16, Option.bind_some]
    rw [rw2_n _ _ (by omega)]
  | succ m ih =>
    intro i n hi hm
    obtain ⟨n, rfl⟩ : ∃ k, n = k + 1 := ⟨n - 1, by omega⟩
    have hlt : ¬ (172 : Int32) ≤ nI i := nI_ge (a := i) (b := 172) (by omega) (by decide)
    rw [f_X10_keep_2, if_neg hlt]
    simp only [R_83_0, R_83_3, Option.bind_some, An_84 (show i < 172 by omega), sAn_86 (show i < 172 by omega), u2_rw2]
    rw [rw2_n _ _ (by omega), row_step (ia (b + 84)) _ _ _ rfl, nI_1]
    exact ih (i + 1) n (by omega) (by omega)
theorem m_restore_16 : ∀ (m i n : Nat), i + m = 172 → m < n → f_X10_restore_16 n (b + 83) (nI i) (wr (SK b) (rw2 ia (b + 84) (fun j => if j < i then ia (b + 86) j else ia (b + 84) j)) fi fl qa f) = some (ia (b + 86) 16, wr (SK b) (rw2 ia (b + 84) (fun j => if j < 172 then ia (b + 86) j else ia (b + 84) j)) fi fl qa f) := by
  intro m
  induction m with
  | zero =>
    intro i n hi hm
    obtain ⟨n, rfl⟩ : ∃ k, n = k + 1 := ⟨n - 1, by omega⟩
    have hi6 : i = 172 := by omega
    subst hi6
    rw [f_X10_restore_16, if_pos (show (172 : Int32) ≤ nI 172 by decide)]
    simp only [R_83_0, A16, Option.bind_some]
    rw [rw2_s, if_pos (by decide)]
  | succ m ih =>
    intro i n hi hm
    obtain ⟨n, rfl⟩ : ∃ k, n = k + 1 := ⟨n - 1, by omega⟩
    have hlt : ¬ (172 : Int32) ≤ nI i := nI_ge (a := i) (b := 172) (by omega) (by decide)
    rw [f_X10_restore_16, if_neg hlt]
    simp only [R_83_0, R_83_3, Option.bind_some, An_86 (show i < 172 by omega), sAn_84 (show i < 172 by omega), u2_rw2]
    rw [rw2_n _ _ (by omega), row_step (ia (b + 86)) _ _ _ rfl, nI_1]
    exact ih (i + 1) n (by omega) (by omega)
/-- another state in the place of the present one, and so many recorded -/
theorem CR.cur {ia1 fi1 : Nat → Nat → Int32} {qa1 : Nat → Nat → Option Nat} {σ : mSt} {r : Nat} (h : CR b ia fi qa f Ω) (hs : CSt b ia1 fi1 qa1 f (b + 1) σ) (hr : r ≤ Ω.2.1) (e : ∀ a : Nat, a < b + 2 ∨ b + 4 ≤ a → ia1 a = ia a) (e2 : ∀ a j : Nat, a ≠ b + 1 ∨ j ≠ 0 → a ≠ b ∨ j ≠ 2 → fi1 a j = fi a j) (er : fi1 b 2 = nI r) (e3 : ∀ a : Nat, a ≠ b + 4 → qa1 a = qa a) : CR b ia1 fi1 qa1 f (σ, r, Ω.2.2) ∧ highE b ia fi ia1 fi1 := by
  obtain ⟨h1, ⟨ad, hA, hI, hH⟩, h3, ⟨h4, h4b⟩, ⟨h5, h5b⟩, c1, c2, c3, c4, c5⟩ := h
  refine ⟨⟨hs, ⟨ad, fun j hj => ?_, hI, fun q hq hq4 => ?_⟩, er, ⟨?_, fun τ hτ => ?_⟩, ⟨?_, fun i hi => ?_⟩, c1.cg (e _ (by omega)) (e _ (by omega)) (e2 _ _ (by omega) (by omega)), c2, c3, fun i hi => ?_, fun i hi => ?_⟩, fun a ha => ⟨e a (by omega), ?_⟩⟩
  · rw [e3 _ (by omega)]; exact hA j hj
  · obtain ⟨k, hk, ha⟩ := (hA q hq4).2
    have hq' : q < r := hq
    exact (hH q (by omega) hq4).congr (e2 _ _ (by omega) (by omega)) (e _ (by omega)) (e _ (by omega)) (e3 _ (by omega))
  · rw [e2 _ _ (by omega) (by omega)]; exact h4
  · exact (h4b τ hτ).congr (e2 _ _ (by omega) (by omega)) (e _ (by omega)) (e _ (by omega)) (e3 _ (by omega))
  · rw [e2 _ _ (by omega) (by omega)]; exact h5
  · rw [e _ (by omega)]; exact h5b i hi
  · rw [e _ (by omega)]; exact c4 i hi
  · rw [e _ (by omega)]; exact c5 i hi
  · funext j; exact e2 _ _ (by omega) (by omega)
theorem MR.cur {R : Nat → Int32} {fi1 : Nat → Nat → Int32} {σ : mSt} {r : Nat} (h : MR b ia fi Ω) (hs : MSt R σ) (hr : r ≤ Ω.2.1) (e2 : ∀ a j : Nat, a ≠ b + 83 ∨ j ≠ 2 → fi1 a j = fi a j) (er : fi1 (b + 83) 2 = nI r) : MR b (rw2 ia (b + 84) R) fi1 (σ, r, Ω.2.2) ∧ lowE b ia fi (rw2 ia (b + 84) R) fi1 := by
  obtain ⟨h1, h2, h3, ⟨h4, h4b⟩, h5, h6⟩ := h
  refine ⟨⟨?_, fun q hq => ?_, er, ⟨?_, fun τ hτ => ?_⟩, ?_, fun i hi => ?_⟩, fun a ha => ⟨rw2_n _ _ (by omega), ?_⟩⟩
  · rw [rw2_s]; exact hs
  · have hq' : q < r := hq
    rw [rw2_n _ _ (by omega)]; exact h2 q (by omega)
  · rw [e2 _ _ (by omega)]; exact h4
  · rw [rw2_n _ _ (by omega)]; exact h4b τ hτ
  · rw [e2 _ _ (by omega)]; exact h5
  · rw [rw2_n _ _ (by omega)]; exact h6 i hi
  · funext j; exact e2 _ _ (by omega)
theorem WO.cur {σ : mSt} {r : Nat} (w : WO Ω) (hs : WSt σ) (hr : r ≤ Ω.2.1) : WO (σ, r, Ω.2.2) :=
  ⟨hs, Nat.le_trans hr w.2.1, fun q hq => w.2.2.1 q (by have : q < r := hq; omega), w.2.2.2⟩
end ACT3
section METH3
variable {b : Nat} {f : mmF} {Ω : mO}
theorem t_undo (w : WO Ω) : Meth b f Ω (fun μ => f_X9_undo b μ) (fun μ => f_X10_undo (b + 83) μ) := by
  have hr4 := w.2.1
  have hb1 : isSt b (b + 1) := Or.inl rfl
  by_cases hr : Ω.2.1 = 0
  · refine ⟨-5, Ω, w, fun ia fi fl qa h => ?_, fun ia fi fl qa h => ?_⟩
    · show CRes b f ia fi (f_X9_undo b _) _ _
      have e : fi b 2 = nI Ω.2.1 := h.2.2.1
      unfold f_X9_undo
      simp only [I_0_2, Option.bind_some, e, hr]
      rw [if_pos (by decide)]
      exact CRes.same h
    · show MRes b f ia fi qa (f_X10_undo (b + 83) _) _ _
      have e : fi (b + 83) 2 = nI Ω.2.1 := h.2.2.1
      unfold f_X10_undo
      simp only [I_83_2, Option.bind_some, e, hr]
      rw [if_pos (by decide)]
      exact MRes.same h
  · obtain ⟨r, hr1⟩ : ∃ r, Ω.2.1 = r + 1 := ⟨Ω.2.1 - 1, by omega⟩
    refine ⟨nI r, (Ω.2.2.1 r, r, Ω.2.2), w.cur (w.2.2.1 r (by omega)) (by omega), fun ia fi fl qa h => ?_, fun ia fi fl qa h => ?_⟩
    · show CRes b f ia fi (f_X9_undo b _) _ _
      have e : fi b 2 = nI Ω.2.1 := h.2.2.1
      obtain ⟨ad, hA, hI, hH⟩ := h.2.1
      have hst : isSt b (ad r) := ad_St (hA r (by omega)).2
      obtain ⟨k, hk, hadr⟩ := (hA r (by omega)).2
      have hcs := hH r (by omega) (by omega)
      have e0 : ¬ nI (r + 1) ≤ (0 : Int32) := nI_ge (a := 0) (b := r + 1) (by omega) (by omega)
      have e1 : nI (r + 1) ≤ (4 : Int32) := nI_le (b := 4) (by omega) (by decide)
      have e2 : nI (r + 1) - 1 = nI r := pk_sub (a := r + 1) (b := 1) (by omega)
      unfold f_X9_undo
      simp only [I_0_2, Option.bind_some, e, hr1, if_neg e0, if_pos e1, e2, sI_0_2, R_0_0, R_0_1, u2_s, N_8 (show r < 4 by omega) (hA r (by omega)).1, S_ck hb1, tf hb1 hst (show b + 1 ≠ ad r by omega) hcs.2.out]
      rw [u2_a _ _ (by omega), u2_s]
      have hS := h.cur (ia1 := rw2 (rw2 ia (b + 1 + 1) (fun j => if j < 8 then ia (ad r + 1) j else ia (b + 1 + 1) j)) (b + 1 + 2) (fun j => if j < 8 then ia (ad r + 2) j else ia (b + 1 + 2) j)) (fi1 := u2 (u2 fi b 2 (nI r)) (b + 1) 0 (u2 fi b 2 (nI r) (ad r) 0)) (qa1 := rw2 qa (b + 1 + 3) (fun j => if j < 5 then qa (ad r + 3) j else qa (b + 1 + 3) j)) (σ := Ω.2.2.1 r) (r := r) (by
        refine hcs.copy (w.2.2.1 r (by omega)) ?_ (fun j hj => ?_) (fun j hj => ?_) (fun j hj => ?_)
        · rw [u2_s, u2_a _ _ (by omega)]
        · rw [rw2_n _ _ (by omega), rw2_s]; exact if_pos hj
        · rw [rw2_s]; exact if_pos hj
        · rw [rw2_s]; exact if_pos hj) (by omega) (fun a ha => by rw [rw2_n _ _ (by omega), rw2_n _ _ (by omega)]) (fun a j h1 h2 => by
        have x1 : u2 (u2 fi b 2 (nI r)) (b + 1) 0 (u2 fi b 2 (nI r) (ad r) 0) a j = u2 fi b 2 (nI r) a j := by
          rcases h1 with h1 | h1
          · rw [u2_a _ _ h1]
          · rw [u2_i _ _ h1]
        rw [x1]
        rcases h2 with h2 | h2
        · rw [u2_a _ _ h2]
        · rw [u2_i _ _ h2]) (by rw [u2_a _ _ (by omega), u2_s]) (fun a ha => by rw [rw2_n _ _ (by omega)])
      exact ⟨_, _, _, _, rfl, hS.1, hS.2⟩
    · show MRes b f ia fi qa (f_X10_undo (b + 83) _) _ _
      have e : fi (b + 83) 2 = nI Ω.2.1 := h.2.2.1
      obtain ⟨q, hq⟩ := FU_1000
      have e0 : ¬ nI (r + 1) = (0 : Int32) := fun e => by
        have := (nI_eq (a := r + 1) (b := 0) (by omega) (by decide)).mp e
        omega
      have e2 : nI (r + 1) - 1 = nI r := pk_sub (a := r + 1) (b := 1) (by omega)
      have hl := m_undo_22 (b := b) (ia := ia) (fi := u2 fi (b + 83) 2 (nI r)) (fl := fl) (qa := qa) (f := f) (r := r) (u2_s _ _ _ _) (by omega) 172 0 FU rfl (by omega)
      rw [row_0, rw2_id] at hl
      unfold f_X10_undo
      simp only [I_83_2, Option.bind_some, e, hr1, if_neg e0, e2, sI_83_2]
      rw [show (0 : Int32) = nI 0 from rfl, hl]
      have hS := h.cur (R := fun j => if j < 172 then ia (b + 85) (172 * r + j) else ia (b + 84) j) (fi1 := u2 fi (b + 83) 2 (nI r)) (σ := Ω.2.2.1 r) (r := r) ((h.2.1 r (by omega)).copy (w.2.2.1 r (by omega)) (fun j hj => if_pos hj)) (by omega) (fun a j h2 => by
        rcases h2 with h2 | h2
        · rw [u2_a _ _ h2]
        · rw [u2_i _ _ h2]) (u2_s _ _ _ _)
      exact ⟨_, _, _, rfl, hS.1, hS.2⟩
theorem t_restore (w : WO Ω) : Meth b f Ω (fun μ => f_X9_restore b μ) (fun μ => f_X10_restore (b + 83) μ) := by
  have hb1 : isSt b (b + 1) := Or.inl rfl
  have hb9 : isSt b (b + 9) := Or.inr (Or.inl rfl)
  cases hs : Ω.2.2.2.1 with
  | none =>
    refine ⟨-5, Ω, w, fun ia fi fl qa h => ?_, fun ia fi fl qa h => ?_⟩
    · show CRes b f ia fi (f_X9_restore b _) _ _
      have e : fi b 4 = 0 := by rw [h.2.2.2.1.1, hs]; rfl
      unfold f_X9_restore
      simp only [I_0_4, Option.bind_some, e, i00, if_true]
      exact CRes.same h
    · show MRes b f ia fi qa (f_X10_restore (b + 83) _) _ _
      have e : fi (b + 83) 4 = 0 := by rw [h.2.2.2.1.1, hs]; rfl
      unfold f_X10_restore
      simp only [I_83_4, Option.bind_some, e, i00, if_true]
      exact MRes.same h
  | some τ =>
    have wτ : WSt τ := w.2.2.2.1 τ hs
    refine ⟨nI τ.1, (τ, (recO Ω).2.1, (recO Ω).2.2), w.rec.cur wτ (Nat.le_refl _), fun ia fi fl qa h => ?_, fun ia fi fl qa h => ?_⟩
    · show CRes b f ia fi (f_X9_restore b _) _ _
      have e : fi b 4 = 1 := by rw [h.2.2.2.1.1, hs]; rfl
      obtain ⟨ia1, fi1, qa1, er, hr, hh⟩ := C_rec (fl := fl) h w
      have hcs : CSt b ia1 fi1 qa1 f (b + 9) τ := hr.2.2.2.1.2 τ hs
      unfold f_X9_restore
      simp only [I_0_4, Option.bind_some, e, i10, if_false, ck_0, er, R_0_0, R_0_3, S_ck hb1, tf hb1 hb9 (show b + 1 ≠ b + 9 by omega) hcs.2.out, S_I hb1, u2_s]
      rw [hcs.1.1]
      have hS := hr.cur (ia1 := rw2 (rw2 ia1 (b + 1 + 1) (fun j => if j < 8 then ia1 (b + 9 + 1) j else ia1 (b + 1 + 1) j)) (b + 1 + 2) (fun j => if j < 8 then ia1 (b + 9 + 2) j else ia1 (b + 1 + 2) j)) (fi1 := u2 fi1 (b + 1) 0 (nI τ.1)) (qa1 := rw2 qa1 (b + 1 + 3) (fun j => if j < 5 then qa1 (b + 9 + 3) j else qa1 (b + 1 + 3) j)) (σ := τ) (r := (recO Ω).2.1) (by
        refine hcs.copy wτ ?_ (fun j hj => ?_) (fun j hj => ?_) (fun j hj => ?_)
        · rw [u2_s, hcs.1.1]
        · rw [rw2_n _ _ (by omega), rw2_s]; exact if_pos hj
        · rw [rw2_s]; exact if_pos hj
        · rw [rw2_s]; exact if_pos hj) (Nat.le_refl _) (fun a ha => by rw [rw2_n _ _ (by omega), rw2_n _ _ (by omega)]) (fun a j h1 h2 => by
        rcases h1 with h1 | h1
        · rw [u2_a _ _ h1]
        · rw [u2_i _ _ h1]) (by rw [u2_a _ _ (by omega)]; exact hr.2.2.1) (fun a ha => by rw [rw2_n _ _ (by omega)])
      exact ⟨_, _, _, _, rfl, hS.1, hh.tr hS.2⟩
    · show MRes b f ia fi qa (f_X10_restore (b + 83) _) _ _
      have e : fi (b + 83) 4 = 1 := by rw [h.2.2.2.1.1, hs]; rfl
      obtain ⟨ia1, fi1, er, hr, hl⟩ := M_rec (fl := fl) (qa := qa) (f := f) h w
      have hcs : MSt (ia1 (b + 86)) τ := hr.2.2.2.1.2 τ hs
      obtain ⟨q, hq⟩ := FU_1000
      have hlp := m_restore_16 (b := b) (ia := ia1) (fi := fi1) (fl := fl) (qa := qa) (f := f) 172 0 FU rfl (by omega)
      rw [row_0, rw2_id] at hlp
      unfold f_X10_restore
      simp only [I_83_4, Option.bind_some, e, i10, if_false, ck_83, er]
      rw [show (0 : Int32) = nI 0 from rfl, hlp, hcs.1.1]
      have hS := hr.cur (R := fun j => if j < 172 then ia1 (b + 86) j else ia1 (b + 84) j) (fi1 := fi1) (σ := τ) (r := (recO Ω).2.1) (hcs.copy wτ (fun j hj => if_pos hj)) (Nat.le_refl _) (fun a j h2 => rfl) hr.2.2.1
      exact ⟨_, _, _, rfl, hS.1, hl.tr hS.2⟩
end METH3
