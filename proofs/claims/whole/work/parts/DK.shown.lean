/-! THE REFERENCE'S SEARCH: the whole of it, given the table's and the depth's own properties -/
def tT : Nat → Nat
  | 0 => 1
  | r + 1 => 2100 * tT r
theorem tT_eq : ∀ r, tT r = 2100 ^ r
  | 0 => rfl
  | r + 1 => by rw [tT, tT_eq r, Nat.pow_succ, Nat.mul_comm]
theorem tT_pos (r : Nat) : 1 ≤ tT r := by rw [tT_eq]; exact Nat.pow_pos (by decide)
section SHOWN
variable {b : Nat} {fl : Nat → Nat → Int64} {qa : Nat → Nat → Option Nat} {f : mmF} {TI : Nat → (Nat → Nat) → (Nat → Nat) → (Nat → Nat) → Prop} {Dp : Nat → (Nat → Nat) → (Nat → Nat) → (Nat → Nat) → Nat → (Nat → Bool) → Nat → Prop}
/-- what settles keeps at frame d -/
def jjS (TI : Nat → (Nat → Nat) → (Nat → Nat) → (Nat → Nat) → Prop) (Dp : Nat → (Nat → Nat) → (Nat → Nat) → (Nat → Nat) → Nat → (Nat → Bool) → Nat → Prop) (d : Nat) (X : Prop) (P0 : Nat) (op0 lf0 rt0 : Nat → Nat) (P : Nat) (op lf rt : Nat → Nat) (Γ : Nat → Bool) (g : Nat) : Prop := (TI P op lf rt ∧ Dp P op lf rt d Γ g) ∧ (X ↔ Prv P op lf rt Γ g) ∧ grS P0 op0 lf0 rt0 P op lf rt
theorem jjS.ok (hT : tOK TI) (hD : dOK TI Dp) (d : Nat) (X : Prop) (P0 : Nat) (op0 lf0 rt0 : Nat → Nat) : jOK (jjS TI Dp d X P0 op0 lf0 rt0) := by
  refine ⟨fun P op lf rt Γ g h => hT.1 _ _ _ _ h.1.1, fun Γ g => ?_, fun P op lf rt Γ g ho h2 hg hG h => ?_, fun P op lf rt Γ g ho h2 hg hG h9 h => ?_, fun P op lf rt Γ g p Γ1 ho h2 hg hG hp hgp hls h => ?_⟩
  · intro P op lf rt P1 op1 lf1 rt1 x y r ho ho1 hx hy ha hgr ⟨h1, ⟨h2, h3⟩, h4, h5⟩
    have a := hD.2.1 d Γ g _ _ _ _ _ _ _ _ _ _ _ ho ho1 hx hy ha hgr ⟨h1, h3⟩
    exact ⟨a.1, ⟨hT.2 _ _ _ _ _ _ _ _ _ _ _ ho ho1 hx hy ha hgr h2, a.2⟩, h4.trans (prv_ext ho hgr.1 h1.2.2 h1.2.1), h5.tr (grS.one ho ho1 hx hy ha hgr)⟩
  · exact ⟨⟨h.1.1, hD.2.2.1 _ _ _ _ _ _ _ ho h2 hg hG h.1.2⟩, h.2.1.trans (prv_l0 ho (by omega) g).symm, h.2.2⟩
  · exact ⟨⟨h.1.1, hD.2.2.2.1 _ _ _ _ _ _ _ ho h2 hg hG h9 h.1.2⟩, h.2.1.trans (prv_9 ho hg h9), h.2.2⟩
  · exact ⟨⟨h.1.1, hD.2.2.2.2.1 _ _ _ _ _ _ _ _ _ ho h2 hg hG hp hgp hls h.1.2⟩, h.2.1.trans (prv_ls ho hp hgp (hls.toR ho hp)), h.2.2⟩
theorem cT {Tr m : Nat} (h1 : 1 ≤ Tr) (h : 2100 * Tr ≤ m + 1) : 1003 * (Tr + 1) ≤ m ∧ 2 * (Tr + 1) ≤ m := ⟨by omega, by omega⟩
theorem cU {Tr m : Nat} (h : 1 ≤ Tr) : m + 1 + 1003 * (Tr + 1) ≤ m + 2100 * Tr := by omega
theorem main_t (hT : tOK TI) (hD : dOK TI Dp) : ∀ (r d : Nat), d + r = 600 → ∀ (n : Nat) (ia fi : Nat → Nat → Int32) (P : Nat) (op lf rt : Nat → Nat) (Γ : Nat → Bool) (pg : Nat), frS b d ia fi P op lf rt Γ pg → TI P op lf rt → Dp P op lf rt d Γ pg → tT r ≤ n → Ret b d fl qa f TI ia fi P op lf rt (Prv P op lf rt Γ pg) (tT r) n (f_X10_isShown_11 n (b + 83) (nI d) (nI 2) (wr (SK b) ia fi fl qa f)) := by
  intro r
  induction r with
  | zero =>
    intro d hd n ia fi P op lf rt Γ pg hF hTI hDp hn
    have := hD.1 _ _ _ _ _ _ _ hDp
    omega
  | succ r ih =>
    intro d hd n ia fi P op lf rt Γ pg hF hTI hDp hn
    have hIH : ihS b d fl qa f TI Dp (tT r) := fun n ia fi P op lf rt Γ pg h1 h2 h3 h4 => ih (d + 1) (by omega) n ia fi P op lf rt Γ pg h1 h2 h3 h4
    have hd6 : d < 600 := by omega
    have h1 := tT_pos r
    have e1 : tT (r + 1) = 2100 * tT r := rfl
    rw [e1] at hn ⊢
    generalize tT r = Tr at *
    obtain ⟨m, rfl⟩ : ∃ m, n = m + 1 := ⟨n - 1, by omega⟩
    obtain ⟨c1, c2⟩ := cT h1 hn
    obtain ⟨a1, a2, a3, a4, a5, a6⟩ := hF
    have S : stG b d (jjS TI Dp d (Prv P op lf rt Γ pg) P op lf rt) ia fi ia fi P op lf rt Γ pg := ⟨a1, a2, a3, a4, a5, a6, ⟨⟨hTI, hDp⟩, Iff.rfl, grS.rf⟩, fE.rf⟩
    obtain ⟨v, ia1, fi1, P1, op1, lf1, rt1, Γ1, pg1, e, ⟨s1, s2, s3, s4, s5, s6, s7, s8⟩, hv⟩ := settles_t (fl := fl) (qa := qa) (f := f) (jjS.ok hT hD d _ P op lf rt) hd6 S
    obtain ⟨k1, k2⟩ := new_eq m hd6 e ck_83
    have low := s8.low
    rcases hv with ⟨rfl, hv⟩ | ⟨rfl, hv⟩ | ⟨rfl, hv⟩
    · rw [k1 (by decide)]
      exact Ret.of (Ret.now (c := 0) (n := m) (r := 1) (by decide) s1 s7.1.1 (Or.inl ⟨rfl, s7.2.1.mpr hv⟩)) s7.2.2 low (by omega)
    · rw [k1 (by decide)]
      exact Ret.of (Ret.now (c := 0) (n := m) (r := 0) (by decide) s1 s7.1.1 (Or.inr ⟨rfl, fun h => hv (s7.2.1.mp h)⟩)) s7.2.2 low (by omega)
    · rw [k2 rfl]
      have F1 : frS b d ia1 fi1 P1 op1 lf1 rt1 Γ1 pg1 := ⟨s1, s2, s3, s4, s5, s6⟩
      have S1 : sfS TI Dp d Γ1 pg1 (Prv P op lf rt Γ pg) P1 op1 lf1 rt1 := ⟨⟨s2, s6, s4⟩, s7.1.1, s7.1.2, hv, s7.2.1⟩
      by_cases c7 : op1 pg1 = 7
      · exact Ret.of (frame_7 hT hD hIH F1 S1 c7 c2) s7.2.2 low (by omega)
      · by_cases c8 : ∃ p, p < P1 ∧ Γ1 p = true ∧ op1 p = 8
        · exact Ret.of (frame_8 hT hD hIH F1 S1 c7 c8 c2) s7.2.2 low (by omega)
        · exact Ret.of (frame_c hT hD hIH F1 S1 c7 (fun p h1 h2 h3 => c8 ⟨p, h1, h2, h3⟩) c1) s7.2.2 low (cU h1)
/-- isShown: whether the goal follows from what is given -/
theorem shown_t {ia fi : Nat → Nat → Int32} {P : Nat} {op lf rt : Nat → Nat} {Γ : Nat → Bool} {pg : Nat} (hT : tOK TI) (hD : dOK TI Dp) (hF : frS b 0 ia fi P op lf rt Γ pg) (hTI : TI P op lf rt) (hDp : Dp P op lf rt 0 Γ pg) : ∃ (r : Nat) (ia1 fi1 : Nat → Nat → Int32), f_X10_isShown (b + 83) (wr (SK b) ia fi fl qa f) = some (nI r, wr (SK b) ia1 fi1 fl qa f) ∧ ((r = 1 ∧ Prv P op lf rt Γ pg) ∨ (r = 0 ∧ ¬ Prv P op lf rt Γ pg)) ∧ hE b ia fi ia1 fi1 := by
  have hb : tT 600 + 1 ≤ FU := by
    rw [tT_eq]
    exact Nat.le_trans (show 2100 ^ 600 + 1 ≤ 2 ^ 7000 by decide +kernel) FU_ge
  have F1 := hF.s (a := b + 99) (x := 0) (Or.inl rfl)
  obtain ⟨q, r, ia1, fi1, P1, op1, lf1, rt1, a1, a2, a3, a4, a5, a6, a7⟩ := main_t (fl := fl) (qa := qa) (f := f) hT hD 600 0 rfl FU (u2 ia (b + 99) 0 0) fi P op lf rt Γ pg F1 hTI hDp (by omega)
  obtain ⟨q, rfl⟩ : ∃ k, q = k + 1 := ⟨q - 1, by omega⟩
  refine ⟨r, ia1, fi1, ?_, a7, ?_⟩
  · unfold f_X10_isShown
    have s := sAn_99 (b := b) (ia := ia) (fi := fi) (fl := fl) (qa := qa) (f := f) (i := 0) (x := 0) (by decide)
    rw [show (nI 0 : Int32) = 0 from rfl] at s
    simp only [R_83_22, s, Option.bind_some]
    rw [show nI 0 = (0 : Int32) from rfl, show nI 2 = (2 : Int32) from rfl] at a2
    rw [a2, f_X10_isShown_11, if_pos (show (0 : Int32) + (-1) < 0 by decide)]
    rcases a7 with ⟨rfl, _⟩ | ⟨rfl, _⟩
    · rw [if_pos (show nI 1 = (1 : Int32) from rfl)]; rfl
    · rw [if_neg (show ¬ nI 0 = (1 : Int32) by decide)]; rfl
  · refine ⟨fun a ha => ?_, fun a j ha => a6.2.2.2 a j ha⟩
    rw [a6.1 a (by omega)]
    exact u2_row _ _ (by omega)
end SHOWN
