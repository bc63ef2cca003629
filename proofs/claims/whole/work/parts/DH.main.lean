/-! THE REFERENCE'S SEARCH: a frame, given those behind it -/
section MAIN1
variable {b d : Nat} {ia fi : Nat → Nat → Int32} {fl : Nat → Nat → Int64} {qa : Nat → Nat → Option Nat} {f : mmF} {P : Nat} {op lf rt : Nat → Nat} {Γ : Nat → Bool} {pg : Nat} {TI : Nat → (Nat → Nat) → (Nat → Nat) → (Nat → Nat) → Prop} {Dp : Nat → (Nat → Nat) → (Nat → Nat) → (Nat → Nat) → Nat → (Nat → Bool) → Nat → Prop} {X : Prop} {Tr : Nat}
/-- what is known of the frames behind frame d -/
def ihS (b d : Nat) (fl : Nat → Nat → Int64) (qa : Nat → Nat → Option Nat) (f : mmF) (TI : Nat → (Nat → Nat) → (Nat → Nat) → (Nat → Nat) → Prop) (Dp : Nat → (Nat → Nat) → (Nat → Nat) → (Nat → Nat) → Nat → (Nat → Bool) → Nat → Prop) (Tr : Nat) : Prop := ∀ (n : Nat) (ia fi : Nat → Nat → Int32) (P : Nat) (op lf rt : Nat → Nat) (Γ : Nat → Bool) (pg : Nat), frS b (d + 1) ia fi P op lf rt Γ pg → TI P op lf rt → Dp P op lf rt (d + 1) Γ pg → Tr ≤ n → Ret b (d + 1) fl qa f TI ia fi P op lf rt (Prv P op lf rt Γ pg) Tr n (f_X10_isShown_11 n (b + 83) (nI (d + 1)) (nI 2) (wr (SK b) ia fi fl qa f))
theorem nI_m1 (d : Nat) : nI (d + 1) + (-1) = nI d := by
  rw [← nI_1 d, show (-1 : Int32) = -(1 : Int32) from rfl, ← Int32.sub_eq_add_neg]
  exact Int32.add_sub_cancel _ _
theorem grS.ti {P1 : Nat} {op1 lf1 rt1 : Nat → Nat} (h : grS P op lf rt P1 op1 lf1 rt1) (hT : tOK TI) (h0 : TI P op lf rt) : TI P1 op1 lf1 rt1 := h _ hT.2 h0
theorem child_t {n : Nat} {o : Option (Int32 × mmF)} {ph x : Int32} {C : Nat → (Nat → Nat) → (Nat → Nat) → (Nat → Nat) → (Nat → Bool) → Nat → Prop} (hT : tOK TI) (hIH : ihS b d fl qa f TI Dp Tr) (hch : chR b d fl qa f ia fi P op lf rt Γ pg o ph x C) (hTI : TI P op lf rt) (hn : Tr ≤ n) (hDp : ∀ (P1 : Nat) (op1 lf1 rt1 : Nat → Nat) (Γ1 : Nat → Bool) (g1 : Nat), grS P op lf rt P1 op1 lf1 rt1 → RPo P1 op1 lf1 rt1 → TI P1 op1 lf1 rt1 → C P1 op1 lf1 rt1 Γ1 g1 → Dp P1 op1 lf1 rt1 (d + 1) Γ1 g1) :
    ∃ (q v : Nat) (ia2 fi2 : Nat → Nat → Int32) (P2 : Nat) (op2 lf2 rt2 : Nat → Nat) (P1 : Nat) (op1 lf1 rt1 : Nat → Nat) (Γ1 : Nat → Bool) (g1 : Nat), n ≤ q + Tr ∧ v < 2 ∧ aft n (b + 83) (nI d) o = f_X10_isShown_11 q (b + 83) (nI d) (nI v) (wr (SK b) ia2 fi2 fl qa f) ∧ frS b d ia2 fi2 P2 op2 lf2 rt2 Γ pg ∧ grS P op lf rt P1 op1 lf1 rt1 ∧ grS P1 op1 lf1 rt1 P2 op2 lf2 rt2 ∧ RPo P1 op1 lf1 rt1 ∧ TI P2 op2 lf2 rt2 ∧ loE b d ia fi ia2 fi2 ∧ (ia2 (b + 99) d = ph ∧ ia2 (b + 100) d = x) ∧ (inP P1 Γ1 ∧ g1 < P1) ∧ C P1 op1 lf1 rt1 Γ1 g1 ∧ ((v = 1 ∧ Prv P1 op1 lf1 rt1 Γ1 g1) ∨ (v = 0 ∧ ¬ Prv P1 op1 lf1 rt1 Γ1 g1)) := by
  obtain ⟨ia1, fi1, P1, op1, lf1, rt1, Γ1, g1, e, h1, h2, h3, h4, h5, h6, h7⟩ := hch
  have t1 := h1.ti hT hTI
  obtain ⟨q, v, ia2, fi2, P2, op2, lf2, rt2, a1, a2, a3, a4, a5, a6, a7⟩ := hIH n ia1 fi1 P1 op1 lf1 rt1 Γ1 g1 h3 t1 (hDp _ _ _ _ _ _ h1 h3.1.2.2.1 t1 h7) hn
  rw [nI_m1] at a2
  refine ⟨q, v, ia2, fi2, P2, op2, lf2, rt2, P1, op1, lf1, rt1, Γ1, g1, a1, by rcases a7 with h | h <;> omega, ?_, h2.lo a3 a4.ex a6, h1, a4, h3.1.2.2.1, a5, h4.tr (a6.le (by omega)), ⟨?_, ?_⟩, ⟨h3.2.2.2.1, h3.2.2.2.2.2⟩, h7, a7⟩
  · rw [e, aft_2, show nI d + 1 = nI (d + 1) from nI_1 d]
    exact a2
  · rw [a6.2.2.1 (b + 99) d (by omega) (by omega) (by omega)]; exact h5
  · rw [a6.2.2.1 (b + 100) d (by omega) (by omega) (by omega)]; exact h6
/-- the last frame behind it -/
theorem last_t {n : Nat} {o : Option (Int32 × mmF)} {x : Int32} {C : Nat → (Nat → Nat) → (Nat → Nat) → (Nat → Nat) → (Nat → Bool) → Nat → Prop} (hT : tOK TI) (hd : d < 600) (hIH : ihS b d fl qa f TI Dp Tr) (hch : chR b d fl qa f ia fi P op lf rt Γ pg o 5 x C) (hTI : TI P op lf rt) (hn : Tr + 1 ≤ n) (hDp : ∀ (P1 : Nat) (op1 lf1 rt1 : Nat → Nat) (Γ1 : Nat → Bool) (g1 : Nat), grS P op lf rt P1 op1 lf1 rt1 → RPo P1 op1 lf1 rt1 → TI P1 op1 lf1 rt1 → C P1 op1 lf1 rt1 Γ1 g1 → Dp P1 op1 lf1 rt1 (d + 1) Γ1 g1 ∧ (X ↔ Prv P1 op1 lf1 rt1 Γ1 g1)) : Ret b d fl qa f TI ia fi P op lf rt X (Tr + 1) n (aft n (b + 83) (nI d) o) := by
  obtain ⟨q, v, ia2, fi2, P2, op2, lf2, rt2, P1, op1, lf1, rt1, Γ1, g1, a1, a2, a3, a4, a5, a6, a7, a8, a9, ⟨a10, a11⟩, a12, a13, a14⟩ := child_t hT hIH hch hTI (show Tr ≤ n by omega) (fun P1 op1 lf1 rt1 Γ1 g1 h1 h2 h3 h4 => (hDp P1 op1 lf1 rt1 Γ1 g1 h1 h2 h3 h4).1)
  obtain ⟨q, rfl⟩ : ∃ k, q = k + 1 := ⟨q - 1, by omega⟩
  have hX := (hDp P1 op1 lf1 rt1 Γ1 g1 a5 a7 (a5.ti hT hTI) a13).2
  rw [a3, go_eq q a2 hd, goes_5 a4 hd a10]
  have hv : (v = 1 ∧ X) ∨ (v = 0 ∧ ¬ X) := a14.imp (fun h => ⟨h.1, hX.mpr h.2⟩) (fun h => ⟨h.1, fun y => h.2 (hX.mp y)⟩)
  exact Ret.of (Ret.now (c := 0) (n := q) a2 a4.1 a8 hv) (a5.tr a6) a9 (by omega)
theorem tries_z {o : Nat} (h : frS b d ia fi P op lf rt Γ pg) (hd : d < 600) (ho : o ≤ P) (h6 : ia (b + 100) d = nI o) (hn : ∀ p, o ≤ p → p < P → ¬ nxO op lf Γ 9 p) : f_X10_tries (b + 83) (nI d) (wr (SK b) ia fi fl qa f) = some (nI 0, wr (SK b) ia fi fl qa f) := by
  obtain ⟨a1, a2, a3, a4, a5, a6⟩ := id h
  have hP := a1.1
  unfold f_X10_tries
  simp only [R_83_21, R_83_23, An_98 hd, An_100 hd, h6, a5, Option.bind_some]
  rw [if_pos (nI_nn (show o < 2000 by omega))]
  rcases next_t (fl := fl) (qa := qa) (f := f) a1 a3 hd (show 9 < 10 by decide) ho with ⟨p, p1, p2, p3, p4, p5⟩ | ⟨p1, p2⟩
  · exact absurd p3 (hn p p1 p2)
  · rw [show (nI 9 : Int32) = 9 from rfl] at p2
    simp only [ck_83, p2, Option.bind_some]
    rw [if_pos trivial]
    rfl
theorem begins_z (h : frS b d ia fi P op lf rt Γ pg) (hd : d < 600) (h7 : op pg ≠ 7) (h8 : ∀ p, p < P → Γ p = true → op p ≠ 8) : ∃ x : Int32, ((op pg = 8 ∧ x = -2) ∨ (op pg ≠ 8 ∧ x = 0)) ∧ f_X10_begins (b + 83) (nI d) (wr (SK b) ia fi fl qa f) = f_X10_tries (b + 83) (nI d) (wr (SK b) (u2 ia (b + 100) d x) fi fl qa f) := by
  obtain ⟨a1, a2, a3, a4, a5, a6⟩ := id h
  have hP := a1.1
  have eq : ∀ u v : Nat, u < 1000 → v < 1000 → (nI u = nI v) = (u = v) := fun u v hu hv => propext (nI_eq (by omega) (by omega))
  obtain ⟨r1, r2, r3, r4⟩ := a1.row a6
  have hop := a1.op_lt a6
  unfold f_X10_begins
  simp only [R_83_21, R_83_15, An_98 hd, a5, An_93 r4, r1, Option.bind_some, show (7 : Int32) = nI 7 from rfl, show (8 : Int32) = nI 8 from rfl, eq (op pg) 7 (by omega) (by decide), eq (op pg) 8 (by omega) (by decide)]
  rw [if_neg h7]
  rcases next_t (fl := fl) (qa := qa) (f := f) a1 a3 hd (show 8 < 10 by decide) a2 with ⟨p, p1, p2, p3, p4, p5⟩ | ⟨p1, p2⟩
  · exact absurd p3.1 (h8 p p2 p3.2.1)
  · rw [show (nI 2 : Int32) = 2 from rfl] at p2
    simp only [ck_83, p2, Option.bind_some]
    rw [if_pos trivial]
    simp only [R_83_23, R_83_15, An_93 r4, r1, Option.bind_some, eq (op pg) 8 (by omega) (by decide)]
    by_cases c8 : op pg = 8
    · rw [if_pos c8]
      refine ⟨-2, Or.inl ⟨c8, rfl⟩, ?_⟩
      unfold f_X10_begins_118
      simp only [sAn_100 hd, ck_83, Option.bind_some]
      exact bind_eta _
    · rw [if_neg c8]
      refine ⟨0, Or.inr ⟨c8, rfl⟩, ?_⟩
      unfold f_X10_begins_118
      simp only [sAn_100 hd, ck_83, Option.bind_some]
      exact bind_eta _
end MAIN1
