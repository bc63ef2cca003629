/-! THE REFERENCE'S SEARCH: goesOn -/
section GOESON
variable {b d : Nat} {ia fi : Nat → Nat → Int32} {fl : Nat → Nat → Int64} {qa : Nat → Nat → Option Nat} {f : mmF} {P : Nat} {op lf rt : Nat → Nat} {Γ : Nat → Bool} {pg : Nat}
theorem goes_5 {v : Int32} (h : frS b d ia fi P op lf rt Γ pg) (hd : d < 600) (h5 : ia (b + 99) d = 5) : f_X10_goesOn (b + 83) (nI d) v (wr (SK b) ia fi fl qa f) = some (v, wr (SK b) ia fi fl qa f) := by
  unfold f_X10_goesOn
  simp only [R_83_21, R_83_22, An_98 hd, An_99 hd, h5, Option.bind_some]
  rw [if_pos trivial]
theorem goes_3 (h : frS b d ia fi P op lf rt Γ pg) (hd : d < 600) (h5 : ia (b + 99) d = 3) : f_X10_goesOn (b + 83) (nI d) 1 (wr (SK b) ia fi fl qa f) = some (1, wr (SK b) ia fi fl qa f) ∧ f_X10_goesOn (b + 83) (nI d) 0 (wr (SK b) ia fi fl qa f) = (f_X10_tries (b + 83) (nI d) (wr (SK b) ia fi fl qa f)).bind fun q => some (q.1, q.2) := by
  constructor
  · unfold f_X10_goesOn
    simp only [R_83_21, R_83_22, An_98 hd, An_99 hd, h5, Option.bind_some]
    rw [if_neg (by decide), if_pos trivial, if_pos trivial]
  · unfold f_X10_goesOn
    simp only [R_83_21, R_83_22, An_98 hd, An_99 hd, h5, Option.bind_some, ck_83]
    rw [if_neg (by decide), if_pos trivial, if_neg (by decide)]
theorem goes_40 (h : frS b d ia fi P op lf rt Γ pg) (hd : d < 600) (h5 : ia (b + 99) d = 4) : f_X10_goesOn (b + 83) (nI d) 0 (wr (SK b) ia fi fl qa f) = (f_X10_tries (b + 83) (nI d) (wr (SK b) ia fi fl qa f)).bind fun q => some (q.1, q.2) := by
  unfold f_X10_goesOn
  simp only [R_83_21, R_83_22, An_98 hd, An_99 hd, h5, Option.bind_some, ck_83]
  rw [if_neg (by decide), if_neg (by decide), if_pos trivial, if_pos trivial]
theorem goes_0 {x : Int32} (h : frS b d ia fi P op lf rt Γ pg) (hd : d < 600) (h5 : ia (b + 99) d = x) (hx : x = 1 ∨ x = 2) : f_X10_goesOn (b + 83) (nI d) 0 (wr (SK b) ia fi fl qa f) = some (0, wr (SK b) ia fi fl qa f) := by
  unfold f_X10_goesOn
  simp only [R_83_21, R_83_22, An_98 hd, An_99 hd, h5, Option.bind_some, ck_83]
  rcases hx with rfl | rfl
  · rw [if_neg (by decide), if_neg (by decide), if_pos trivial, if_neg (by decide)]
  · rw [if_neg (by decide), if_neg (by decide), if_pos trivial, if_neg (by decide)]
/-- the last frame behind it -/
theorem goes_181 {ia1 : Nat → Nat → Int32} {Γ1 : Nat → Bool} {g1 : Nat} (h : frS b d ia fi P op lf rt Γ pg) (hd : d + 1 < 600) (f1 : frS b (d + 1) ia1 fi P op lf rt Γ1 g1) (w : loE b (d + 1) ia fi ia1 fi) : chR b d fl qa f ia fi P op lf rt Γ pg (f_X10_goesOn_181 (b + 83) (nI d) (wr (SK b) ia1 fi fl qa f)) 5 (ia (b + 100) d) (fun P1 op1 lf1 rt1 Γ2 g2 => Γ2 = Γ1 ∧ g2 = g1) := by
  have hd6 : d < 600 := by omega
  unfold f_X10_goesOn_181
  simp only [R_83_22, sAn_99 hd6, Option.bind_some]
  have F := (h.lo f1.1 REx.rf w).s (a := b + 99) (x := 5) (Or.inl rfl)
  have G : frS b (d + 1) (u2 ia1 (b + 99) d 5) fi P op lf rt Γ1 g1 := by
    obtain ⟨b1, b2, b3, b4, b5, b6⟩ := f1
    refine ⟨F.1, b2, b3.cg (fun w _ => u2_a _ _ (by omega)), b4, ?_, b6⟩
    rw [u2_a _ _ (by omega)]; exact b5
  refine ⟨_, fi, P, op, lf, rt, _, _, rfl, grS.rf, F, G, (w.le (by omega)).tr (loE.s _ (Or.inl rfl)), u2_s _ _ _ _, ?_, rfl, rfl⟩
  rw [u2_a _ _ (by omega), w.2.2.1 (b + 100) d (by omega) (by omega) (by omega)]
theorem goes_1 (h : frS b d ia fi P op lf rt Γ pg) (hd : d + 1 < 600) (h7 : op pg = 7) (h5 : ia (b + 99) d = 1) : chR b d fl qa f ia fi P op lf rt Γ pg (f_X10_goesOn (b + 83) (nI d) 1 (wr (SK b) ia fi fl qa f)) 5 (ia (b + 100) d) (fun P1 op1 lf1 rt1 Γ1 g1 => Γ1 = Γ ∧ g1 = rt pg) := by
  obtain ⟨a1, a2, a3, a4, a5, a6⟩ := id h
  have hd6 : d < 600 := by omega
  obtain ⟨r1, r2, r3, r4⟩ := a1.row a6
  obtain ⟨l1, l2, l3, l4⟩ := a1.lf_lt a6 (by omega)
  obtain ⟨ia2, e2, f2, w2⟩ := lead_s (fl := fl) (qa := qa) (f := f) h hd (show rt pg < P by omega)
  unfold f_X10_goesOn
  simp only [R_83_21, R_83_22, An_98 hd6, An_99 hd6, h5, a5, Option.bind_some, ck_83]
  rw [if_neg (by decide), if_neg (by decide), if_neg (by decide), if_pos trivial]
  simp only [R_83_17, An_95 r4, r3, ck_83, e2, Option.bind_some]
  exact goes_181 h hd f2 w2
theorem goes_2 {p : Nat} (h : frS b d ia fi P op lf rt Γ pg) (hd : d + 1 < 600) (hp : p < P) (h7 : 7 ≤ op p) (h5 : ia (b + 99) d = 2) (h6 : ia (b + 100) d = nI p) : chR b d fl qa f ia fi P op lf rt Γ pg (f_X10_goesOn (b + 83) (nI d) 1 (wr (SK b) ia fi fl qa f)) 5 (ia (b + 100) d) (fun P1 op1 lf1 rt1 Γ1 g1 => Γ1 = upB (upB Γ p false) (rt p) true ∧ g1 = pg) := by
  obtain ⟨a1, a2, a3, a4, a5, a6⟩ := id h
  have hd6 : d < 600 := by omega
  obtain ⟨l1, l2, l3, l4⟩ := a1.lf_lt hp h7
  obtain ⟨ia1, _, ⟨ia2, ia3, e2, e3, e4, w2, w3, q2, q3⟩, f4, w4⟩ := case_s (fl := fl) (qa := qa) (f := f) h hd hp (show rt p < P by omega)
  have o2 : ia2 (b + 100) d = nI p := by rw [w2.2.2.1 (b + 100) d (by omega) (by omega) (by omega)]; exact h6
  have o3 : ia3 (b + 100) d = nI p := by rw [w3.2.2.1 (b + 100) d (by omega) (by omega) (by omega)]; exact h6
  obtain ⟨r1, r2, r3, r4⟩ := q3.row hp
  unfold f_X10_goesOn
  simp only [R_83_21, R_83_22, An_98 hd6, An_99 hd6, h5, a5, Option.bind_some, ck_83]
  rw [if_neg (by decide), if_neg (by decide), if_neg (by decide), if_neg (by decide), if_pos trivial]
  simp only [e2, R_83_23, An_100 hd6, o2, e3, R_83_17, o3, An_95 r4, r3, e4, ck_83, Option.bind_some]
  exact goes_181 h hd f4 w4
theorem goes_41 {p : Nat} (h : frS b d ia fi P op lf rt Γ pg) (hd : d + 1 < 600) (hp : p < P) (h7 : 7 ≤ op p) (h5 : ia (b + 99) d = 4) (h6 : ia (b + 100) d = nI (p + 1)) : chR b d fl qa f ia fi P op lf rt Γ pg (f_X10_goesOn (b + 83) (nI d) 1 (wr (SK b) ia fi fl qa f)) 5 (ia (b + 100) d) (fun P1 op1 lf1 rt1 Γ1 g1 => Γ1 = upB (upB Γ p false) (rt p) true ∧ g1 = pg) := by
  obtain ⟨a1, a2, a3, a4, a5, a6⟩ := id h
  have hd6 : d < 600 := by omega
  obtain ⟨l1, l2, l3, l4⟩ := a1.lf_lt hp h7
  obtain ⟨ia1, _, ⟨ia2, ia3, e2, e3, e4, w2, w3, q2, q3⟩, f4, w4⟩ := case_s (fl := fl) (qa := qa) (f := f) h hd hp (show rt p < P by omega)
  obtain ⟨r1, r2, r3, r4⟩ := q3.row hp
  have ep : nI (p + 1) - 1 = nI p := by
    rw [← nI_1 p]
    exact Int32.add_sub_cancel _ _
  unfold f_X10_goesOn
  simp only [R_83_21, R_83_22, An_98 hd6, An_99 hd6, h5, a5, Option.bind_some, ck_83]
  rw [if_neg (by decide), if_neg (by decide), if_neg (by decide), if_neg (by decide), if_neg (by decide)]
  simp only [R_83_23, An_100 hd6, h6, ep, e2, e3, R_83_17, An_95 r4, r3, e4, ck_83, Option.bind_some]
  have e := goes_181 (fl := fl) (qa := qa) (f := f) h hd f4 w4
  rw [h6] at e
  exact e
end GOESON
