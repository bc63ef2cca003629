/-! THE REFERENCE'S SEARCH: tries a choice, begins, goesOn -/
section BEGINS
variable {b d : Nat} {ia fi : Nat → Nat → Int32} {fl : Nat → Nat → Int64} {qa : Nat → Nat → Option Nat} {f : mmF} {P : Nat} {op lf rt : Nat → Nat} {Γ : Nat → Bool} {pg : Nat}
theorem tries_c {o x1 : Int32} (h : frS b d ia fi P op lf rt Γ pg) (hd : d + 1 < 600) (h8 : 7 ≤ op pg) (ho : (o = -2 ∧ x1 = -1) ∨ (o = -1 ∧ x1 = 0)) (h6 : ia (b + 100) d = o) : chR b d fl qa f ia fi P op lf rt Γ pg (f_X10_tries (b + 83) (nI d) (wr (SK b) ia fi fl qa f)) 3 x1 (fun P1 op1 lf1 rt1 Γ1 g1 => Γ1 = Γ ∧ g1 = if o = -2 then lf pg else rt pg) := by
  obtain ⟨a1, a2, a3, a4, a5, a6⟩ := id h
  have hd6 : d < 600 := by omega
  have hP := a1.1
  unfold f_X10_tries
  simp only [R_83_21, R_83_23, An_98 hd6, An_100 hd6, h6, a5, Option.bind_some]
  rw [if_neg (show ¬ (0 : Int32) ≤ o by rcases ho with ⟨rfl, _⟩ | ⟨rfl, _⟩ <;> decide)]
  simp only [R_83_22, sAn_99 hd6, Option.bind_some]
  have f1 := h.s (a := b + 99) (x := 3) (Or.inl rfl)
  have e6 : u2 ia (b + 99) d 3 (b + 100) d = o := by rw [u2_a _ _ (by omega)]; exact h6
  obtain ⟨l1, l2, l3, l4⟩ := a1.lf_lt a6 h8
  obtain ⟨r1, r2, r3, r4⟩ := f1.1.row a6
  simp only [R_83_23, An_100 hd6, e6, Option.bind_some]
  have fin : ∀ x, x < P → chR b d fl qa f ia fi P op lf rt Γ pg (f_X10_tries_51 (b + 83) (nI d) (b + 83) (nI d) (nI x) (wr (SK b) (u2 ia (b + 99) d 3) fi fl qa f)) 3 x1 (fun P1 op1 lf1 rt1 Γ1 g1 => Γ1 = Γ ∧ g1 = x) := by
    intro x hx
    unfold f_X10_tries_51
    obtain ⟨ia2, e2, f2, w2⟩ := lead_s (fl := fl) (qa := qa) (f := f) f1 hd hx
    have e7 : ia2 (b + 100) d = o := by rw [w2.2.2.1 (b + 100) d (by omega) (by omega) (by omega)]; exact e6
    have eo : o + 1 = x1 := by rcases ho with ⟨rfl, rfl⟩ | ⟨rfl, rfl⟩ <;> rfl
    simp only [ck_83, e2, R_83_23, An_100 hd6, sAn_100 hd6, e7, eo, Option.bind_some]
    have F := (f1.lo f2.1 REx.rf w2).s (a := b + 100) (x := x1) (Or.inr rfl)
    have G : frS b (d + 1) (u2 ia2 (b + 100) d x1) fi P op lf rt Γ x := by
      obtain ⟨b1, b2, b3, b4, b5, b6⟩ := f2
      refine ⟨F.1, b2, b3.cg (fun w _ => u2_a _ _ (by omega)), b4, ?_, b6⟩
      rw [u2_a _ _ (by omega)]; exact b5
    refine ⟨_, fi, P, op, lf, rt, Γ, x, rfl, grS.rf, F, G, ((loE.s 3 (Or.inl rfl)).tr (w2.le (by omega))).tr (loE.s _ (Or.inr rfl)), ?_, u2_s _ _ _ _, rfl, rfl⟩
    rw [u2_a _ _ (by omega), w2.2.2.1 (b + 99) d (by omega) (by omega) (by omega)]
    exact u2_s _ _ _ _
  rcases ho with ⟨rfl, rfl⟩ | ⟨rfl, rfl⟩
  · rw [if_pos rfl]
    simp only [R_83_16, An_94 r4, r2, Option.bind_some]
    exact fin (lf pg) (by omega)
  · rw [if_neg (by decide)]
    simp only [R_83_17, An_95 r4, r3, Option.bind_some]
    rw [if_neg (by decide)]
    exact fin (rt pg) (by omega)
/-- a given part replaced by another one, in the frame behind -/
theorem case_s {p x : Nat} (h : frS b d ia fi P op lf rt Γ pg) (hd : d + 1 < 600) (hp : p < P) (hx : x < P) : ∃ ia1 : Nat → Nat → Int32, (((f_X10_leadsOn (b + 83) (nI d) (nI pg) (wr (SK b) ia fi fl qa f)).bind fun q => (f_X10_loses (b + 83) (nI d + 1) (nI p) q).bind fun q1 => f_X10_gets (b + 83) (nI d + 1) (nI x) q1) = some (wr (SK b) ia1 fi fl qa f)) ∧ (∃ ia2 ia3 : Nat → Nat → Int32, f_X10_leadsOn (b + 83) (nI d) (nI pg) (wr (SK b) ia fi fl qa f) = some (wr (SK b) ia2 fi fl qa f) ∧ f_X10_loses (b + 83) (nI d + 1) (nI p) (wr (SK b) ia2 fi fl qa f) = some (wr (SK b) ia3 fi fl qa f) ∧ f_X10_gets (b + 83) (nI d + 1) (nI x) (wr (SK b) ia3 fi fl qa f) = some (wr (SK b) ia1 fi fl qa f) ∧ loE b (d + 1) ia fi ia2 fi ∧ loE b (d + 1) ia fi ia3 fi ∧ RP b ia2 fi P op lf rt ∧ RP b ia3 fi P op lf rt) ∧ frS b (d + 1) ia1 fi P op lf rt (upB (upB Γ p false) x true) pg ∧ loE b (d + 1) ia fi ia1 fi := by
  obtain ⟨ia2, e2, f2, w2⟩ := lead_s (fl := fl) (qa := qa) (f := f) h hd h.2.2.2.2.2
  obtain ⟨ia3, e3, f3, w3⟩ := lose_s (fl := fl) (qa := qa) (f := f) f2 hd hp
  obtain ⟨ia4, e4, f4, w4⟩ := get_s (fl := fl) (qa := qa) (f := f) f3 hd hx
  rw [show nI (d + 1) = nI d + 1 from (nI_1 d).symm] at e3 e4
  refine ⟨ia4, ?_, ⟨ia2, ia3, e2, e3, e4, w2, w2.tr w3, f2.1, f3.1⟩, f4, (w2.tr w3).tr w4⟩
  simp only [e2, e3, e4, Option.bind_some]
set_option maxHeartbeats 1000000 in
theorem begins_t (h : frS b d ia fi P op lf rt Γ pg) (hd : d + 1 < 600) : (op pg = 7 ∧ chR b d fl qa f ia fi P op lf rt Γ pg (f_X10_begins (b + 83) (nI d) (wr (SK b) ia fi fl qa f)) 1 (ia (b + 100) d) (fun P1 op1 lf1 rt1 Γ1 g1 => Γ1 = Γ ∧ g1 = lf pg)) ∨ (op pg ≠ 7 ∧ ∃ p, p < P ∧ nxO op lf Γ 8 p ∧ chR b d fl qa f ia fi P op lf rt Γ pg (f_X10_begins (b + 83) (nI d) (wr (SK b) ia fi fl qa f)) 2 (nI p) (fun P1 op1 lf1 rt1 Γ1 g1 => Γ1 = upB (upB Γ p false) (lf p) true ∧ g1 = pg)) ∨ (op pg ≠ 7 ∧ (∀ p, 2 ≤ p → p < P → ¬ nxO op lf Γ 8 p) ∧ ∃ x : Int32, ((op pg = 8 ∧ x = -2) ∨ (op pg ≠ 8 ∧ x = 0)) ∧ f_X10_begins (b + 83) (nI d) (wr (SK b) ia fi fl qa f) = (f_X10_tries (b + 83) (nI d) (wr (SK b) (u2 ia (b + 100) d x) fi fl qa f)).bind fun q => some (q.1, q.2)) := by
  obtain ⟨a1, a2, a3, a4, a5, a6⟩ := id h
  have hd6 : d < 600 := by omega
  have hP := a1.1
  have eq : ∀ u v : Nat, u < 1000 → v < 1000 → (nI u = nI v) = (u = v) := fun u v hu hv => propext (nI_eq (by omega) (by omega))
  obtain ⟨r1, r2, r3, r4⟩ := a1.row a6
  have hop := a1.op_lt a6
  unfold f_X10_begins
  simp only [R_83_21, R_83_15, An_98 hd6, a5, An_93 r4, r1, Option.bind_some, show (7 : Int32) = nI 7 from rfl, show (8 : Int32) = nI 8 from rfl, eq (op pg) 7 (by omega) (by decide), eq (op pg) 8 (by omega) (by decide)]
  by_cases c7 : op pg = 7
  · refine Or.inl ⟨c7, ?_⟩
    rw [if_pos c7]
    obtain ⟨l1, l2, l3, l4⟩ := a1.lf_lt a6 (by omega)
    have f1 := h.s (a := b + 99) (x := 1) (Or.inl rfl)
    obtain ⟨s1, s2, s3, s4⟩ := f1.1.row a6
    obtain ⟨ia2, e2, f2, w2⟩ := lead_s (fl := fl) (qa := qa) (f := f) f1 hd (show lf pg < P by omega)
    simp only [R_83_22, sAn_99 hd6, R_83_16, An_94 s4, s2, ck_83, e2, Option.bind_some]
    refine ⟨ia2, fi, P, op, lf, rt, Γ, _, rfl, grS.rf, f1.lo f2.1 REx.rf w2, f2, (loE.s 1 (Or.inl rfl)).tr (w2.le (by omega)), ?_, ?_, rfl, rfl⟩
    · rw [w2.2.2.1 (b + 99) d (by omega) (by omega) (by omega)]; exact u2_s _ _ _ _
    · rw [w2.2.2.1 (b + 100) d (by omega) (by omega) (by omega)]; exact u2_a _ _ (by omega)
  refine Or.inr ?_
  rw [if_neg c7]
  rcases next_t (fl := fl) (qa := qa) (f := f) a1 a3 hd6 (show 8 < 10 by decide) a2 with ⟨p, p1, p2, p3, p4, p5⟩ | ⟨p1, p2⟩
  · refine Or.inl ⟨c7, p, p2, p3, ?_⟩
    rw [show (nI 2 : Int32) = 2 from rfl] at p5
    simp only [ck_83, p5, Option.bind_some]
    rw [if_neg (show ¬ nI p = (-5 : Int32) from fun e => by
      have h0 := nI_nn (n := p) (by omega)
      rw [e] at h0
      exact absurd h0 (by decide))]
    obtain ⟨l1, l2, l3, l4⟩ := a1.lf_lt p2 (by rw [p3.1]; decide)
    have f1 := (h.s (a := b + 99) (x := 2) (Or.inl rfl)).s (a := b + 100) (x := nI p) (Or.inr rfl)
    obtain ⟨ia1, _, ⟨ia2, ia3, e2, e3, e4, w2, w3, q2, q3⟩, f4, w4⟩ := case_s (fl := fl) (qa := qa) (f := f) f1 hd p2 (show lf p < P by omega)
    obtain ⟨s1, s2, s3, s4⟩ := q3.row p2
    simp only [R_83_22, R_83_23, sAn_99 hd6, sAn_100 hd6, e2, e3, R_83_16, An_94 s4, s2, e4, ck_83, Option.bind_some]
    refine ⟨ia1, fi, P, op, lf, rt, _, _, rfl, grS.rf, f1.lo f4.1 REx.rf w4, f4, ((loE.s 2 (Or.inl rfl)).tr (loE.s _ (Or.inr rfl))).tr (w4.le (by omega)), ?_, ?_, rfl, rfl⟩
    · rw [w4.2.2.1 (b + 99) d (by omega) (by omega) (by omega), u2_a _ _ (by omega)]; exact u2_s _ _ _ _
    · rw [w4.2.2.1 (b + 100) d (by omega) (by omega) (by omega)]; exact u2_s _ _ _ _
  · refine Or.inr ⟨c7, p1, ?_⟩
    rw [show (nI 2 : Int32) = 2 from rfl] at p2
    simp only [ck_83, p2, Option.bind_some]
    rw [if_pos trivial]
    simp only [R_83_23, R_83_15, An_93 r4, r1, Option.bind_some, eq (op pg) 8 (by omega) (by decide)]
    by_cases c8 : op pg = 8
    · rw [if_pos c8]
      refine ⟨-2, Or.inl ⟨c8, rfl⟩, ?_⟩
      unfold f_X10_begins_118
      simp only [sAn_100 hd6, ck_83, Option.bind_some]
    · rw [if_neg c8]
      refine ⟨0, Or.inr ⟨c8, rfl⟩, ?_⟩
      unfold f_X10_begins_118
      simp only [sAn_100 hd6, ck_83, Option.bind_some]
end BEGINS
