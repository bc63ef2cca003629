/-! THE REFERENCE'S SEARCH: tries -/
/-- a frame behind frame d has begun -/
def chR (b d : Nat) (fl : Nat → Nat → Int64) (qa : Nat → Nat → Option Nat) (f : mmF) (ia fi : Nat → Nat → Int32) (P : Nat) (op lf rt : Nat → Nat) (Γ : Nat → Bool) (pg : Nat) (o : Option (Int32 × mmF)) (ph x : Int32) (C : Nat → (Nat → Nat) → (Nat → Nat) → (Nat → Nat) → (Nat → Bool) → Nat → Prop) : Prop := ∃ (ia1 fi1 : Nat → Nat → Int32) (P1 : Nat) (op1 lf1 rt1 : Nat → Nat) (Γ1 : Nat → Bool) (g1 : Nat), o = some (2, wr (SK b) ia1 fi1 fl qa f) ∧ grS P op lf rt P1 op1 lf1 rt1 ∧ frS b d ia1 fi1 P1 op1 lf1 rt1 Γ pg ∧ frS b (d + 1) ia1 fi1 P1 op1 lf1 rt1 Γ1 g1 ∧ loE b d ia fi ia1 fi1 ∧ ia1 (b + 99) d = ph ∧ ia1 (b + 100) d = x ∧ C P1 op1 lf1 rt1 Γ1 g1
/-- the first branch of a nest -/
def nsA (P : Nat) (op lf rt : Nat → Nat) (Γ : Nat → Bool) (p r : Nat) : Nat → Bool := upB (upB (upB Γ p false) (lf (lf p)) true) r true
section TRIES
variable {b d : Nat} {ia fi : Nat → Nat → Int32} {fl : Nat → Nat → Int64} {qa : Nat → Nat → Option Nat} {f : mmF} {P : Nat} {op lf rt : Nat → Nat} {Γ : Nat → Bool} {pg : Nat}
theorem nI_nn {n : Nat} (h : n < 2000) : (0 : Int32) ≤ nI n := by
  rw [Int32.le_iff_toInt_le, nI_toInt (by omega)]
  exact Int.natCast_nonneg _
set_option maxHeartbeats 1000000 in
theorem tries_n {o : Nat} (h : frS b d ia fi P op lf rt Γ pg) (hd : d + 1 < 600) (hP : P + 2 ≤ 1000) (ho : o ≤ P) (h6 : ia (b + 100) d = nI o) : (f_X10_tries (b + 83) (nI d) (wr (SK b) ia fi fl qa f) = some (0, wr (SK b) ia fi fl qa f) ∧ ∀ p, o ≤ p → p < P → ¬ nxO op lf Γ 9 p) ∨ ∃ p, o ≤ p ∧ p < P ∧ nxO op lf Γ 9 p ∧ (∀ j, o ≤ j → j < p → ¬ nxO op lf Γ 9 j) ∧ chR b d fl qa f ia fi P op lf rt Γ pg (f_X10_tries (b + 83) (nI d) (wr (SK b) ia fi fl qa f)) 4 (nI (p + 1)) (fun P1 op1 lf1 rt1 Γ1 g1 => ∃ r, r < P1 ∧ impS op1 lf1 rt1 r (rt (lf p)) (rt p) ∧ Γ1 = nsA P op lf rt Γ p r ∧ g1 = rt (lf p)) := by
  obtain ⟨a1, a2, a3, a4, a5, a6⟩ := id h
  unfold f_X10_tries
  simp only [R_83_21, R_83_23, An_98 (show d < 600 by omega), An_100 (show d < 600 by omega), h6, a5, Option.bind_some]
  rw [if_pos (nI_nn (show o < 2000 by omega))]
  rcases next_t (fl := fl) (qa := qa) (f := f) a1 a3 (show d < 600 by omega) (show 9 < 10 by decide) ho with ⟨p, p1, p2, p3, p4, p5⟩ | ⟨p1, p2⟩
  · refine Or.inr ⟨p, p1, p2, p3, p4, ?_⟩
    rw [show (nI 9 : Int32) = 9 from rfl] at p5
    simp only [ck_83, p5, Option.bind_some]
    rw [if_neg (show ¬ nI p = (-5 : Int32) from fun e => by
      have h0 := nI_nn (n := p) (by omega)
      rw [e] at h0
      exact absurd h0 (by decide))]
    have hd6 : d < 600 := by omega
    simp only [R_83_22, R_83_23, sAn_99 hd6, sAn_100 hd6, Option.bind_some]
    have f1 := (h.s (a := b + 99) (x := 4) (Or.inl rfl)).s (a := b + 100) (x := nI p + 1) (Or.inr rfl)
    obtain ⟨l1, l2, l3, l4⟩ := a1.lf_lt p2 (by rw [p3.1]; decide)
    have c9 := p3.2.2 rfl
    obtain ⟨m1, m2, m3, m4⟩ := a1.lf_lt (show lf p < P by omega) (by omega)
    obtain ⟨r1, r2, r3, r4⟩ := f1.1.row p2
    obtain ⟨s1, s2, s3, s4⟩ := f1.1.row (show lf p < P by omega)
    simp only [R_83_16, R_83_17, An_94 r4, An_95 s4, r2, s3, Option.bind_some, ck_83]
    obtain ⟨ia2, e2, f2, w2⟩ := lead_s (fl := fl) (qa := qa) (f := f) f1 hd (show rt (lf p) < P by omega)
    simp only [e2, show nI d + 1 = nI (d + 1) from nI_1 d, Option.bind_some]
    obtain ⟨ia3, e3, f3, w3⟩ := lose_s (fl := fl) (qa := qa) (f := f) f2 hd p2
    obtain ⟨_, t2, t3, t4⟩ := f3.1.row (show lf p < P by omega)
    simp only [e3, R_83_16, An_94 t4, t2, Option.bind_some, ck_83]
    obtain ⟨ia4, e4, f4, w4⟩ := get_s (fl := fl) (qa := qa) (f := f) f3 hd (show lf (lf p) < P by omega)
    obtain ⟨_, _, u3, u4⟩ := f4.1.row (show lf p < P by omega)
    obtain ⟨_, _, v3, v4⟩ := f4.1.row p2
    simp only [e4, R_83_17, An_95 u4, u3, An_95 v4, v3, Option.bind_some, ck_83]
    obtain ⟨ia5, fi5, P5, op5, lf5, rt5, r, e5, q5, g5, w5⟩ := implies_u (fl := fl) (qa := qa) (f := f) f4.1 a2 (by omega) (show rt (lf p) < P by omega) (show rt p < P by omega)
    obtain ⟨g1, g2, g3, g4⟩ := g5.E
    have f5 : frS b (d + 1) ia5 fi5 P5 op5 lf5 rt5 (upB (upB Γ p false) (lf (lf p)) true) (rt (lf p)) := f4.lo q5 g1 w5.low
    simp only [e5, Option.bind_some]
    obtain ⟨ia6, e6, f6, w6⟩ := get_s (fl := fl) (qa := qa) (f := f) f5 hd g3
    simp only [e6, ck_83, Option.bind_some]
    have W : loE b (d + 1) (u2 (u2 ia (b + 99) d 4) (b + 100) d (nI p + 1)) fi ia6 fi5 := (((w2.tr w3).tr w4).tr w5.low).tr w6
    have A1 : adm P op lf rt (rt (lf p)) (rt p) := ⟨p, p2, p3.1, Or.inl ⟨by omega, rfl, rfl⟩⟩
    refine ⟨ia6, fi5, P5, op5, lf5, rt5, _, _, rfl, grS.one a1.2.2.1 q5.2.2.1 (by omega) (by omega) A1 g5, f1.lo f6.1 g1 W, f6, ((loE.s 4 (Or.inl rfl)).tr (loE.s _ (Or.inr rfl))).tr (W.le (by omega)), ?_, ?_, r, g3, g4, rfl, rfl⟩
    · rw [W.2.2.1 (b + 99) d (by omega) (by omega) (by omega), u2_a _ _ (by omega)]; exact u2_s _ _ _ _
    · rw [W.2.2.1 (b + 100) d (by omega) (by omega) (by omega), u2_s]; exact nI_1 p
  · refine Or.inl ⟨?_, p1⟩
    rw [show (nI 9 : Int32) = 9 from rfl] at p2
    simp only [ck_83, p2, Option.bind_some]
    rw [if_pos trivial]
end TRIES
