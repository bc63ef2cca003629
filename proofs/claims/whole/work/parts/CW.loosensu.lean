/-! THE REFERENCE'S SEARCH: loosens, with how the table grows -/
section LOOS3
variable {b : Nat} {ia fi : Nat → Nat → Int32} {fl : Nat → Nat → Int64} {qa : Nat → Nat → Option Nat} {f : mmF} {op lf rt : Nat → Nat} {P : Nat} {Γ : Nat → Bool}
theorem gr1.E {P1 x y r : Nat} {op1 lf1 rt1 : Nat → Nat} (h : gr1 P op lf rt P1 op1 lf1 rt1 x y r) : REx P op lf rt P1 op1 lf1 rt1 ∧ P1 ≤ P + 1 ∧ r < P1 ∧ impS op1 lf1 rt1 r x y := ⟨h.1, by rcases h.2.2.2 with h | h <;> omega, h.2.1, h.2.2.1⟩
set_option maxHeartbeats 1000000 in
theorem loosens_u {d p : Nat} (hr : RP b ia fi P op lf rt) (g : gv b ia d Γ) (hd : d < 600) (hp : p < P) (hP : P + 2 ≤ 1000) : (stR op lf rt Γ p ∧ f_X10_loosens (b + 83) (nI d) (nI p) (wr (SK b) ia fi fl qa f) = some (0, wr (SK b) ia fi fl qa f)) ∨ ∃ (ia1 fi1 : Nat → Nat → Int32) (P1 : Nat) (op1 lf1 rt1 : Nat → Nat) (Γ1 : Nat → Bool), f_X10_loosens (b + 83) (nI d) (nI p) (wr (SK b) ia fi fl qa f) = some (1, wr (SK b) ia1 fi1 fl qa f) ∧ RP b ia1 fi1 P1 op1 lf1 rt1 ∧ grS P op lf rt P1 op1 lf1 rt1 ∧ P1 ≤ P + 2 ∧ gv b ia1 d Γ1 ∧ dE b d ia fi ia1 fi1 ∧ lsS P1 op1 lf1 rt1 Γ p Γ1 := by
  have eq : ∀ u v : Nat, u < 1000 → v < 1000 → (nI u = nI v) = (u = v) := fun u v hu hv => propext (nI_eq (by omega) (by omega))
  obtain ⟨r1, r2, r3, r4⟩ := hr.row hp
  have ho := hr.op_lt hp
  have ix : ∀ z, z < 1000 → 32 * d ≤ 32 * d + z / 32 ∧ 32 * d + z / 32 < 32 * d + 32 := fun z hz => by omega
  unfold f_X10_loosens
  simp only [R_83_15, R_83_16, R_83_17, An_93 r4, An_94 r4, An_95 r4, r1, r2, r3, Option.bind_some, show (7 : Int32) = nI 7 from rfl, show (8 : Int32) = nI 8 from rfl, show (9 : Int32) = nI 9 from rfl, eq (op p) 7 (by omega) (by decide), eq (op p) 8 (by omega) (by decide), eq (op p) 9 (by omega) (by decide), ck_83]
  obtain ⟨x1, a1, g1⟩ := loses_g (fi := fi) (fl := fl) (qa := qa) (f := f) g hd (show p < 1024 by omega)
  have R1 : RP b (u2 ia (b + 97) (32 * d + p / 32) x1) fi P op lf rt := hr.w
  have D1 : dE b d ia fi (u2 ia (b + 97) (32 * d + p / 32) x1) fi := dE.w (ix p (by omega))
  by_cases c7 : op p = 7
  · rw [if_pos c7]
    obtain ⟨l1, l2, l3, l4⟩ := hr.lf_lt hp (by omega)
    obtain ⟨x2, a2, g2⟩ := gets_g (fi := fi) (fl := fl) (qa := qa) (f := f) g1 hd (show lf p < 1024 by omega)
    obtain ⟨x3, a3, g3⟩ := gets_g (fi := fi) (fl := fl) (qa := qa) (f := f) g2 hd (show rt p < 1024 by omega)
    simp only [a1, a2, a3, Option.bind_some, ck_83]
    exact Or.inr ⟨_, fi, P, op, lf, rt, _, rfl, R1.w.w, grS.rf, by omega, g3, (D1.tr (dE.w (ix _ (by omega)))).tr (dE.w (ix _ (by omega))), Or.inl ⟨c7, rfl⟩⟩
  rw [if_neg c7]
  by_cases c8 : op p = 8
  · rw [if_pos c8]
    obtain ⟨l1, l2, l3, l4⟩ := hr.lf_lt hp (by omega)
    simp only [has_g g hd (show lf p < 1024 by omega), has_g g hd (show rt p < 1024 by omega), Option.bind_some]
    have yes : (Γ (lf p) = true ∨ Γ (rt p) = true) → ∃ (ia1 fi1 : Nat → Nat → Int32) (P1 : Nat) (op1 lf1 rt1 : Nat → Nat) (Γ1 : Nat → Bool), f_X10_loosens_77 (b + 83) (nI d) (nI p) (wr (SK b) ia fi fl qa f) = some (1, wr (SK b) ia1 fi1 fl qa f) ∧ RP b ia1 fi1 P1 op1 lf1 rt1 ∧ grS P op lf rt P1 op1 lf1 rt1 ∧ P1 ≤ P + 2 ∧ gv b ia1 d Γ1 ∧ dE b d ia fi ia1 fi1 ∧ lsS P1 op1 lf1 rt1 Γ p Γ1 := by
      intro hy
      unfold f_X10_loosens_77 f_X10_loosens_82
      rw [if_neg (show ¬ (1 : Int32) = 0 by decide)]
      simp only [ck_83, a1, Option.bind_some]
      exact ⟨_, fi, P, op, lf, rt, _, rfl, R1, grS.rf, by omega, g1, D1, Or.inr (Or.inl ⟨c8, hy, rfl⟩)⟩
    by_cases k1 : Γ (lf p) = true
    · rw [if_pos k1, if_neg (show ¬ (1 : Int32) = 0 by decide)]
      exact Or.inr (yes (Or.inl k1))
    rw [if_neg k1, if_pos rfl]
    by_cases k2 : Γ (rt p) = true
    · rw [if_pos k2, if_neg (show ¬ (1 : Int32) = 0 by decide)]
      exact Or.inr (yes (Or.inr k2))
    rw [if_neg k2, if_pos rfl]
    refine Or.inl ⟨Or.inr (Or.inl ⟨c8, eq_false_of_ne_true k1, eq_false_of_ne_true k2⟩), ?_⟩
    unfold f_X10_loosens_82
    rw [if_pos rfl]
    rfl
  rw [if_neg c8]
  by_cases c9 : op p = 9
  · rw [if_pos c9]
    obtain ⟨l1, l2, l3, l4⟩ := hr.lf_lt hp (by omega)
    obtain ⟨s1, s2, s3, s4⟩ := hr.row (show lf p < P by omega)
    have hol := hr.op_lt (show lf p < P by omega)
    simp only [has_g g hd (show lf p < 1024 by omega), has_g g hd (show rt p < 1024 by omega), Option.bind_some]
    have yes : (Γ (lf p) = true ∨ Γ (rt p) = true) → ∃ (ia1 fi1 : Nat → Nat → Int32) (P1 : Nat) (op1 lf1 rt1 : Nat → Nat) (Γ1 : Nat → Bool), f_X10_loosens_130 (b + 83) (nI d) (nI p) (nI (rt p)) (wr (SK b) ia fi fl qa f) = some (1, wr (SK b) ia1 fi1 fl qa f) ∧ RP b ia1 fi1 P1 op1 lf1 rt1 ∧ grS P op lf rt P1 op1 lf1 rt1 ∧ P1 ≤ P + 2 ∧ gv b ia1 d Γ1 ∧ dE b d ia fi ia1 fi1 ∧ lsS P1 op1 lf1 rt1 Γ p Γ1 := by
      intro hy
      obtain ⟨x2, a2, g2⟩ := gets_g (fi := fi) (fl := fl) (qa := qa) (f := f) g1 hd (show rt p < 1024 by omega)
      unfold f_X10_loosens_130
      simp only [ck_83, a1, a2, Option.bind_some]
      exact ⟨_, fi, P, op, lf, rt, _, rfl, R1.w, grS.rf, by omega, g2, D1.tr (dE.w (ix _ (by omega))), Or.inr (Or.inr (Or.inl ⟨c9, hy, rfl⟩))⟩
    by_cases k1 : Γ (lf p) = true
    · rw [if_pos k1, if_neg (show ¬ (1 : Int32) = 0 by decide)]
      exact Or.inr (yes (Or.inl k1))
    rw [if_neg k1, if_pos rfl]
    by_cases k2 : Γ (rt p) = true
    · rw [if_pos k2, if_neg (show ¬ (1 : Int32) = 0 by decide)]
      exact Or.inr (yes (Or.inr k2))
    rw [if_neg k2, if_pos rfl]
    have k1 := eq_false_of_ne_true k1
    have k2 := eq_false_of_ne_true k2
    simp only [An_93 s4, s1, Option.bind_some, eq (op (lf p)) 7 (by omega) (by decide), eq (op (lf p)) 8 (by omega) (by decide)]
    by_cases d7 : op (lf p) = 7
    · rw [if_pos d7]
      obtain ⟨m1, m2, m3, m4⟩ := hr.lf_lt (show lf p < P by omega) (by omega)
      obtain ⟨t1, t2, t3, t4⟩ := R1.row (show lf p < P by omega)
      simp only [a1, Option.bind_some, R_83_16, R_83_17, An_94 t4, An_95 t4, t2, t3]
      obtain ⟨ia2, fi2, P2, op2, lf2, rt2, s, b1, b2, G1, b6⟩ := implies_u (fl := fl) (qa := qa) (f := f) R1 (show 2 ≤ P by omega) (by omega) (show rt (lf p) < P by omega) (show rt p < P by omega)
      obtain ⟨b3, b4, b5, b7⟩ := G1.E
      obtain ⟨ia3, fi3, P3, op3, lf3, rt3, r, e1, e2, G2, e6⟩ := implies_u (fl := fl) (qa := qa) (f := f) b2 (show 2 ≤ P2 by have := b3.1; omega) (by omega) (show lf (lf p) < P2 by have := b3.1; omega) b5
      obtain ⟨e3, e4, e5, e7⟩ := G2.E
      have hr3 : r < 1024 := by have := e2.1; omega
      obtain ⟨x3, a3, g3⟩ := gets_g (fi := fi3) (fl := fl) (qa := qa) (f := f) ((g1.pE b6).pE e6) hd hr3
      simp only [b1, e1, a3, Option.bind_some, ck_83]
      have E := b3.tr e3
      have A1 : adm P op lf rt (rt (lf p)) (rt p) := ⟨p, hp, c9, Or.inl ⟨by omega, rfl, rfl⟩⟩
      have A2 : adm P2 op2 lf2 rt2 (lf (lf p)) s := by
        refine ⟨p, Nat.lt_of_lt_of_le hp b3.1, (b3.2 p hp).1.trans c9, Or.inr (Or.inr ?_)⟩
        rw [(b3.2 p hp).2.1, (b3.2 p hp).2.2, (b3.2 (lf p) (by omega)).1, (b3.2 (lf p) (by omega)).2.1, (b3.2 (lf p) (by omega)).2.2]
        exact ⟨d7, rfl, b7⟩
      refine Or.inr ⟨_, fi3, P3, op3, lf3, rt3, _, rfl, e2.w, (grS.one hr.2.2.1 b2.2.2.1 (by omega) (by omega) A1 G1).tr (grS.one b2.2.2.1 e2.2.2.1 (by have := b3.1; omega) b5 A2 G2), by omega, g3, ((D1.tr b6.d).tr e6.d).tr (dE.w (by have := e2.1; omega)), Or.inr (Or.inr (Or.inr (Or.inl ⟨(E.2 p hp).1.trans c9, ?_⟩)))⟩
      rw [(E.2 p hp).2.1, (E.2 p hp).2.2, (E.2 (lf p) (by omega)).1, (E.2 (lf p) (by omega)).2.1, (E.2 (lf p) (by omega)).2.2]
      exact ⟨k1, k2, d7, s, r, Nat.lt_of_lt_of_le b5 e3.1, e5, b7.ex b5 e3, e7, rfl⟩
    · rw [if_neg d7]
      by_cases d8 : op (lf p) = 8
      · rw [if_pos d8]
        obtain ⟨m1, m2, m3, m4⟩ := hr.lf_lt (show lf p < P by omega) (by omega)
        obtain ⟨t1, t2, t3, t4⟩ := R1.row (show lf p < P by omega)
        simp only [a1, Option.bind_some, R_83_16, An_94 t4, t2]
        obtain ⟨ia2, fi2, P2, op2, lf2, rt2, s, b1, b2, G1, b6⟩ := implies_u (fl := fl) (qa := qa) (f := f) R1 (show 2 ≤ P by omega) (by omega) (show lf (lf p) < P by omega) (show rt p < P by omega)
        obtain ⟨b3, b4, b5, b7⟩ := G1.E
        have hs : s < 1024 := by have := b2.1; omega
        obtain ⟨x2, a2, g2⟩ := gets_g (fi := fi2) (fl := fl) (qa := qa) (f := f) (g1.pE b6) hd hs
        have B2 := b2.w (i := 32 * d + s / 32) (x := x2)
        obtain ⟨v1, v2, v3, v4⟩ := B2.row (show lf p < P2 by have := b3.1; omega)
        have vr : rt2 (lf p) = rt (lf p) := (b3.2 (lf p) (by omega)).2.2
        rw [vr] at v3
        simp only [b1, a2, Option.bind_some, R_83_17, An_95 v4, v3, ck_83]
        obtain ⟨ia3, fi3, P3, op3, lf3, rt3, r, e1, e2, G2, e6⟩ := implies_u (fl := fl) (qa := qa) (f := f) B2 (show 2 ≤ P2 by have := b3.1; omega) (by omega) (show rt (lf p) < P2 by have := b3.1; omega) (show rt p < P2 by have := b3.1; omega)
        obtain ⟨e3, e4, e5, e7⟩ := G2.E
        have hr3 : r < 1024 := by have := e2.1; omega
        obtain ⟨x3, a3, g3⟩ := gets_g (fi := fi3) (fl := fl) (qa := qa) (f := f) (g2.pE e6) hd hr3
        simp only [e1, a3, Option.bind_some, ck_83]
        have E := b3.tr e3
        have A1 : adm P op lf rt (lf (lf p)) (rt p) := ⟨p, hp, c9, Or.inr (Or.inl ⟨d8, rfl, rfl⟩)⟩
        have A2 : adm P2 op2 lf2 rt2 (rt (lf p)) (rt p) := by
          refine ⟨p, Nat.lt_of_lt_of_le hp b3.1, (b3.2 p hp).1.trans c9, Or.inl ?_⟩
          rw [(b3.2 p hp).2.1, (b3.2 p hp).2.2, (b3.2 (lf p) (by omega)).1, (b3.2 (lf p) (by omega)).2.2]
          exact ⟨by omega, rfl, rfl⟩
        refine Or.inr ⟨_, fi3, P3, op3, lf3, rt3, _, rfl, e2.w, (grS.one hr.2.2.1 b2.2.2.1 (by omega) (by omega) A1 G1).tr (grS.one b2.2.2.1 e2.2.2.1 (by have := b3.1; omega) (by have := b3.1; omega) A2 G2), by omega, g3, (((D1.tr b6.d).tr (dE.w (by have := b2.1; omega))).tr e6.d).tr (dE.w (by have := e2.1; omega)), Or.inr (Or.inr (Or.inr (Or.inr ⟨(E.2 p hp).1.trans c9, ?_⟩)))⟩
        rw [(E.2 p hp).2.1, (E.2 p hp).2.2, (E.2 (lf p) (by omega)).1, (E.2 (lf p) (by omega)).2.1, (E.2 (lf p) (by omega)).2.2]
        exact ⟨k1, k2, d8, s, r, Nat.lt_of_lt_of_le b5 e3.1, e5, b7.ex b5 e3, e7, rfl⟩
      · rw [if_neg d8]
        exact Or.inl ⟨Or.inr (Or.inr ⟨c9, k1, k2, d7, d8⟩), rfl⟩
  · rw [if_neg c9]
    exact Or.inl ⟨Or.inl (by omega), rfl⟩
end LOOS3
