/-! THE REFERENCE'S SEARCH: loosens -/
def gI (op lf rt : Nat → Nat) (r x y : Nat) : Prop := ∀ (α : Type) (lv : Nat → α) (un : α → α) (bn : Nat → α → α → α) (gd : α → Prop) (d0 : α), GA lv un bn gd → qv lv bn op lf rt d0 r = bn 9 (qv lv bn op lf rt d0 x) (qv lv bn op lf rt d0 y)
/-- one part taken to pieces -/
def lsR (P : Nat) (op lf rt : Nat → Nat) (Γ : Nat → Bool) (p : Nat) (Γ1 : Nat → Bool) : Prop :=
  (op p = 7 ∧ Γ1 = upB (upB (upB Γ p false) (lf p) true) (rt p) true) ∨
  (op p = 8 ∧ (Γ (lf p) = true ∨ Γ (rt p) = true) ∧ Γ1 = upB Γ p false) ∨
  (op p = 9 ∧ (Γ (lf p) = true ∨ Γ (rt p) = true) ∧ Γ1 = upB (upB Γ p false) (rt p) true) ∨
  (op p = 9 ∧ Γ (lf p) = false ∧ Γ (rt p) = false ∧ op (lf p) = 7 ∧ ∃ s r, s < P ∧ r < P ∧ gI op lf rt s (rt (lf p)) (rt p) ∧ gI op lf rt r (lf (lf p)) s ∧ Γ1 = upB (upB Γ p false) r true) ∨
  (op p = 9 ∧ Γ (lf p) = false ∧ Γ (rt p) = false ∧ op (lf p) = 8 ∧ ∃ s r, s < P ∧ r < P ∧ gI op lf rt s (lf (lf p)) (rt p) ∧ gI op lf rt r (rt (lf p)) (rt p) ∧ Γ1 = upB (upB (upB Γ p false) s true) r true)
/-- a part that stays as it is -/
def stR (op lf rt : Nat → Nat) (Γ : Nat → Bool) (p : Nat) : Prop := op p < 7 ∨ (op p = 8 ∧ Γ (lf p) = false ∧ Γ (rt p) = false) ∨ (op p = 9 ∧ Γ (lf p) = false ∧ Γ (rt p) = false ∧ op (lf p) ≠ 7 ∧ op (lf p) ≠ 8)
/-- only the parts' arrays and what is given at frame d differ -/
def dE (b d : Nat) (ia fi ia1 fi1 : Nat → Nat → Int32) : Prop := (∀ a, a < b + 93 ∨ b + 97 < a → ia1 a = ia a) ∧ (∀ j, j < 32 * d ∨ 32 * d + 32 ≤ j → ia1 (b + 97) j = ia (b + 97) j) ∧ ∀ a j, a ≠ b + 83 ∨ j ≠ 19 → fi1 a j = fi a j
section LOOS
variable {b : Nat} {ia fi : Nat → Nat → Int32} {fl : Nat → Nat → Int64} {qa : Nat → Nat → Option Nat} {f : mmF} {op lf rt : Nat → Nat} {P : Nat} {Γ : Nat → Bool}
theorem dE.rf {d : Nat} : dE b d ia fi ia fi := ⟨fun _ _ => rfl, fun _ _ => rfl, fun _ _ _ => rfl⟩
theorem dE.tr {d : Nat} {ia1 fi1 ia2 fi2 : Nat → Nat → Int32} (h : dE b d ia fi ia1 fi1) (h2 : dE b d ia1 fi1 ia2 fi2) : dE b d ia fi ia2 fi2 := ⟨fun a ha => (h2.1 a ha).trans (h.1 a ha), fun j hj => (h2.2.1 j hj).trans (h.2.1 j hj), fun a j ha => (h2.2.2 a j ha).trans (h.2.2 a j ha)⟩
theorem dE.w {d i : Nat} {x : Int32} (hi : 32 * d ≤ i ∧ i < 32 * d + 32) : dE b d ia fi (u2 ia (b + 97) i x) fi := ⟨fun a ha => u2_row _ _ (by omega), fun j hj => u2_i _ _ (by omega), fun _ _ _ => rfl⟩
theorem pE.d {d : Nat} {ia1 fi1 : Nat → Nat → Int32} (h : pE b ia fi ia1 fi1) : dE b d ia fi ia1 fi1 := ⟨fun a ha => h.1 a (by omega), fun j _ => by rw [h.1 (b + 97) (by omega)], h.2⟩
theorem RP.w {i : Nat} {x : Int32} (h : RP b ia fi P op lf rt) : RP b (u2 ia (b + 97) i x) fi P op lf rt := h.fr (fun a _ h2 => u2_row _ _ (by omega))
theorem gv.pE {d : Nat} {ia1 fi1 : Nat → Nat → Int32} (h : gv b ia d Γ) (e : pE b ia fi ia1 fi1) : gv b ia1 d Γ := h.cg (fun w _ => by rw [e.1 (b + 97) (by omega)])
theorem gI.of {P1 P2 r x y : Nat} {op1 lf1 rt1 op2 lf2 rt2 : Nat → Nat} (h1 : RPo P op lf rt) (h2 : RPo P1 op1 lf1 rt1) (e1 : REx P op lf rt P1 op1 lf1 rt1) (e2 : REx P1 op1 lf1 rt1 P2 op2 lf2 rt2) (hr : r < P1) (hx : x < P) (hy : y < P) (hv : ∀ (α : Type) (lv : Nat → α) (un : α → α) (bn : Nat → α → α → α) (gd : α → Prop) (d0 : α), GA lv un bn gd → qv lv bn op1 lf1 rt1 d0 r = bn 9 (qv lv bn op lf rt d0 x) (qv lv bn op lf rt d0 y)) : gI op2 lf2 rt2 r x y := fun α lv un bn gd d0 hg => by
  rw [qv_ext h2 e2.2 r hr, hv α lv un bn gd d0 hg, qv_ext h1 (e1.tr e2).2 x hx, qv_ext h1 (e1.tr e2).2 y hy]
set_option maxHeartbeats 1000000 in
theorem loosens_t {d p : Nat} (hr : RP b ia fi P op lf rt) (g : gv b ia d Γ) (hd : d < 600) (hp : p < P) (hP : P + 2 ≤ 1000) : (stR op lf rt Γ p ∧ f_X10_loosens (b + 83) (nI d) (nI p) (wr (SK b) ia fi fl qa f) = some (0, wr (SK b) ia fi fl qa f)) ∨ ∃ (ia1 fi1 : Nat → Nat → Int32) (P1 : Nat) (op1 lf1 rt1 : Nat → Nat) (Γ1 : Nat → Bool), f_X10_loosens (b + 83) (nI d) (nI p) (wr (SK b) ia fi fl qa f) = some (1, wr (SK b) ia1 fi1 fl qa f) ∧ RP b ia1 fi1 P1 op1 lf1 rt1 ∧ REx P op lf rt P1 op1 lf1 rt1 ∧ P1 ≤ P + 2 ∧ gv b ia1 d Γ1 ∧ dE b d ia fi ia1 fi1 ∧ lsR P1 op1 lf1 rt1 Γ p Γ1 := by
  have eq : ∀ u v : Nat, u < 1000 → v < 1000 → (nI u = nI v) = (u = v) := fun u v hu hv => propext (nI_eq (by omega) (by omega))
  obtain ⟨r1, r2, r3, r4⟩ := hr.row hp
  have ho := hr.op_lt hp
  have ix : ∀ z, z < 1000 → 32 * d ≤ 32 * d + z / 32 ∧ 32 * d + z / 32 < 32 * d + 32 := fun z hz => by omega
  unfold f_X10_loosens
  simp only [R_83_15, R_83_16, R_83_17, An_93 r4, An_94 r4, An_95 r4, r1, r2, r3, Option.bind_some, show (7 : Int32) = nI 7 from rfl, show (8 : Int32) = nI 8 from rfl, show (9 : Int32) = nI 9 from rfl, eq (op p) 7 (by omega) (by decide), eq (op p) 8 (by omega) (by decide), eq (op p) 9 (by omega) (by decide), ck_83]
  obtain ⟨x1, a1, g1⟩ := loses_g (fi := fi) (fl := fl) (qa := qa) (f := f) g hd (show p < 1024 by omega)
  have R1 : RP b (u2 ia (b + 97) (32 * d + p / 32) x1) fi P op lf rt := hr.w
  have D1 : dE b d ia fi (u2 ia (b + 97) (32 * d + p / 32) x1) fi := dE.w (ix p (by omega))
  by_cases c7 : op p = 7
  · rw [if_pos c7]
    obtain ⟨l1, l2, l3, l4⟩ := hr.lf_lt hp (by omega)
    obtain ⟨x2, a2, g2⟩ := gets_g (fi := fi) (fl := fl) (qa := qa) (f := f) g1 hd (show lf p < 1024 by omega)
    obtain ⟨x3, a3, g3⟩ := gets_g (fi := fi) (fl := fl) (qa := qa) (f := f) g2 hd (show rt p < 1024 by omega)
    simp only [a1, a2, a3, Option.bind_some, ck_83]
    exact Or.inr ⟨_, fi, P, op, lf, rt, _, rfl, R1.w.w, REx.rf, by omega, g3, (D1.tr (dE.w (ix _ (by omega)))).tr (dE.w (ix _ (by omega))), Or.inl ⟨c7, rfl⟩⟩
  rw [if_neg c7]
  by_cases c8 : op p = 8
  · rw [if_pos c8]
    obtain ⟨l1, l2, l3, l4⟩ := hr.lf_lt hp (by omega)
    simp only [has_g g hd (show lf p < 1024 by omega), has_g g hd (show rt p < 1024 by omega), Option.bind_some]
    have yes : (Γ (lf p) = true ∨ Γ (rt p) = true) → ∃ (ia1 fi1 : Nat → Nat → Int32) (P1 : Nat) (op1 lf1 rt1 : Nat → Nat) (Γ1 : Nat → Bool), f_X10_loosens_77 (b + 83) (nI d) (nI p) (wr (SK b) ia fi fl qa f) = some (1, wr (SK b) ia1 fi1 fl qa f) ∧ RP b ia1 fi1 P1 op1 lf1 rt1 ∧ REx P op lf rt P1 op1 lf1 rt1 ∧ P1 ≤ P + 2 ∧ gv b ia1 d Γ1 ∧ dE b d ia fi ia1 fi1 ∧ lsR P1 op1 lf1 rt1 Γ p Γ1 := by
      intro hy
      unfold f_X10_loosens_77 f_X10_loosens_82
      rw [if_neg (show ¬ (1 : Int32) = 0 by decide)]
      simp only [ck_83, a1, Option.bind_some]
      exact ⟨_, fi, P, op, lf, rt, _, rfl, R1, REx.rf, by omega, g1, D1, Or.inr (Or.inl ⟨c8, hy, rfl⟩)⟩
    by_cases k1 : Γ (lf p) = true
    · rw [if_pos k1, if_neg (show ¬ (1 : Int32) = 0 by decide)]
      exact Or.inr (yes (Or.inl k1))
    rw [if_neg k1, if_pos rfl]
    by_cases k2 : Γ (rt p) = true
    · rw [if_pos k2, if_neg (show ¬ (1 : Int32) = 0 by decide)]
      exact Or.inr (yes (Or.inr k2))
    rw [if_neg k2, if_pos rfl]
    refine Or.inl ⟨Or.inr (Or.inl ⟨c8, eq_false_of_ne_true k1, eq_false_of_ne_true k2⟩), ?_⟩
    unfold f_X10_loosens_82
    rw [if_pos rfl]
    rfl
  rw [if_neg c8]
  by_cases c9 : op p = 9
  · rw [if_pos c9]
    obtain ⟨l1, l2, l3, l4⟩ := hr.lf_lt hp (by omega)
    obtain ⟨s1, s2, s3, s4⟩ := hr.row (show lf p < P by omega)
    have hol := hr.op_lt (show lf p < P by omega)
    simp only [has_g g hd (show lf p < 1024 by omega), has_g g hd (show rt p < 1024 by omega), Option.bind_some]
    have yes : (Γ (lf p) = true ∨ Γ (rt p) = true) → ∃ (ia1 fi1 : Nat → Nat → Int32) (P1 : Nat) (op1 lf1 rt1 : Nat → Nat) (Γ1 : Nat → Bool), f_X10_loosens_130 (b + 83) (nI d) (nI p) (nI (rt p)) (wr (SK b) ia fi fl qa f) = some (1, wr (SK b) ia1 fi1 fl qa f) ∧ RP b ia1 fi1 P1 op1 lf1 rt1 ∧ REx P op lf rt P1 op1 lf1 rt1 ∧ P1 ≤ P + 2 ∧ gv b ia1 d Γ1 ∧ dE b d ia fi ia1 fi1 ∧ lsR P1 op1 lf1 rt1 Γ p Γ1 := by
      intro hy
      obtain ⟨x2, a2, g2⟩ := gets_g (fi := fi) (fl := fl) (qa := qa) (f := f) g1 hd (show rt p < 1024 by omega)
      unfold f_X10_loosens_130
      simp only [ck_83, a1, a2, Option.bind_some]
      exact ⟨_, fi, P, op, lf, rt, _, rfl, R1.w, REx.rf, by omega, g2, D1.tr (dE.w (ix _ (by omega))), Or.inr (Or.inr (Or.inl ⟨c9, hy, rfl⟩))⟩
    by_cases k1 : Γ (lf p) = true
    · rw [if_pos k1, if_neg (show ¬ (1 : Int32) = 0 by decide)]
      exact Or.inr (yes (Or.inl k1))
    rw [if_neg k1, if_pos rfl]
    by_cases k2 : Γ (rt p) = true
    · rw [if_pos k2, if_neg (show ¬ (1 : Int32) = 0 by decide)]
      exact Or.inr (yes (Or.inr k2))
    rw [if_neg k2, if_pos rfl]
    have k1 := eq_false_of_ne_true k1
    have k2 := eq_false_of_ne_true k2
    simp only [An_93 s4, s1, Option.bind_some, eq (op (lf p)) 7 (by omega) (by decide), eq (op (lf p)) 8 (by omega) (by decide)]
    by_cases d7 : op (lf p) = 7
    · rw [if_pos d7]
      obtain ⟨m1, m2, m3, m4⟩ := hr.lf_lt (show lf p < P by omega) (by omega)
      obtain ⟨t1, t2, t3, t4⟩ := R1.row (show lf p < P by omega)
      simp only [a1, Option.bind_some, R_83_16, R_83_17, An_94 t4, An_95 t4, t2, t3]
      obtain ⟨ia2, fi2, P2, op2, lf2, rt2, s, b1, b2, b3, b4, b5, b6, b7⟩ := implies_t (fl := fl) (qa := qa) (f := f) R1 (show 2 ≤ P by omega) (by omega) (show rt (lf p) < P by omega) (show rt p < P by omega)
      obtain ⟨ia3, fi3, P3, op3, lf3, rt3, r, e1, e2, e3, e4, e5, e6, e7⟩ := implies_t (fl := fl) (qa := qa) (f := f) b2 (show 2 ≤ P2 by have := b3.1; omega) (by omega) (show lf (lf p) < P2 by have := b3.1; omega) b5
      have hr3 : r < 1024 := by have := e2.1; omega
      obtain ⟨x3, a3, g3⟩ := gets_g (fi := fi3) (fl := fl) (qa := qa) (f := f) ((g1.pE b6).pE e6) hd hr3
      simp only [b1, e1, a3, Option.bind_some, ck_83]
      have E := b3.tr e3
      refine Or.inr ⟨_, fi3, P3, op3, lf3, rt3, _, rfl, e2.w, E, by omega, g3, ((D1.tr b6.d).tr e6.d).tr (dE.w (by have := e2.1; omega)), Or.inr (Or.inr (Or.inr (Or.inl ⟨(E.2 p hp).1.trans c9, ?_⟩)))⟩
      rw [(E.2 p hp).2.1, (E.2 p hp).2.2, (E.2 (lf p) (by omega)).1, (E.2 (lf p) (by omega)).2.1, (E.2 (lf p) (by omega)).2.2]
      refine ⟨k1, k2, d7, s, r, Nat.lt_of_lt_of_le b5 e3.1, e5, gI.of hr.2.2.1 b2.2.2.1 b3 e3 b5 (by omega) (by omega) b7, ?_, rfl⟩
      exact gI.of b2.2.2.1 e2.2.2.1 e3 REx.rf e5 (by have := b3.1; omega) b5 e7
    · rw [if_neg d7]
      by_cases d8 : op (lf p) = 8
      · rw [if_pos d8]
        obtain ⟨m1, m2, m3, m4⟩ := hr.lf_lt (show lf p < P by omega) (by omega)
        obtain ⟨t1, t2, t3, t4⟩ := R1.row (show lf p < P by omega)
        simp only [a1, Option.bind_some, R_83_16, An_94 t4, t2]
        obtain ⟨ia2, fi2, P2, op2, lf2, rt2, s, b1, b2, b3, b4, b5, b6, b7⟩ := implies_t (fl := fl) (qa := qa) (f := f) R1 (show 2 ≤ P by omega) (by omega) (show lf (lf p) < P by omega) (show rt p < P by omega)
        have hs : s < 1024 := by have := b2.1; omega
        obtain ⟨x2, a2, g2⟩ := gets_g (fi := fi2) (fl := fl) (qa := qa) (f := f) (g1.pE b6) hd hs
        have B2 := b2.w (i := 32 * d + s / 32) (x := x2)
        obtain ⟨v1, v2, v3, v4⟩ := B2.row (show lf p < P2 by have := b3.1; omega)
        have vr : rt2 (lf p) = rt (lf p) := (b3.2 (lf p) (by omega)).2.2
        rw [vr] at v3
        simp only [b1, a2, Option.bind_some, R_83_17, An_95 v4, v3, ck_83]
        obtain ⟨ia3, fi3, P3, op3, lf3, rt3, r, e1, e2, e3, e4, e5, e6, e7⟩ := implies_t (fl := fl) (qa := qa) (f := f) B2 (show 2 ≤ P2 by have := b3.1; omega) (by omega) (show rt (lf p) < P2 by have := b3.1; omega) (show rt p < P2 by have := b3.1; omega)
        have hr3 : r < 1024 := by have := e2.1; omega
        obtain ⟨x3, a3, g3⟩ := gets_g (fi := fi3) (fl := fl) (qa := qa) (f := f) (g2.pE e6) hd hr3
        simp only [e1, a3, Option.bind_some, ck_83]
        have E := b3.tr e3
        refine Or.inr ⟨_, fi3, P3, op3, lf3, rt3, _, rfl, e2.w, E, by omega, g3, (((D1.tr b6.d).tr (dE.w (by have := b2.1; omega))).tr e6.d).tr (dE.w (by have := e2.1; omega)), Or.inr (Or.inr (Or.inr (Or.inr ⟨(E.2 p hp).1.trans c9, ?_⟩)))⟩
        rw [(E.2 p hp).2.1, (E.2 p hp).2.2, (E.2 (lf p) (by omega)).1, (E.2 (lf p) (by omega)).2.1, (E.2 (lf p) (by omega)).2.2]
        refine ⟨k1, k2, d8, s, r, Nat.lt_of_lt_of_le b5 e3.1, e5, gI.of hr.2.2.1 b2.2.2.1 b3 e3 b5 (by omega) (by omega) b7, ?_, rfl⟩
        exact gI.of b2.2.2.1 e2.2.2.1 e3 REx.rf e5 (by have := b3.1; omega) (by have := b3.1; omega) e7
      · rw [if_neg d8]
        exact Or.inl ⟨Or.inr (Or.inr ⟨c9, k1, k2, d7, d8⟩), rfl⟩
  · rw [if_neg c9]
    exact Or.inl ⟨Or.inl (by omega), rfl⟩
end LOOS
