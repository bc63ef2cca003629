/-! THE REFERENCE SETS A QUESTION: every part of the table is a node's -/
def mkS (b : Nat) (ia fi : Nat → Nat → Int32) (fl : Nat → Nat → Int64) (qa : Nat → Nat → Option Nat) (f : mmF) (P : Nat) (op lf rt : Nat → Nat) (k x y : Nat) (o : Option (Int32 × mmF)) : Prop := ∃ (ia1 fi1 : Nat → Nat → Int32) (P1 : Nat) (op1 lf1 rt1 : Nat → Nat) (r : Nat), o = some (nI r, wr (SK b) ia1 fi1 fl qa f) ∧ RP b ia1 fi1 P1 op1 lf1 rt1 ∧ REx P op lf rt P1 op1 lf1 rt1 ∧ P1 ≤ P + 1 ∧ r < P1 ∧ pE b ia fi ia1 fi1 ∧ (P1 = P ∨ P1 = P + 1 ∧ r = P) ∧ ∀ (α : Type) (lv : Nat → α) (un : α → α) (bn : Nat → α → α → α) (gd : α → Prop) (d0 : α), GA lv un bn gd → qv lv bn op1 lf1 rt1 d0 r = bn k (qv lv bn op lf rt d0 x) (qv lv bn op lf rt d0 y)
section PARTS3
variable {b : Nat} {ia fi : Nat → Nat → Int32} {fl : Nat → Nat → Int64} {qa : Nat → Nat → Option Nat} {f : mmF} {op lf rt : Nat → Nat} {P : Nat}
theorem mkS.old {k x y r : Nat} (h : RP b ia fi P op lf rt) (hr : r < P) (hv : ∀ (α : Type) (lv : Nat → α) (un : α → α) (bn : Nat → α → α → α) (gd : α → Prop) (d0 : α), GA lv un bn gd → qv lv bn op lf rt d0 r = bn k (qv lv bn op lf rt d0 x) (qv lv bn op lf rt d0 y)) : mkS b ia fi fl qa f P op lf rt k x y (some (nI r, wr (SK b) ia fi fl qa f)) := ⟨ia, fi, P, op, lf, rt, r, rfl, h, REx.rf, Nat.le_succ _, hr, pE.rf, Or.inl rfl, hv⟩
theorem mkS.new {k x y : Nat} (h : RP b ia fi P op lf rt) (hP : P < 1000) (hx : x < P) (hy : y < P) (hn : pOk P k x y) (h7 : 7 ≤ k) : mkS b ia fi fl qa f P op lf rt k x y ((f_X10_part (b + 83) (nI k) (nI x) (nI y) (wr (SK b) ia fi fl qa f)).bind fun q => some (q.1, q.2)) := by
  obtain ⟨ia1, fi1, P1, op1, lf1, rt1, r, a1, a2, a3, a4, ⟨a5, a6, a7, a8⟩, a9, a10⟩ := part_t (fl := fl) (qa := qa) (f := f) h hn hP
  refine ⟨ia1, fi1, P1, op1, lf1, rt1, r, by rw [a1]; rfl, a2, a3, a4, a5, a9, a10, fun α lv un bn gd d0 hg => ?_⟩
  obtain ⟨o1, o2, o3, o4, o5, o6, o7, o8, o9⟩ := a2.2.2.1.two a5 (by omega)
  rw [qv_op (by omega) o5 o7, a6, a7, a8, qv_ext h.2.2.1 a3.2 x hx, qv_ext h.2.2.1 a3.2 y hy]
theorem both_w {x y : Nat} (h : RP b ia fi P op lf rt) (h2 : 2 ≤ P) (hP : P < 1000) (hx : x < P) (hy : y < P) : mkS b ia fi fl qa f P op lf rt 7 x y (f_X10_both (b + 83) (nI x) (nI y) (wr (SK b) ia fi fl qa f)) := by
  have ho := h.2.2.1
  have q : ∀ u v : Nat, u < 1000 → v < 1000 → (nI u = nI v) = (u = v) := fun u v hu hv => propext (nI_eq (by omega) (by omega))
  unfold f_X10_both
  simp only [show (0 : Int32) = nI 0 from rfl, show (1 : Int32) = nI 1 from rfl, q x 0 (by omega) (by omega), q x y (by omega) (by omega), q y 0 (by omega) (by omega), q x 1 (by omega) (by omega), q y 1 (by omega) (by omega)]
  by_cases c1 : x = 0
  · rw [if_pos c1]
    exact mkS.old h hy fun α lv un bn gd d0 hg => by rw [c1, qv_0 ho (by omega), (hg.2.2.2.1 _ (hg.good ho y hy)).1]
  rw [if_neg c1]
  by_cases c2 : x = y
  · rw [if_pos c2]
    exact mkS.old h hy fun α lv un bn gd d0 hg => by rw [c2, (hg.2.2.2.1 _ (hg.good ho y hy)).2.1]
  rw [if_neg c2]
  by_cases c3 : y = 0
  · rw [if_pos c3]
    exact mkS.old h hx fun α lv un bn gd d0 hg => by rw [c3, qv_0 ho (by omega), (hg.2.2.2.1 _ (hg.good ho x hx)).2.2.1]
  rw [if_neg c3]
  by_cases c4 : x = 1
  · rw [if_pos c4]
    exact mkS.old h (by omega) fun α lv un bn gd d0 hg => by rw [c4, qv_1 ho (by omega), (hg.2.2.2.1 _ (hg.good ho y hy)).2.2.2.1]
  rw [if_neg c4]
  by_cases c5 : y = 1
  · rw [if_pos c5]
    exact mkS.old h (by omega) fun α lv un bn gd d0 hg => by rw [c5, qv_1 ho (by omega), (hg.2.2.2.1 _ (hg.good ho x hx)).2.2.2.2]
  rw [if_neg c5]
  simp only [ck_83, Option.bind_some]
  exact mkS.new h hP hx hy (Or.inr (Or.inr ⟨h2, by omega, by omega, by omega, hx, by omega, hy, c2, fun e => absurd e c5⟩)) (by omega)
theorem either_w {x y : Nat} (h : RP b ia fi P op lf rt) (h2 : 2 ≤ P) (hP : P < 1000) (hx : x < P) (hy : y < P) : mkS b ia fi fl qa f P op lf rt 8 x y (f_X10_either (b + 83) (nI x) (nI y) (wr (SK b) ia fi fl qa f)) := by
  have ho := h.2.2.1
  have q : ∀ u v : Nat, u < 1000 → v < 1000 → (nI u = nI v) = (u = v) := fun u v hu hv => propext (nI_eq (by omega) (by omega))
  unfold f_X10_either
  simp only [show (0 : Int32) = nI 0 from rfl, show (1 : Int32) = nI 1 from rfl, q x 0 (by omega) (by omega), q x y (by omega) (by omega), q y 0 (by omega) (by omega), q x 1 (by omega) (by omega), q y 1 (by omega) (by omega)]
  by_cases c1 : x = 1
  · rw [if_pos c1]
    exact mkS.old h hy fun α lv un bn gd d0 hg => by rw [c1, qv_1 ho (by omega), (hg.2.2.2.2.1 _ (hg.good ho y hy)).1]
  rw [if_neg c1]
  by_cases c2 : x = y
  · rw [if_pos c2]
    exact mkS.old h hy fun α lv un bn gd d0 hg => by rw [c2, (hg.2.2.2.2.1 _ (hg.good ho y hy)).2.1]
  rw [if_neg c2]
  by_cases c3 : y = 1
  · rw [if_pos c3]
    exact mkS.old h hx fun α lv un bn gd d0 hg => by rw [c3, qv_1 ho (by omega), (hg.2.2.2.2.1 _ (hg.good ho x hx)).2.2.1]
  rw [if_neg c3]
  by_cases c4 : x = 0
  · rw [if_pos c4]
    exact mkS.old h (by omega) fun α lv un bn gd d0 hg => by rw [c4, qv_0 ho (by omega), (hg.2.2.2.2.1 _ (hg.good ho y hy)).2.2.2.1]
  rw [if_neg c4]
  by_cases c5 : y = 0
  · rw [if_pos c5]
    exact mkS.old h (by omega) fun α lv un bn gd d0 hg => by rw [c5, qv_0 ho (by omega), (hg.2.2.2.2.1 _ (hg.good ho x hx)).2.2.2.2]
  rw [if_neg c5]
  simp only [ck_83, Option.bind_some]
  exact mkS.new h hP hx hy (Or.inr (Or.inr ⟨h2, by omega, by omega, by omega, hx, by omega, hy, c2, fun e => absurd e c3⟩)) (by omega)
theorem implies_w {x y : Nat} (h : RP b ia fi P op lf rt) (h2 : 2 ≤ P) (hP : P < 1000) (hx : x < P) (hy : y < P) : mkS b ia fi fl qa f P op lf rt 9 x y (f_X10_implies (b + 83) (nI x) (nI y) (wr (SK b) ia fi fl qa f)) := by
  have ho := h.2.2.1
  have q : ∀ u v : Nat, u < 1000 → v < 1000 → (nI u = nI v) = (u = v) := fun u v hu hv => propext (nI_eq (by omega) (by omega))
  unfold f_X10_implies
  simp only [show (0 : Int32) = nI 0 from rfl, show (1 : Int32) = nI 1 from rfl, q x 0 (by omega) (by omega), q x y (by omega) (by omega), q y 0 (by omega) (by omega), q x 1 (by omega) (by omega), q y 1 (by omega) (by omega)]
  by_cases c1 : x = 0
  · rw [if_pos c1]
    exact mkS.old h hy fun α lv un bn gd d0 hg => by rw [c1, qv_0 ho (by omega), (hg.2.2.2.2.2 _ (hg.good ho y hy)).1]
  rw [if_neg c1]
  by_cases c4 : x = 1
  · rw [if_pos c4]
    exact mkS.old h (by omega) fun α lv un bn gd d0 hg => by rw [c4, qv_0 ho (by omega), qv_1 ho (by omega), (hg.2.2.2.2.2 _ (hg.good ho y hy)).2.1]
  rw [if_neg c4]
  by_cases c3 : y = 0
  · rw [if_pos c3]
    exact mkS.old h (by omega) fun α lv un bn gd d0 hg => by rw [c3, qv_0 ho (by omega), (hg.2.2.2.2.2 _ (hg.good ho x hx)).2.2.1]
  rw [if_neg c3]
  by_cases c2 : x = y
  · rw [if_pos c2]
    exact mkS.old h (by omega) fun α lv un bn gd d0 hg => by rw [c2, qv_0 ho (by omega), (hg.2.2.2.2.2 _ (hg.good ho y hy)).2.2.2]
  rw [if_neg c2]
  simp only [ck_83, Option.bind_some]
  exact mkS.new h hP hx hy (Or.inr (Or.inr ⟨h2, by omega, by omega, by omega, hx, by omega, hy, c2, fun e => rfl⟩)) (by omega)
end PARTS3
/-- every part is some node's -/
def allP (P : Nat) (op lf rt : Nat → Nat) (C : (Nat → Nat) → Nat → Prop) : Prop := ∀ q, 2 ≤ q → q < P → ∃ g j, C g j ∧ isPN P op lf rt g j q
theorem allP.step {P P1 r i : Nat} {op lf rt op1 lf1 rt1 : Nat → Nat} {C : (Nat → Nat) → Nat → Prop} {g : Nat → Nat} (h : allP P op lf rt C) (ho : RPo P op lf rt) (e : REx P op lf rt P1 op1 lf1 rt1) (hP : P1 = P ∨ P1 = P + 1 ∧ r = P) (hn : isPN P1 op1 lf1 rt1 g i r) (hc : C g i) : allP P1 op1 lf1 rt1 C := fun q h2 hq => by
  by_cases c : q < P
  · obtain ⟨g', j, c1, c2⟩ := h q h2 c
    exact ⟨g', j, c1, c2.ex ho e⟩
  · have hqr : q = r := by omega
    subst hqr
    exact ⟨g, i, hc, hn⟩
section PARTS4
variable {b : Nat} {ia fi : Nat → Nat → Int32} {fl : Nat → Nat → Int64} {qa : Nat → Nat → Option Nat} {f : mmF} {op lf rt : Nat → Nat} {P : Nat}
theorem partof_14 {base k : Nat} {g : Nat → Nat} {C : (Nat → Nat) → Nat → Prop} (hb : base + k < 172) (hv : VC k g) (hC : ∀ j, j < k → C g j) : ∀ (m i q : Nat) (ia fi : Nat → Nat → Int32) (P : Nat) (op lf rt : Nat → Nat) (St : Nat → Nat), i + m = k → m < q → ia (b + 84) base = nI k → (∀ j, j < k → ia (b + 84) (base + (1 + j)) = nI (g j)) → RP b ia fi P op lf rt → 2 ≤ P → P + m ≤ 1000 → allP P op lf rt C → (∀ j, j < i → ∃ q, isPN P op lf rt g j q) → (∀ d, d < dpt g i → ia (b + 92) d = nI (St d) ∧ isPN P op lf rt g (sl g i d) (St d)) → ∃ (ia1 fi1 : Nat → Nat → Int32) (P1 : Nat) (op1 lf1 rt1 : Nat → Nat) (r : Nat), f_X10_partOf_13 q (b + 83) (nI base) (nI (dpt g i)) (nI (1 + i)) (wr (SK b) ia fi fl qa f) = some (nI r, wr (SK b) ia1 fi1 fl qa f) ∧ RP b ia1 fi1 P1 op1 lf1 rt1 ∧ REx P op lf rt P1 op1 lf1 rt1 ∧ P1 ≤ P + m ∧ isPN P1 op1 lf1 rt1 g (k - 1) r ∧ sE b ia fi ia1 fi1 ∧ allP P1 op1 lf1 rt1 C ∧ ∀ j, j < k → ∃ q, isPN P1 op1 lf1 rt1 g j q := by
  obtain ⟨k1, k30, hok, hd1⟩ := id hv
  have e90 : b + 84 ≠ b + 92 := by omega
  intro m
  induction m with
  | zero =>
    intro i q ia fi P op lf rt St hi hm hrow hg hr h2 hP hA hB hS
    obtain ⟨q, rfl⟩ : ∃ k, q = k + 1 := ⟨q - 1, by omega⟩
    have hin : i = k := by omega
    subst hin
    have hlt : nI i < nI (1 + i) := nI_lt (by omega) (by omega)
    have h0 := hS 0 (by omega)
    obtain ⟨i', rfl⟩ : ∃ j, i = j + 1 := ⟨i - 1, by omega⟩
    rw [sl_top g (by omega)] at h0
    refine ⟨ia, fi, P, op, lf, rt, St 0, ?_, hr, REx.rf, Nat.le_refl _, h0.2, sE.rf, hA, hB⟩
    rw [f_X10_partOf_13]
    simp only [R_83_0, An_84 (show base < 172 by omega), Option.bind_some, hrow, if_pos hlt, R_83_14]
    rw [show (0 : Int32) = nI 0 from rfl, An_92 (by decide), h0.1]
    rfl
  | succ m ih =>
    intro i q ia fi P op lf rt St hi hm hrow hg hr h2 hP hA hB hS
    obtain ⟨q, rfl⟩ : ∃ k, q = k + 1 := ⟨q - 1, by omega⟩
    have hik : i < k := by omega
    have hlt : ¬ nI k < nI (1 + i) := nI_nlt (by omega) (by omega)
    obtain ⟨g10, g6, g7⟩ := hok i hik
    have hdl := dpt_le g i
    have hdp := dpt_pos hok hik
    have hds := dpt_s g i
    have hat : nI base + nI (1 + i) = nI (base + (1 + i)) := nI_add _ _
    -- the part of the sign, once made, lies on the stack
    have next : ∀ (ia1 fi1 : Nat → Nat → Int32) (P1 : Nat) (op1 lf1 rt1 : Nat → Nat) (d r : Nat), d + 1 = dpt g (i + 1) → RP b ia1 fi1 P1 op1 lf1 rt1 → REx P op lf rt P1 op1 lf1 rt1 → P1 ≤ P + 1 → (P1 = P ∨ P1 = P + 1 ∧ r = P) → isPN P1 op1 lf1 rt1 g i r → sE b ia fi ia1 fi1 → (∀ e, e < d → ia1 (b + 92) e = ia (b + 92) e) → ∃ (ia2 fi2 : Nat → Nat → Int32) (P2 : Nat) (op2 lf2 rt2 : Nat → Nat) (r2 : Nat), f_X10_partOf_13 q (b + 83) (nI base) (nI (dpt g (i + 1))) (nI (1 + i + 1)) (wr (SK b) (u2 ia1 (b + 92) d (nI r)) fi1 fl qa f) = some (nI r2, wr (SK b) ia2 fi2 fl qa f) ∧ RP b ia2 fi2 P2 op2 lf2 rt2 ∧ REx P op lf rt P2 op2 lf2 rt2 ∧ P2 ≤ P + (m + 1) ∧ isPN P2 op2 lf2 rt2 g (k - 1) r2 ∧ sE b ia fi ia2 fi2 ∧ allP P2 op2 lf2 rt2 C ∧ ∀ j, j < k → ∃ q, isPN P2 op2 lf2 rt2 g j q := by
      intro ia1 fi1 P1 op1 lf1 rt1 d r hd a1 a2 a3 aN a4 a5 a6
      have hrow1 : u2 ia1 (b + 92) d (nI r) (b + 84) = ia (b + 84) := (u2_row _ _ e90).trans (a5.1 _ (by omega))
      obtain ⟨ia2, fi2, P2, op2, lf2, rt2, r2, z1, z2, z3, z4, z5, z6, z7, z8⟩ := ih (i + 1) q (u2 ia1 (b + 92) d (nI r)) fi1 P1 op1 lf1 rt1 (fun e => if e = d then r else St e) (by omega) (by omega) (by rw [hrow1]; exact hrow) (fun j hj => by rw [hrow1]; exact hg j hj) (a1.cg (fun a h1 h2 => u2_row _ _ (by omega))) (Nat.le_trans h2 a2.1) (by omega) (hA.step hr.2.2.1 a2 aN a4 (hC i hik)) (fun j hj => by
        by_cases e : j = i
        · subst e; exact ⟨r, a4⟩
        · obtain ⟨qq, hqq⟩ := hB j (by omega)
          exact ⟨qq, hqq.ex hr.2.2.1 a2⟩) (fun e he => by
        by_cases hed : e = d
        · subst hed
          rw [sl_top g hd, if_pos rfl, u2_s]
          exact ⟨rfl, a4⟩
        · rw [sl_low g (by omega), if_neg hed, u2_i _ _ hed]
          have hup := dpt_up g i
          have hs := hS e (by omega)
          exact ⟨(a6 e (by omega)).trans hs.1, hs.2.ex hr.2.2.1 a2⟩)
      rw [show 1 + i + 1 = 1 + (i + 1) by omega]
      exact ⟨ia2, fi2, P2, op2, lf2, rt2, r2, z1, z2, a2.tr z3, by omega, z5, a5.tr ((sE.u d (nI r)).tr z6), z7, z8⟩
    rw [f_X10_partOf_13]
    simp only [R_83_0, An_84 (show base < 172 by omega), Option.bind_some, hrow, if_neg hlt, hat, An_84 (show base + (1 + i) < 172 by omega), hg i hik]
    by_cases c4 : g i < 4
    · rw [if_pos (show g i < 6 by omega)] at hds
      rw [if_neg (show ¬ (4 : Int32) ≤ nI (g i) from nI_ge (b := 4) c4 (by decide))]
      obtain ⟨ia1, fi1, P1, op1, lf1, rt1, r, a1, a2, a3, a4, ⟨a5, a6, a7, a8⟩, a9, a10⟩ := part_t (fl := fl) (qa := qa) (f := f) (o := g i) (x := 0) (y := 0) hr (Or.inr (Or.inl ⟨h2, c4, rfl, rfl⟩)) (by omega)
      rw [show nI 0 = (0 : Int32) from rfl] at a1
      simp only [R_83_14, ck_83, a1, Option.bind_some, sAn_92 (show dpt g i < 32 by omega)]
      unfold f_X10_partOf_188
      rw [nI_1, ← hds, nI_1]
      refine next ia1 fi1 P1 op1 lf1 rt1 (dpt g i) r (by omega) a2 a3 a4 a10 ⟨a5, fun α lv un bn gd d0 d1 hg => ?_⟩ a9.s (fun e he => by rw [a9.1 _ (by omega)])
      rw [qv_lf (by omega), a6, nv_lf (by omega)]
    · rw [if_pos (show (4 : Int32) ≤ nI (g i) from nI_le (a := 4) (by omega) (by omega))]
      by_cases c6 : g i < 6
      · rw [if_pos c6] at hds
        rw [if_neg (show ¬ (6 : Int32) ≤ nI (g i) from nI_ge (b := 6) c6 (by decide)), show (4 : Int32) = nI 4 from rfl, pk_sub (show 4 ≤ g i by omega)]
        simp only [R_83_14, Option.bind_some, sAn_92 (show dpt g i < 32 by omega)]
        unfold f_X10_partOf_188
        rw [nI_1, ← hds, nI_1]
        refine next ia fi P op lf rt (dpt g i) (g i - 4) (by omega) hr REx.rf (Nat.le_succ _) (Or.inl rfl) ⟨by omega, fun α lv un bn gd d0 d1 hg => ?_⟩ sE.rf (fun e he => rfl)
        rw [nv_lf c6]
        obtain e4 | e5 : g i = 4 ∨ g i = 5 := by omega
        · rw [e4]; exact qv_0 hr.2.2.1 (by omega)
        · rw [e5]; exact qv_1 hr.2.2.1 (by omega)
      · rw [if_pos (show (6 : Int32) ≤ nI (g i) from nI_le (a := 6) (by omega) (by omega))]
        rw [if_neg c6] at hds
        have hrc := rc_lt hok hik (by omega)
        have hd1' := g6 (by omega)
        have hsr := hS (dpt g i - 1) (by omega)
        by_cases d6 : g i = 6
        · rw [if_pos d6] at hds
          rw [if_pos (show nI (g i) = (6 : Int32) by rw [d6]; rfl)]
          obtain ⟨ia1, fi1, P1, op1, lf1, rt1, r, a1, a2, a3, a4, a5, a6, aN, a7⟩ := implies_w (fl := fl) (qa := qa) (f := f) (x := St (dpt g i - 1)) (y := 1) hr h2 (by omega) hsr.2.1 (by omega)
          rw [show nI 1 = (1 : Int32) from rfl] at a1
          simp only [R_83_14, nsub1 hd1', An_92 (show dpt g i - 1 < 32 by omega), hsr.1, ck_83, a1, Option.bind_some, sAn_92 (show dpt g i - 1 < 32 by omega)]
          unfold f_X10_partOf_188
          rw [nI_1]
          have hnx := next ia1 fi1 P1 op1 lf1 rt1 (dpt g i - 1) r (by omega) a2 a3 a4 aN ⟨a5, fun α lv un bn gd d0 d1 hg => ?_⟩ a6.s (fun e he => by rw [a6.1 _ (by omega)])
          · rw [hds] at hnx
            exact hnx
          · rw [a7 α lv un bn gd d0 hg, nv_un d6 hrc, hsr.2.2 α lv un bn gd d0 d1 hg, qv_1 hr.2.2.1 (by omega)]
            have hgd : gd (nv lv un bn g d1 (rc g i)) := by
              have := hg.good (d0 := d0) hr.2.2.1 _ hsr.2.1
              rw [hsr.2.2 α lv un bn gd d0 d1 hg] at this
              exact this
            exact (hg.2.2.1 _ hgd).symm
        · rw [if_neg d6] at hds
          have n6 : ¬ nI (g i) = (6 : Int32) := fun e => d6 ((nI_eq (b := 6) (by omega) (by decide)).mp e)
          have hd2 := g7 (by omega)
          have hlc := lc_lt hok hik (by omega)
          have hsl := hS (dpt g i - 2) (by omega)
          have q7 : (nI (g i) = (7 : Int32)) = (g i = 7) := propext (nI_eq (b := 7) (by omega) (by decide))
          have q8 : (nI (g i) = (8 : Int32)) = (g i = 8) := propext (nI_eq (b := 8) (by omega) (by decide))
          have hsub : nI (dpt g i - 1) - (1 : Int32) = nI (dpt g i - 2) := by rw [nsub1 (show 1 ≤ dpt g i - 1 by omega)]; congr 1
          rw [if_neg n6]
          simp only [R_83_14, nadm1 hd1', hsub, An_92 (show dpt g i - 1 < 32 by omega), An_92 (show dpt g i - 2 < 32 by omega), hsr.1, hsl.1, ck_83, Option.bind_some, q7, q8]
          -- all three signs
          have fin : ∀ o : Option (Int32 × mmF), mkS b ia fi fl qa f P op lf rt (g i) (St (dpt g i - 2)) (St (dpt g i - 1)) o → ∃ (ia2 fi2 : Nat → Nat → Int32) (P2 : Nat) (op2 lf2 rt2 : Nat → Nat) (r2 : Nat), (o.bind fun x => f_X10_partOf_187 (fun a0 a1 a2 a3 a4 => f_X10_partOf_13 q a0 a1 a2 a3 a4) (b + 83) (nI base) (nI (dpt g i - 1)) (nI (1 + i)) (b + 92) (nI (dpt g i - 2)) x.1 x.2) = some (nI r2, wr (SK b) ia2 fi2 fl qa f) ∧ RP b ia2 fi2 P2 op2 lf2 rt2 ∧ REx P op lf rt P2 op2 lf2 rt2 ∧ P2 ≤ P + (m + 1) ∧ isPN P2 op2 lf2 rt2 g (k - 1) r2 ∧ sE b ia fi ia2 fi2 ∧ allP P2 op2 lf2 rt2 C ∧ ∀ j, j < k → ∃ q, isPN P2 op2 lf2 rt2 g j q := by
            rintro o ⟨ia1, fi1, P1, op1, lf1, rt1, r, a1, a2, a3, a4, a5, a6, aN, a7⟩
            rw [a1]
            simp only [Option.bind_some]
            unfold f_X10_partOf_187 f_X10_partOf_188
            simp only [sAn_92 (show dpt g i - 2 < 32 by omega), Option.bind_some, nI_1]
            have hnx := next ia1 fi1 P1 op1 lf1 rt1 (dpt g i - 2) r (by omega) a2 a3 a4 aN ⟨a5, fun α lv un bn gd d0 d1 hg => ?_⟩ a6.s (fun e he => by rw [a6.1 _ (by omega)])
            · rw [hds] at hnx
              exact hnx
            · rw [a7 α lv un bn gd d0 hg, nv_bn (by omega) hlc hrc, hsr.2.2 α lv un bn gd d0 d1 hg, hsl.2.2 α lv un bn gd d0 d1 hg]
              rfl
          by_cases d7 : g i = 7
          · rw [if_pos d7]
            have := both_w (fl := fl) (qa := qa) (f := f) hr h2 (by omega) hsl.2.1 hsr.2.1
            rw [← d7] at this
            exact fin _ this
          · rw [if_neg d7]
            by_cases d8 : g i = 8
            · rw [if_pos d8]
              have := either_w (fl := fl) (qa := qa) (f := f) hr h2 (by omega) hsl.2.1 hsr.2.1
              rw [← d8] at this
              exact fin _ this
            · rw [if_neg d8]
              have d9 : g i = 9 := by omega
              have := implies_w (fl := fl) (qa := qa) (f := f) hr h2 (by omega) hsl.2.1 hsr.2.1
              rw [← d9] at this
              exact fin _ this
theorem partof_u {p k : Nat} {g : Nat → Nat} {C : (Nat → Nat) → Nat → Prop} (hp : p < 5) (hv : VC k g) (hC : ∀ j, j < k → C g j) (hA : allP P op lf rt C) (hrow : ia (b + 84) (17 + 31 * p) = nI k) (hg : ∀ j, j < k → ia (b + 84) (17 + 31 * p + (1 + j)) = nI (g j)) (hr : RP b ia fi P op lf rt) (h2 : 2 ≤ P) (hP : P + k ≤ 1000) : ∃ (ia1 fi1 : Nat → Nat → Int32) (P1 : Nat) (op1 lf1 rt1 : Nat → Nat) (r : Nat), f_X10_partOf (b + 83) (nI p) (wr (SK b) ia fi fl qa f) = some (nI r, wr (SK b) ia1 fi1 fl qa f) ∧ RP b ia1 fi1 P1 op1 lf1 rt1 ∧ REx P op lf rt P1 op1 lf1 rt1 ∧ P1 ≤ P + k ∧ isPN P1 op1 lf1 rt1 g (k - 1) r ∧ sE b ia fi ia1 fi1 ∧ allP P1 op1 lf1 rt1 C ∧ ∀ j, j < k → ∃ q, isPN P1 op1 lf1 rt1 g j q := by
  obtain ⟨qf, hqf⟩ := FU_1000
  have k30 := hv.2.1
  have h := partof_14 (b := b) (fl := fl) (qa := qa) (f := f) (base := 17 + 31 * p) (by omega) hv hC k 0 FU ia fi P op lf rt (fun _ => 0) (by omega) (by omega) hrow hg hr h2 hP hA (fun j hj => absurd hj (Nat.not_lt_zero _)) (fun d hd => absurd hd (Nat.not_lt_zero _))
  have e : (17 : Int32) + (31 : Int32) * nI p = nI (17 + 31 * p) := by rw [show (17 : Int32) = nI 17 from rfl, show (31 : Int32) = nI 31 from rfl, pk_mul, nI_add]
  unfold f_X10_partOf
  rw [e]
  exact h
end PARTS4
/-- the nodes of a question's claims -/
def qnS (Ω : mO) (W p : Nat) (g : Nat → Nat) (j : Nat) : Prop := ∃ i, i < 5 ∧ (W.testBit i = true ∨ i = p) ∧ g = Ω.1.2.2.2.2 i ∧ j < Ω.1.2.2.2.1 i
/-- each node of the question has a part -/
def ndA (Ω : mO) (W p : Nat) (P : Nat) (op lf rt : Nat → Nat) : Prop := ∀ j, j < 5 → (W.testBit j = true ∨ j = p) → ∀ e, e < Ω.1.2.2.2.1 j → ∃ q, isPN P op lf rt (Ω.1.2.2.2.2 j) e q
section SETS4
variable {b : Nat} {ia fi : Nat → Nat → Int32} {fl : Nat → Nat → Int64} {qa : Nat → Nat → Option Nat} {f : mmF} {Ω : mO}
theorem sets_28 {W p : Nat} (w : WO Ω) (hq : qOk Ω W p) : ∀ (m i q : Nat) (ia fi : Nat → Nat → Int32) (P : Nat) (op lf rt : Nat → Nat) (pr : Nat → Nat) (Γ : Nat → Bool), i + m = 5 → m < q → MSh (ia (b + 84)) Ω.1.2.2.2.1 Ω.1.2.2.2.2 → RP b ia fi P op lf rt → 2 ≤ P → P ≤ 2 + 30 * i → allP P op lf rt (qnS Ω W p) → (∀ j, j < i → W.testBit j = true → ∀ e, e < Ω.1.2.2.2.1 j → ∃ q, isPN P op lf rt (Ω.1.2.2.2.2 j) e q) → gv b ia 0 Γ → (∀ q, Γ q = true ↔ ∃ j, j < i ∧ W.testBit j = true ∧ pr j = q) → (∀ j, j < i → W.testBit j = true → isPN P op lf rt (Ω.1.2.2.2.2 j) (Ω.1.2.2.2.1 j - 1) (pr j)) → ∃ (ia1 fi1 : Nat → Nat → Int32) (P1 : Nat) (op1 lf1 rt1 : Nat → Nat) (pr1 : Nat → Nat) (pg : Nat) (Γ1 : Nat → Bool), f_X10_sets_27 q (b + 83) (nI W) (nI p) (nI i) (wr (SK b) ia fi fl qa f) = some (wr (SK b) ia1 fi1 fl qa f) ∧ setR b ia1 fi1 Ω.1.2.2.2.1 Ω.1.2.2.2.2 W p P1 op1 lf1 rt1 pr1 pg Γ1 ∧ hE b ia fi ia1 fi1 ∧ allP P1 op1 lf1 rt1 (qnS Ω W p) ∧ ndA Ω W p P1 op1 lf1 rt1 := by
  have hW := hq.1
  intro m
  induction m with
  | zero =>
    intro i q ia fi P op lf rt pr Γ hi hm hsh hr h2 hP hA hB hg hΓ hpn
    obtain ⟨q, rfl⟩ : ∃ k, q = k + 1 := ⟨q - 1, by omega⟩
    have h5 : i = 5 := by omega
    subst h5
    have k0 := hq.2.2.1
    have hv := w.1.2 p hq.2.1 k0
    have k30 := hv.2.1
    obtain ⟨ia1, fi1, P1, op1, lf1, rt1, r, a1, a2, a3, a4, a5, a6, a7, a8⟩ := partof_u (fl := fl) (qa := qa) (f := f) hq.2.1 hv (fun j hj => (⟨p, hq.2.1, Or.inr rfl, rfl, hj⟩ : qnS Ω W p _ _)) hA (hsh p hq.2.1).1 (hsh p hq.2.1).2 hr h2 (by omega)
    have n1 : b + 97 ≠ b + 98 := by omega
    refine ⟨u2 ia1 (b + 98) 0 (nI r), fi1, P1, op1, lf1, rt1, pr, r, Γ, ?_, ⟨a2.cg (fun a h1 h2 => u2_row _ _ (by omega)), Nat.le_trans h2 a3.1, by omega, hg.cg (fun w hw => (u2_a _ _ n1).trans (by rw [a6.1 _ (by omega)])), hΓ, fun j hj hw => (hpn j hj hw).ex hr.2.2.1 a3, u2_s _ _ _ _, a5⟩, a6.h.tr (hE.u _ (by omega)), a7, fun j hj hw e he => by
      rcases hw with hw | hw
      · obtain ⟨qq, hqq⟩ := hB j hj hw e he
        exact ⟨qq, hqq.ex hr.2.2.1 a3⟩
      · subst hw; exact a8 e he⟩
    rw [f_X10_sets_27, if_pos (show (5 : Int32) ≤ nI 5 by decide)]
    simp only [R_83_21, ck_83, a1, Option.bind_some]
    rw [show (0 : Int32) = nI 0 from rfl, sAn_98 (by decide)]
    rfl
  | succ m ih =>
    intro i q ia fi P op lf rt pr Γ hi hm hsh hr h2 hP hA hB hg hΓ hpn
    obtain ⟨q, rfl⟩ : ∃ k, q = k + 1 := ⟨q - 1, by omega⟩
    have h5 : i < 5 := by omega
    rw [f_X10_sets_27, if_neg (show ¬ (5 : Int32) ≤ nI i from nI_ge (b := 5) h5 (by decide))]
    cases hb : W.testBit i with
    | false =>
      have e0 : ¬ ((nI W >>> (nI i &&& 31)) &&& (1 : Int32)) = (1 : Int32) := by
        rw [(bt_0 (Nat.lt_trans hW (by decide)) (by omega)).mpr hb]
        decide
      rw [if_neg e0]
      unfold f_X10_sets_51
      rw [nI_1]
      refine ih (i + 1) q ia fi P op lf rt pr Γ (by omega) (by omega) hsh hr h2 (by omega) hA (fun j hj hw => by
        by_cases e : j = i
        · subst e; rw [hb] at hw; cases hw
        · exact hB j (by omega) hw) hg (fun q => ?_) (fun j hj hw => ?_)
      · rw [hΓ q]
        constructor
        · rintro ⟨j, h1, h2⟩; exact ⟨j, by omega, h2⟩
        · rintro ⟨j, h1, h2, h3⟩
          by_cases e : j = i
          · subst e; rw [hb] at h2; cases h2
          · exact ⟨j, by omega, h2, h3⟩
      · by_cases e : j = i
        · subst e; rw [hb] at hw; cases hw
        · exact hpn j (by omega) hw
    | true =>
      have e1 : ((nI W >>> (nI i &&& 31)) &&& (1 : Int32)) = (1 : Int32) := by
        rw [bt_shr (Nat.lt_trans hW (by decide)) (by omega), bt_one _ (Nat.lt_trans (Nat.lt_of_le_of_lt (Nat.div_le_self _ _) hW) (by decide))]
        have h := Nat.testBit_eq_decide_div_mod_eq (x := W) (i := i)
        rw [hb] at h
        rw [of_decide_eq_true h.symm]
        rfl
      have k0 := (hq.2.2.2 i hb).2
      have hv := w.1.2 i h5 k0
      have k30 := hv.2.1
      obtain ⟨ia1, fi1, P1, op1, lf1, rt1, r, a1, a2, a3, a4, a5, a6, a7, a8⟩ := partof_u (fl := fl) (qa := qa) (f := f) h5 hv (fun j hj => (⟨i, h5, Or.inl hb, rfl, hj⟩ : qnS Ω W p _ _)) hA (hsh i h5).1 (hsh i h5).2 hr h2 (by omega)
      have hr1 : r < P1 := a5.1
      have hg1 : gv b ia1 0 Γ := hg.cg (fun w hw => by rw [a6.1 _ (by omega)])
      obtain ⟨x, g1, g2⟩ := gets_g (fi := fi1) (fl := fl) (qa := qa) (f := f) hg1 (by decide) (show r < 1024 by omega)
      rw [show nI 0 = (0 : Int32) from rfl] at g1
      rw [if_pos e1]
      simp only [ck_83, a1, g1, Option.bind_some]
      unfold f_X10_sets_51
      rw [nI_1]
      have hrow : u2 ia1 (b + 97) (32 * 0 + r / 32) x (b + 84) = ia (b + 84) := (u2_row _ _ (by omega)).trans (a6.1 _ (by omega))
      obtain ⟨ia2, fi2, P2, op2, lf2, rt2, pr2, pg, Γ2, z1, z2, z3, z4, z5⟩ := ih (i + 1) q (u2 ia1 (b + 97) (32 * 0 + r / 32) x) fi1 P1 op1 lf1 rt1 (upN pr i r) (upB Γ r true) (by omega) (by omega) (by rw [hrow]; exact hsh) (a2.cg (fun a h1 h2 => u2_row _ _ (by omega))) (Nat.le_trans h2 a3.1) (by omega) a7 (fun j hj hw e he => by
        by_cases ej : j = i
        · subst ej; exact a8 e he
        · obtain ⟨qq, hqq⟩ := hB j (by omega) hw e he
          exact ⟨qq, hqq.ex hr.2.2.1 a3⟩) g2 (fun q => by
        unfold upB
        by_cases e : q = r
        · rw [if_pos e]
          exact ⟨fun _ => ⟨i, by omega, hb, by rw [upN_s]; exact e.symm⟩, fun _ => rfl⟩
        · rw [if_neg e, hΓ q]
          constructor
          · rintro ⟨j, h1, h2, h3⟩; exact ⟨j, by omega, h2, by rw [upN_n _ (by omega)]; exact h3⟩
          · rintro ⟨j, h1, h2, h3⟩
            by_cases ej : j = i
            · subst ej; rw [upN_s] at h3; exact absurd h3.symm e
            · rw [upN_n _ ej] at h3; exact ⟨j, by omega, h2, h3⟩) (fun j hj hw => by
        by_cases ej : j = i
        · subst ej; rw [upN_s]; exact a5
        · rw [upN_n _ ej]; exact (hpn j (by omega) hw).ex hr.2.2.1 a3)
      exact ⟨ia2, fi2, P2, op2, lf2, rt2, pr2, pg, Γ2, z1, z2, (a6.h.tr (hE.u x (by omega))).tr z3, z4, z5⟩
theorem sets_u {W p : Nat} (h : MR b ia fi Ω) (w : WO Ω) (hq : qOk Ω W p) : ∃ (ia1 fi1 : Nat → Nat → Int32) (P1 : Nat) (op1 lf1 rt1 : Nat → Nat) (pr1 : Nat → Nat) (pg : Nat) (Γ1 : Nat → Bool), f_X10_sets (b + 83) (nI W) (nI p) (wr (SK b) ia fi fl qa f) = some (wr (SK b) ia1 fi1 fl qa f) ∧ setR b ia1 fi1 Ω.1.2.2.2.1 Ω.1.2.2.2.2 W p P1 op1 lf1 rt1 pr1 pg Γ1 ∧ hE b ia fi ia1 fi1 ∧ allP P1 op1 lf1 rt1 (qnS Ω W p) ∧ ndA Ω W p P1 op1 lf1 rt1 := by
  obtain ⟨qf, hqf⟩ := FU_1000
  obtain ⟨ia1, fi1, op, lf, rt, a1, a2, a3⟩ := clears_t (b := b) (ia := ia) (fi := fi) (fl := fl) (qa := qa) (f := f)
  obtain ⟨ia2, b1, b2, b3⟩ := sets_6 (b := b) (fl := fl) (qa := qa) (f := f) (y := nI W) (z := nI p) 32 0 FU ia1 fi1 (by omega) (by omega) (fun j hj => absurd hj (Nat.not_lt_zero _))
  have hrow : ia2 (b + 84) = ia (b + 84) := (b3 _ (by omega)).trans (a3.1 _ (by omega))
  obtain ⟨ia3, fi3, P3, op3, lf3, rt3, pr3, pg, Γ3, z1, z2, z3, z4, z5⟩ := sets_28 (b := b) (fl := fl) (qa := qa) (f := f) w hq 5 0 FU ia2 fi1 2 op lf rt (fun _ => 0) (fun _ => false) (by omega) (by omega) (by rw [hrow]; exact h.1.2) (a2.cg (fun a h1 h2 => b3 a (by omega))) (Nat.le_refl _) (by omega) (fun q h2 hq => absurd hq (by omega)) (fun j hj => absurd hj (Nat.not_lt_zero _)) (fun w hw => ⟨0, by decide, by rw [show 32 * 0 + w = w by omega]; exact b2 w hw, fun j hj => Nat.zero_testBit _⟩) (fun q => ⟨fun h => (by cases h), fun ⟨j, h1, _⟩ => absurd h1 (Nat.not_lt_zero _)⟩) (fun j hj => absurd hj (Nat.not_lt_zero _))
  refine ⟨ia3, fi3, P3, op3, lf3, rt3, pr3, pg, Γ3, ?_, z2, a3.h.tr (hE.pre b3 z3), z4, z5⟩
  unfold f_X10_sets
  simp only [ck_83, a1, Option.bind_some]
  exact b1.trans z1
end SETS4
