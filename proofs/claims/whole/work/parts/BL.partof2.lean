/-- the parts' arrays and the stack differ alone -/
def sE (b : Nat) (ia fi ia1 fi1 : Nat → Nat → Int32) : Prop := (∀ a, (a < b + 93 ∧ a ≠ b + 92) ∨ b + 97 ≤ a → ia1 a = ia a) ∧ ∀ a j, a ≠ b + 83 ∨ j ≠ 19 → fi1 a j = fi a j
/-- a part has a node's value -/
def isPN (P : Nat) (op lf rt : Nat → Nat) (g : Nat → Nat) (i r : Nat) : Prop := r < P ∧ ∀ (α : Type) (lv : Nat → α) (un : α → α) (bn : Nat → α → α → α) (gd : α → Prop) (d0 d1 : α), GA lv un bn gd → qv lv bn op lf rt d0 r = nv lv un bn g d1 i
section PO2
variable {b : Nat} {ia fi : Nat → Nat → Int32} {fl : Nat → Nat → Int64} {qa : Nat → Nat → Option Nat} {f : mmF} {op lf rt : Nat → Nat} {P : Nat}
theorem sE.rf : sE b ia fi ia fi := ⟨fun _ _ => rfl, fun _ _ _ => rfl⟩
theorem sE.tr {ia1 fi1 ia2 fi2 : Nat → Nat → Int32} (h : sE b ia fi ia1 fi1) (h2 : sE b ia1 fi1 ia2 fi2) : sE b ia fi ia2 fi2 := ⟨fun a ha => (h2.1 a ha).trans (h.1 a ha), fun a j ha => (h2.2 a j ha).trans (h.2 a j ha)⟩
theorem pE.s {ia1 fi1 : Nat → Nat → Int32} (h : pE b ia fi ia1 fi1) : sE b ia fi ia1 fi1 := ⟨fun a ha => h.1 a (by omega), h.2⟩
theorem sE.st (R : Nat → Int32) : sE b ia fi (rw2 ia (b + 92) R) fi := ⟨fun a ha => rw2_n _ _ (by omega), fun _ _ _ => rfl⟩
theorem sE.u (d : Nat) (x : Int32) : sE b ia fi (u2 ia (b + 92) d x) fi := ⟨fun a ha => u2_row _ _ (by omega), fun _ _ _ => rfl⟩
theorem RP.cg {ia1 : Nat → Nat → Int32} (h : RP b ia fi P op lf rt) (e : ∀ a, b + 93 ≤ a → a < b + 97 → ia1 a = ia a) : RP b ia1 fi P op lf rt := by
  obtain ⟨h1, ⟨h2, h3⟩, h4, h5⟩ := h
  refine ⟨h1, ⟨h2, fun k hk => ?_⟩, h4, fun d k s w a1 a2 a3 a4 => ?_⟩
  · rw [e _ (by omega) (by omega), e _ (by omega) (by omega), e _ (by omega) (by omega)]; exact h3 k hk
  · rw [e _ (by omega) (by omega)]; exact h5 d k s w a1 a2 a3 a4
theorem isPN.ex {g : Nat → Nat} {i r P1 : Nat} {op1 lf1 rt1 : Nat → Nat} (h : isPN P op lf rt g i r) (ho : RPo P op lf rt) (e : REx P op lf rt P1 op1 lf1 rt1) : isPN P1 op1 lf1 rt1 g i r :=
  ⟨Nat.lt_of_lt_of_le h.1 e.1, fun α lv un bn gd d0 d1 hg => by rw [qv_ext ho e.2 r h.1]; exact h.2 α lv un bn gd d0 d1 hg⟩
theorem partof_13 {base k : Nat} {g : Nat → Nat} (hb : base + k < 172) (hv : VC k g) : ∀ (m i q : Nat) (ia fi : Nat → Nat → Int32) (P : Nat) (op lf rt : Nat → Nat) (St : Nat → Nat), i + m = k → m < q → ia (b + 84) base = nI k → (∀ j, j < k → ia (b + 84) (base + (1 + j)) = nI (g j)) → RP b ia fi P op lf rt → 2 ≤ P → P + m ≤ 1000 → (∀ d, d < dpt g i → ia (b + 92) d = nI (St d) ∧ isPN P op lf rt g (sl g i d) (St d)) → ∃ (ia1 fi1 : Nat → Nat → Int32) (P1 : Nat) (op1 lf1 rt1 : Nat → Nat) (r : Nat), f_X10_partOf_13 q (b + 83) (nI base) (nI (dpt g i)) (nI (1 + i)) (wr (SK b) ia fi fl qa f) = some (nI r, wr (SK b) ia1 fi1 fl qa f) ∧ RP b ia1 fi1 P1 op1 lf1 rt1 ∧ REx P op lf rt P1 op1 lf1 rt1 ∧ P1 ≤ P + m ∧ isPN P1 op1 lf1 rt1 g (k - 1) r ∧ sE b ia fi ia1 fi1 := by
  obtain ⟨k1, k30, hok, hd1⟩ := id hv
  have e90 : b + 84 ≠ b + 92 := by omega
  intro m
  induction m with
  | zero =>
    intro i q ia fi P op lf rt St hi hm hrow hg hr h2 hP hS
    obtain ⟨q, rfl⟩ : ∃ k, q = k + 1 := ⟨q - 1, by omega⟩
    have hin : i = k := by omega
    subst hin
    have hlt : nI i < nI (1 + i) := nI_lt (by omega) (by omega)
    have h0 := hS 0 (by omega)
    obtain ⟨i', rfl⟩ : ∃ j, i = j + 1 := ⟨i - 1, by omega⟩
    rw [sl_top g (by omega)] at h0
    refine ⟨ia, fi, P, op, lf, rt, St 0, ?_, hr, REx.rf, Nat.le_refl _, h0.2, sE.rf⟩
    rw [f_X10_partOf_13]
    simp only [R_83_0, An_84 (show base < 172 by omega), Option.bind_some, hrow, if_pos hlt, R_83_14]
    rw [show (0 : Int32) = nI 0 from rfl, An_92 (by decide), h0.1]
    rfl
  | succ m ih =>
    intro i q ia fi P op lf rt St hi hm hrow hg hr h2 hP hS
    obtain ⟨q, rfl⟩ : ∃ k, q = k + 1 := ⟨q - 1, by omega⟩
    have hik : i < k := by omega
    have hlt : ¬ nI k < nI (1 + i) := nI_nlt (by omega) (by omega)
    obtain ⟨g10, g6, g7⟩ := hok i hik
    have hdl := dpt_le g i
    have hdp := dpt_pos hok hik
    have hds := dpt_s g i
    have hat : nI base + nI (1 + i) = nI (base + (1 + i)) := nI_add _ _
    -- the part of the sign, once made, lies on the stack
    have next : ∀ (ia1 fi1 : Nat → Nat → Int32) (P1 : Nat) (op1 lf1 rt1 : Nat → Nat) (d r : Nat), d + 1 = dpt g (i + 1) → RP b ia1 fi1 P1 op1 lf1 rt1 → REx P op lf rt P1 op1 lf1 rt1 → P1 ≤ P + 1 → isPN P1 op1 lf1 rt1 g i r → sE b ia fi ia1 fi1 → (∀ e, e < d → ia1 (b + 92) e = ia (b + 92) e) → ∃ (ia2 fi2 : Nat → Nat → Int32) (P2 : Nat) (op2 lf2 rt2 : Nat → Nat) (r2 : Nat), f_X10_partOf_13 q (b + 83) (nI base) (nI (dpt g (i + 1))) (nI (1 + i + 1)) (wr (SK b) (u2 ia1 (b + 92) d (nI r)) fi1 fl qa f) = some (nI r2, wr (SK b) ia2 fi2 fl qa f) ∧ RP b ia2 fi2 P2 op2 lf2 rt2 ∧ REx P op lf rt P2 op2 lf2 rt2 ∧ P2 ≤ P + (m + 1) ∧ isPN P2 op2 lf2 rt2 g (k - 1) r2 ∧ sE b ia fi ia2 fi2 := by
      intro ia1 fi1 P1 op1 lf1 rt1 d r hd a1 a2 a3 a4 a5 a6
      have hrow1 : u2 ia1 (b + 92) d (nI r) (b + 84) = ia (b + 84) := (u2_row _ _ e90).trans (a5.1 _ (by omega))
      obtain ⟨ia2, fi2, P2, op2, lf2, rt2, r2, z1, z2, z3, z4, z5, z6⟩ := ih (i + 1) q (u2 ia1 (b + 92) d (nI r)) fi1 P1 op1 lf1 rt1 (fun e => if e = d then r else St e) (by omega) (by omega) (by rw [hrow1]; exact hrow) (fun j hj => by rw [hrow1]; exact hg j hj) (a1.cg (fun a h1 h2 => u2_row _ _ (by omega))) (Nat.le_trans h2 a2.1) (by omega) (fun e he => by
        by_cases hed : e = d
        · subst hed
          rw [sl_top g hd, if_pos rfl, u2_s]
          exact ⟨rfl, a4⟩
        · rw [sl_low g (by omega), if_neg hed, u2_i _ _ hed]
          have hup := dpt_up g i
          have hs := hS e (by omega)
          exact ⟨(a6 e (by omega)).trans hs.1, hs.2.ex hr.2.2.1 a2⟩)
      rw [show 1 + i + 1 = 1 + (i + 1) by omega]
      exact ⟨ia2, fi2, P2, op2, lf2, rt2, r2, z1, z2, a2.tr z3, by omega, z5, a5.tr ((sE.u d (nI r)).tr z6)⟩
    rw [f_X10_partOf_13]
    simp only [R_83_0, An_84 (show base < 172 by omega), Option.bind_some, hrow, if_neg hlt, hat, An_84 (show base + (1 + i) < 172 by omega), hg i hik]
    by_cases c4 : g i < 4
    · rw [if_pos (show g i < 6 by omega)] at hds
      rw [if_neg (show ¬ (4 : Int32) ≤ nI (g i) from nI_ge (b := 4) c4 (by decide))]
      obtain ⟨ia1, fi1, P1, op1, lf1, rt1, r, a1, a2, a3, a4, ⟨a5, a6, a7, a8⟩, a9, a10⟩ := part_t (fl := fl) (qa := qa) (f := f) (o := g i) (x := 0) (y := 0) hr (Or.inr (Or.inl ⟨h2, c4, rfl, rfl⟩)) (by omega)
      rw [show nI 0 = (0 : Int32) from rfl] at a1
      simp only [R_83_14, ck_83, a1, Option.bind_some, sAn_92 (show dpt g i < 32 by omega)]
      unfold f_X10_partOf_188
      rw [nI_1, ← hds, nI_1]
      refine next ia1 fi1 P1 op1 lf1 rt1 (dpt g i) r (by omega) a2 a3 a4 ⟨a5, fun α lv un bn gd d0 d1 hg => ?_⟩ a9.s (fun e he => by rw [a9.1 _ (by omega)])
      rw [qv_lf (by omega), a6, nv_lf (by omega)]
    · rw [if_pos (show (4 : Int32) ≤ nI (g i) from nI_le (a := 4) (by omega) (by omega))]
      by_cases c6 : g i < 6
      · rw [if_pos c6] at hds
        rw [if_neg (show ¬ (6 : Int32) ≤ nI (g i) from nI_ge (b := 6) c6 (by decide)), show (4 : Int32) = nI 4 from rfl, pk_sub (show 4 ≤ g i by omega)]
        simp only [R_83_14, Option.bind_some, sAn_92 (show dpt g i < 32 by omega)]
        unfold f_X10_partOf_188
        rw [nI_1, ← hds, nI_1]
        refine next ia fi P op lf rt (dpt g i) (g i - 4) (by omega) hr REx.rf (Nat.le_succ _) ⟨by omega, fun α lv un bn gd d0 d1 hg => ?_⟩ sE.rf (fun e he => rfl)
        rw [nv_lf c6]
        obtain e4 | e5 : g i = 4 ∨ g i = 5 := by omega
        · rw [e4]; exact qv_0 hr.2.2.1 (by omega)
        · rw [e5]; exact qv_1 hr.2.2.1 (by omega)
      · rw [if_pos (show (6 : Int32) ≤ nI (g i) from nI_le (a := 6) (by omega) (by omega))]
        rw [if_neg c6] at hds
        have hrc := rc_lt hok hik (by omega)
        have hd1' := g6 (by omega)
        have hsr := hS (dpt g i - 1) (by omega)
        by_cases d6 : g i = 6
        · rw [if_pos d6] at hds
          rw [if_pos (show nI (g i) = (6 : Int32) by rw [d6]; rfl)]
          obtain ⟨ia1, fi1, P1, op1, lf1, rt1, r, a1, a2, a3, a4, a5, a6, a7⟩ := implies_t (fl := fl) (qa := qa) (f := f) (x := St (dpt g i - 1)) (y := 1) hr h2 (by omega) hsr.2.1 (by omega)
          rw [show nI 1 = (1 : Int32) from rfl] at a1
          simp only [R_83_14, nsub1 hd1', An_92 (show dpt g i - 1 < 32 by omega), hsr.1, ck_83, a1, Option.bind_some, sAn_92 (show dpt g i - 1 < 32 by omega)]
          unfold f_X10_partOf_188
          rw [nI_1]
          have hnx := next ia1 fi1 P1 op1 lf1 rt1 (dpt g i - 1) r (by omega) a2 a3 a4 ⟨a5, fun α lv un bn gd d0 d1 hg => ?_⟩ a6.s (fun e he => by rw [a6.1 _ (by omega)])
          · rw [hds] at hnx
            exact hnx
          · rw [a7 α lv un bn gd d0 hg, nv_un d6 hrc, hsr.2.2 α lv un bn gd d0 d1 hg, qv_1 hr.2.2.1 (by omega)]
            have hgd : gd (nv lv un bn g d1 (rc g i)) := by
              have := hg.good (d0 := d0) hr.2.2.1 _ hsr.2.1
              rw [hsr.2.2 α lv un bn gd d0 d1 hg] at this
              exact this
            exact (hg.2.2.1 _ hgd).symm
        · rw [if_neg d6] at hds
          have n6 : ¬ nI (g i) = (6 : Int32) := fun e => d6 ((nI_eq (b := 6) (by omega) (by decide)).mp e)
          have hd2 := g7 (by omega)
          have hlc := lc_lt hok hik (by omega)
          have hsl := hS (dpt g i - 2) (by omega)
          have q7 : (nI (g i) = (7 : Int32)) = (g i = 7) := propext (nI_eq (b := 7) (by omega) (by decide))
          have q8 : (nI (g i) = (8 : Int32)) = (g i = 8) := propext (nI_eq (b := 8) (by omega) (by decide))
          have hsub : nI (dpt g i - 1) - (1 : Int32) = nI (dpt g i - 2) := by rw [nsub1 (show 1 ≤ dpt g i - 1 by omega)]; congr 1
          rw [if_neg n6]
          simp only [R_83_14, nadm1 hd1', hsub, An_92 (show dpt g i - 1 < 32 by omega), An_92 (show dpt g i - 2 < 32 by omega), hsr.1, hsl.1, ck_83, Option.bind_some, q7, q8]
          -- all three signs
          have fin : ∀ o : Option (Int32 × mmF), mkR b ia fi fl qa f P op lf rt (g i) (St (dpt g i - 2)) (St (dpt g i - 1)) o → ∃ (ia2 fi2 : Nat → Nat → Int32) (P2 : Nat) (op2 lf2 rt2 : Nat → Nat) (r2 : Nat), (o.bind fun x => f_X10_partOf_187 (fun a0 a1 a2 a3 a4 => f_X10_partOf_13 q a0 a1 a2 a3 a4) (b + 83) (nI base) (nI (dpt g i - 1)) (nI (1 + i)) (b + 92) (nI (dpt g i - 2)) x.1 x.2) = some (nI r2, wr (SK b) ia2 fi2 fl qa f) ∧ RP b ia2 fi2 P2 op2 lf2 rt2 ∧ REx P op lf rt P2 op2 lf2 rt2 ∧ P2 ≤ P + (m + 1) ∧ isPN P2 op2 lf2 rt2 g (k - 1) r2 ∧ sE b ia fi ia2 fi2 := by
            rintro o ⟨ia1, fi1, P1, op1, lf1, rt1, r, a1, a2, a3, a4, a5, a6, a7⟩
            rw [a1]
            simp only [Option.bind_some]
            unfold f_X10_partOf_187 f_X10_partOf_188
            simp only [sAn_92 (show dpt g i - 2 < 32 by omega), Option.bind_some, nI_1]
            have hnx := next ia1 fi1 P1 op1 lf1 rt1 (dpt g i - 2) r (by omega) a2 a3 a4 ⟨a5, fun α lv un bn gd d0 d1 hg => ?_⟩ a6.s (fun e he => by rw [a6.1 _ (by omega)])
            · rw [hds] at hnx
              exact hnx
            · rw [a7 α lv un bn gd d0 hg, nv_bn (by omega) hlc hrc, hsr.2.2 α lv un bn gd d0 d1 hg, hsl.2.2 α lv un bn gd d0 d1 hg]
              rfl
          by_cases d7 : g i = 7
          · rw [if_pos d7]
            have := both_t (fl := fl) (qa := qa) (f := f) hr h2 (by omega) hsl.2.1 hsr.2.1
            rw [← d7] at this
            exact fin _ this
          · rw [if_neg d7]
            by_cases d8 : g i = 8
            · rw [if_pos d8]
              have := either_t (fl := fl) (qa := qa) (f := f) hr h2 (by omega) hsl.2.1 hsr.2.1
              rw [← d8] at this
              exact fin _ this
            · rw [if_neg d8]
              have d9 : g i = 9 := by omega
              have := implies_t (fl := fl) (qa := qa) (f := f) hr h2 (by omega) hsl.2.1 hsr.2.1
              rw [← d9] at this
              exact fin _ this
theorem partof_t {p k : Nat} {g : Nat → Nat} (hp : p < 5) (hv : VC k g) (hrow : ia (b + 84) (17 + 31 * p) = nI k) (hg : ∀ j, j < k → ia (b + 84) (17 + 31 * p + (1 + j)) = nI (g j)) (hr : RP b ia fi P op lf rt) (h2 : 2 ≤ P) (hP : P + k ≤ 1000) : ∃ (ia1 fi1 : Nat → Nat → Int32) (P1 : Nat) (op1 lf1 rt1 : Nat → Nat) (r : Nat), f_X10_partOf (b + 83) (nI p) (wr (SK b) ia fi fl qa f) = some (nI r, wr (SK b) ia1 fi1 fl qa f) ∧ RP b ia1 fi1 P1 op1 lf1 rt1 ∧ REx P op lf rt P1 op1 lf1 rt1 ∧ P1 ≤ P + k ∧ isPN P1 op1 lf1 rt1 g (k - 1) r ∧ sE b ia fi ia1 fi1 := by
  obtain ⟨qf, hqf⟩ := FU_1000
  have k30 := hv.2.1
  have h := partof_13 (b := b) (fl := fl) (qa := qa) (f := f) (base := 17 + 31 * p) (by omega) hv k 0 FU ia fi P op lf rt (fun _ => 0) (by omega) (by omega) hrow hg hr h2 hP (fun d hd => absurd hd (Nat.not_lt_zero _))
  have e : (17 : Int32) + (31 : Int32) * nI p = nI (17 + 31 * p) := by rw [show (17 : Int32) = nI 17 from rfl, show (31 : Int32) = nI 31 from rfl, pk_mul, nI_add]
  unfold f_X10_partOf
  rw [e]
  exact h
end PO2
