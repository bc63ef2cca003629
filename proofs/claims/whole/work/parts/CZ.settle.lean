/-! THE REFERENCE'S SEARCH: settles, for any property that its small steps keep -/
def jOK (J : Nat → (Nat → Nat) → (Nat → Nat) → (Nat → Nat) → (Nat → Bool) → Nat → Prop) : Prop :=
  (∀ (P : Nat) (op lf rt : Nat → Nat) (Γ : Nat → Bool) (g : Nat), J P op lf rt Γ g → P + 2 ≤ 1000 ∧ rkB 300 P op lf rt) ∧
  (∀ (Γ : Nat → Bool) (g : Nat), grC (fun P op lf rt => (2 ≤ P ∧ g < P ∧ inP P Γ) ∧ J P op lf rt Γ g)) ∧
  (∀ (P : Nat) (op lf rt : Nat → Nat) (Γ : Nat → Bool) (g : Nat), RPo P op lf rt → 2 ≤ P → g < P → inP P Γ → J P op lf rt Γ g → J P op lf rt (upB Γ 0 false) g) ∧
  (∀ (P : Nat) (op lf rt : Nat → Nat) (Γ : Nat → Bool) (g : Nat), RPo P op lf rt → 2 ≤ P → g < P → inP P Γ → op g = 9 → J P op lf rt Γ g → J P op lf rt (upB Γ (lf g) true) (rt g)) ∧
  (∀ (P : Nat) (op lf rt : Nat → Nat) (Γ : Nat → Bool) (g p : Nat) (Γ1 : Nat → Bool), RPo P op lf rt → 2 ≤ P → g < P → inP P Γ → p < P → Γ p = true → lsS P op lf rt Γ p Γ1 → J P op lf rt Γ g → J P op lf rt Γ1 g)
/-- only the parts, and frame d, differ -/
def fE (b d : Nat) (ia fi ia1 fi1 : Nat → Nat → Int32) : Prop := (∀ a, a < b + 93 ∨ b + 98 < a → ia1 a = ia a) ∧ (∀ j, j ≠ d → ia1 (b + 98) j = ia (b + 98) j) ∧ (∀ j, j < 32 * d ∨ 32 * d + 32 ≤ j → ia1 (b + 97) j = ia (b + 97) j) ∧ ∀ a j, a ≠ b + 83 ∨ j ≠ 19 → fi1 a j = fi a j
def stG (b d : Nat) (J : Nat → (Nat → Nat) → (Nat → Nat) → (Nat → Nat) → (Nat → Bool) → Nat → Prop) (ia0 fi0 ia fi : Nat → Nat → Int32) (P : Nat) (op lf rt : Nat → Nat) (Γ : Nat → Bool) (pg : Nat) : Prop := RP b ia fi P op lf rt ∧ 2 ≤ P ∧ gv b ia d Γ ∧ inP P Γ ∧ ia (b + 98) d = nI pg ∧ pg < P ∧ J P op lf rt Γ pg ∧ fE b d ia0 fi0 ia fi
def chkR (op : Nat → Nat) (Γ : Nat → Bool) (pg : Nat) : Prop := op pg ≠ 9 ∧ pg ≠ 0 ∧ Γ 1 = false ∧ Γ pg = false ∧ Γ 0 = false
/-- a settled frame in which there is something to try -/
def setd (P : Nat) (op lf rt : Nat → Nat) (Γ : Nat → Bool) (pg : Nat) : Prop := (∀ p, p < P → Γ p = true → stR op lf rt Γ p) ∧ chkR op Γ pg ∧ plS op lf rt P Γ ∧ ¬ ∃ k, k < 4 ∧ kpF op lf rt P k Γ pg
def RS (b d : Nat) (fl : Nat → Nat → Int64) (qa : Nat → Nat → Option Nat) (f : mmF) (J : Nat → (Nat → Nat) → (Nat → Nat) → (Nat → Nat) → (Nat → Bool) → Nat → Prop) (ia0 fi0 : Nat → Nat → Int32) (o : Option (Int32 × mmF)) : Prop := ∃ (r : Nat) (ia1 fi1 : Nat → Nat → Int32) (P1 : Nat) (op1 lf1 rt1 : Nat → Nat) (Γ1 : Nat → Bool) (pg1 : Nat), o = some (nI r, wr (SK b) ia1 fi1 fl qa f) ∧ stG b d J ia0 fi0 ia1 fi1 P1 op1 lf1 rt1 Γ1 pg1 ∧ ((r = 1 ∧ Prv P1 op1 lf1 rt1 Γ1 pg1) ∨ (r = 0 ∧ ¬ Prv P1 op1 lf1 rt1 Γ1 pg1) ∨ (r = 2 ∧ setd P1 op1 lf1 rt1 Γ1 pg1))
section SETT
variable {b d : Nat} {ia fi ia0 fi0 : Nat → Nat → Int32} {fl : Nat → Nat → Int64} {qa : Nat → Nat → Option Nat} {f : mmF} {J : Nat → (Nat → Nat) → (Nat → Nat) → (Nat → Nat) → (Nat → Bool) → Nat → Prop} {P : Nat} {op lf rt : Nat → Nat} {Γ : Nat → Bool} {pg : Nat}
theorem fE.rf : fE b d ia fi ia fi := ⟨fun _ _ => rfl, fun _ _ => rfl, fun _ _ => rfl, fun _ _ _ => rfl⟩
theorem fE.tr {ia1 fi1 ia2 fi2 : Nat → Nat → Int32} (h : fE b d ia fi ia1 fi1) (h2 : fE b d ia1 fi1 ia2 fi2) : fE b d ia fi ia2 fi2 := ⟨fun a ha => (h2.1 a ha).trans (h.1 a ha), fun j hj => (h2.2.1 j hj).trans (h.2.1 j hj), fun j hj => (h2.2.2.1 j hj).trans (h.2.2.1 j hj), fun a j ha => (h2.2.2.2 a j ha).trans (h.2.2.2 a j ha)⟩
theorem dE.fr {ia1 fi1 : Nat → Nat → Int32} (h : dE b d ia fi ia1 fi1) : fE b d ia fi ia1 fi1 := ⟨fun a ha => h.1 a (by omega), fun j _ => by rw [h.1 (b + 98) (by omega)], h.2.1, h.2.2⟩
theorem fE.g (x : Int32) : fE b d ia fi (u2 ia (b + 98) d x) fi := ⟨fun a ha => u2_row _ _ (by omega), fun j hj => u2_i _ _ hj, fun j _ => u2_a _ _ (by omega), fun _ _ _ => rfl⟩
/-- one part taken to pieces -/
theorem stG.ls {ia1 fi1 : Nat → Nat → Int32} {P1 p : Nat} {op1 lf1 rt1 : Nat → Nat} {Γ1 : Nat → Bool} (hJ : jOK J) (h : stG b d J ia0 fi0 ia fi P op lf rt Γ pg) (hp : p < P) (hg : Γ p = true) (h1 : RP b ia1 fi1 P1 op1 lf1 rt1) (h2 : grS P op lf rt P1 op1 lf1 rt1) (h3 : gv b ia1 d Γ1) (h4 : dE b d ia fi ia1 fi1) (h5 : lsS P1 op1 lf1 rt1 Γ p Γ1) : stG b d J ia0 fi0 ia1 fi1 P1 op1 lf1 rt1 Γ1 pg ∧ muR op1 lf1 rt1 Γ1 pg < muR op lf rt Γ pg := by
  obtain ⟨a1, a2, a3, a4, a5, a6, a7, a8⟩ := h
  have e := h2.ex
  have hX := h2 _ (hJ.2.1 Γ pg) ⟨⟨a2, a6, a4⟩, a7⟩
  have hp1 : p < P1 := Nat.lt_of_lt_of_le hp e.1
  refine ⟨⟨h1, hX.1.1, h3, h5.inP h1.2.2.1 hp1 hX.1.2.2, ?_, hX.1.2.1, hJ.2.2.2.2 _ _ _ _ _ _ _ _ h1.2.2.1 hX.1.1 hX.1.2.1 hX.1.2.2 hp1 hg h5 hX.2, a8.tr h4.fr⟩, ?_⟩
  · rw [h4.1 (b + 98) (by omega)]; exact a5
  · have := ls_dn h1.2.2.1 h1.1 hp1 hg h5
    rw [wt_ext a1.2.2.1 e a4] at this
    unfold muR
    omega
/-- one sweep -/
theorem set_108 {k2 : Nat → Int32 → Int32 → mmF → Option (Int32 × mmF)} {μ0 : Nat} (hJ : jOK J) (hd : d < 600)
    (hk0 : ∀ (ia fi : Nat → Nat → Int32) (P : Nat) (op lf rt : Nat → Nat) (Γ : Nat → Bool) (pg : Nat), stG b d J ia0 fi0 ia fi P op lf rt Γ pg → (∀ p, p < P → Γ p = true → stR op lf rt Γ p) → chkR op Γ pg → RS b d fl qa f J ia0 fi0 (k2 (b + 83) (nI d) (nI 0) (wr (SK b) ia fi fl qa f)))
    (hk1 : ∀ (ia fi : Nat → Nat → Int32) (P : Nat) (op lf rt : Nat → Nat) (Γ : Nat → Bool) (pg : Nat), stG b d J ia0 fi0 ia fi P op lf rt Γ pg → muR op lf rt Γ pg < μ0 → RS b d fl qa f J ia0 fi0 (k2 (b + 83) (nI d) (nI 1) (wr (SK b) ia fi fl qa f))) :
    ∀ (m i q : Nat) (ia fi : Nat → Nat → Int32) (P : Nat) (op lf rt : Nat → Nat) (Γ : Nat → Bool) (pg fg : Nat), i + m = 1000 → m < q → 2 ≤ i → i ≤ P → stG b d J ia0 fi0 ia fi P op lf rt Γ pg → ((fg = 0 ∧ (∀ p, p < i → Γ p = true → stR op lf rt Γ p) ∧ chkR op Γ pg ∧ muR op lf rt Γ pg ≤ μ0) ∨ (fg = 1 ∧ muR op lf rt Γ pg < μ0)) → RS b d fl qa f J ia0 fi0 (f_X10_settles_108 k2 q (b + 83) (nI d) (nI fg) (nI i) (wr (SK b) ia fi fl qa f)) := by
  intro m
  induction m with
  | zero =>
    intro i q ia fi P op lf rt Γ pg fg hi hq h2 hiP h hf
    have := (hJ.1 _ _ _ _ _ _ h.2.2.2.2.2.2.1).1
    omega
  | succ m ih =>
    intro i q ia fi P op lf rt Γ pg fg hi hq h2 hiP h hf
    obtain ⟨q, rfl⟩ : ∃ k, q = k + 1 := ⟨q - 1, by omega⟩
    obtain ⟨a1, a2, a3, a4, a5, a6, a7, a8⟩ := id h
    have hP := (hJ.1 _ _ _ _ _ _ a7).1
    have hfg : fg < 2 := by rcases hf with h | h <;> omega
    rw [f_X10_settles_108]
    simp only [I_83_19, a1.2.1.1, Option.bind_some]
    by_cases c : i = P
    · subst c
      rw [if_pos (Int32.le_refl _)]
      rcases hf with ⟨rfl, f1, f2, f3⟩ | ⟨rfl, f3⟩
      · exact hk0 _ _ _ _ _ _ _ _ h f1 f2
      · exact hk1 _ _ _ _ _ _ _ _ h f3
    rw [if_neg (nI_ge (a := i) (b := P) (by omega) (by omega))]
    simp only [ck_83, has_g a3 hd (show i < 1024 by omega), Option.bind_some]
    have same : Γ i ≠ true ∨ stR op lf rt Γ i → RS b d fl qa f J ia0 fi0 (f_X10_settles_139 k2 (fun a0 a1 a2 a3 a4 => f_X10_settles_108 k2 q a0 a1 a2 a3 a4) (b + 83) (nI d) (nI i) (nI fg) (wr (SK b) ia fi fl qa f)) := by
      intro hs
      unfold f_X10_settles_139 f_X10_settles_140
      rw [show (0 : Int32) = nI 0 from rfl, fa_or, Nat.or_zero, show nI i + 1 = nI (i + 1) from nI_1 _]
      refine ih (i + 1) q ia fi P op lf rt Γ pg fg (by omega) (by omega) (by omega) (by omega) h ?_
      rcases hf with ⟨rfl, f1, f2, f3⟩ | ⟨rfl, f3⟩
      · refine Or.inl ⟨rfl, fun p hp hgp => ?_, f2, f3⟩
        by_cases e : p = i
        · subst e; exact hs.resolve_left (fun hn => hn hgp)
        · exact f1 p (by omega) hgp
      · exact Or.inr ⟨rfl, f3⟩
    by_cases cg : Γ i = true
    · rw [if_pos cg, if_neg (show ¬ (1 : Int32) = 0 by decide)]
      rcases loosens_u (fl := fl) (qa := qa) (f := f) a1 a3 hd (show i < P by omega) hP with ⟨hs, e⟩ | ⟨ia1, fi1, P1, op1, lf1, rt1, Γ1, e, b1, b2, b3, b4, b5, b6⟩
      · simp only [e, Option.bind_some]
        rw [if_pos trivial]
        exact same (Or.inr hs)
      · simp only [e, Option.bind_some]
        rw [if_neg (show ¬ (1 : Int32) = 0 by decide)]
        obtain ⟨g1, g2⟩ := h.ls hJ (show i < P by omega) cg b1 b2 b4 b5 b6
        unfold f_X10_settles_140
        have eo : nI fg ||| (1 : Int32) = nI 1 := by
          rw [show (1 : Int32) = nI 1 from rfl, fa_or]
          obtain rfl | rfl : fg = 0 ∨ fg = 1 := by omega
          · rfl
          · rfl
        rw [eo, show nI i + 1 = nI (i + 1) from nI_1 _]
        refine ih (i + 1) q ia1 fi1 P1 op1 lf1 rt1 Γ1 pg 1 (by omega) (by omega) (by omega) (by have := b2.ex.1; omega) g1 (Or.inr ⟨rfl, ?_⟩)
        rcases hf with ⟨_, _, _, f3⟩ | ⟨_, f3⟩ <;> omega
    · rw [if_neg cg, if_pos rfl]
      exact same (Or.inl cg)
end SETT
