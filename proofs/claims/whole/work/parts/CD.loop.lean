section LOOP
variable {b : Nat} {ia fi ia1 fi1 : Nat → Nat → Int32} {fl : Nat → Nat → Int64} {qa : Nat → Nat → Option Nat} {f : mmF} {S : Nat} {kd lf rt : Nat → Nat}
theorem dcl.ext {K K1 D : Nat → Bool} {p : Nat} (ho : PTo S kd lf rt) (h6 : 6 ≤ p) (hp : p < S) (e : ∀ q, q < S → K1 q = K q) (h : dcl kd lf rt K D p) : dcl kd lf rt K1 D p := by
  obtain ⟨o1, o2, o3, o4, o5⟩ := ho.2.2.2.1 p h6 hp
  unfold dcl at h ⊢
  rw [e p hp, e (lf p) (by omega), e (rt p) (by omega)]
  exact h
theorem setl.ext {K K1 D : Nat → Bool} {g : Nat} (ho : PTo S kd lf rt) (hg : g < S) (e : ∀ q, q < S → K1 q = K q) (h : setl S kd lf rt K D g) : setl S kd lf rt K1 D g := by
  obtain ⟨h1, h2, h3, h4, h5⟩ := h
  have := ho.1
  refine ⟨by rw [e 5 (by omega)]; exact h1, by rw [e g hg]; exact h2, fun p h6 hp h8 hk => ?_, h4, fun p h6 hp => (h5 p h6 hp).ext ho h6 hp e⟩
  obtain ⟨o1, o2, o3, o4, o5⟩ := ho.2.2.2.1 p h6 hp
  rw [e p hp] at hk
  rw [e (lf p) (by omega), e (rt p) (by omega)]
  exact h3 p h6 hp h8 hk
theorem stS.ext {K K0 : Nat → Bool} {p : Nat} (ho : PTo S kd lf rt) (h6 : 6 ≤ p) (hp : p < S) (e : ∀ q, q < S → K q = K0 q) (h : stS kd lf rt K p) : stS kd lf rt K0 p := by
  obtain ⟨o1, o2, o3, o4, o5⟩ := ho.2.2.2.1 p h6 hp
  unfold stS at h ⊢
  rw [e p hp, e (lf p) (by omega), e (rt p) (by omega)] at h
  exact h
/-- what a search one level deeper tells -/
def dpR (S : Nat) (kd lf rt : Nat → Nat) (U F K : Nat → Bool) (l wanted : Nat) (v : Int32) : Prop := (v = 1 ∧ Prv S kd lf rt (fun q => U q && upB K l true q) wanted ∧ (¬ (kd wanted = 9 ∨ kd wanted = 6) → ∀ q, q < 192 → U q = true → upB K l true q = true)) ∨ (v = 0 ∧ RSet S kd lf rt F ∧ (∀ r, r < S → upB K l true r = true → F r = true) ∧ F wanted = false)
theorem deeper_c {j x z l wanted : Nat} {O : Nat → Nat} (hj : j + 1 < 153) (rc : Nat → Int32 → Int32 → mmF → Option (Int32 × mmF)) (hrc : ∀ (wanted : Nat) (ia fi : Nat → Nat → Int32) (x z : Nat) (O : Nat → Nat), wanted < S → pvP b ia fi S kd lf rt (j + 1) x z O → ∃ (v : Int32) (ia1 fi1 : Nat → Nat → Int32) (z1 : Nat) (O1 : Nat → Nat), rc (b + 20) (nI (j + 1)) (nI wanted) (wr (SK b) ia fi fl qa f) = some (v, wr (SK b) ia1 fi1 fl qa f) ∧ pvI b ia1 fi1 S kd lf rt ∧ fG b (j + 1) ia fi ia1 fi1 ∧ TX b x z1 O O1 ia ia1 ∧ TRL b ia1 fi1 S z1 O1 ∧ pvV b S kd lf rt (j + 1) ia1 (sB (ia (b + 35)) 0) wanted v) (hP : pvB b ia fi S kd lf rt j x z O) (hl : l < S) (hw : wanted < S) (hl0 : sB (ia (b + 35)) 0 l = false) : ∃ (ia2 fi2 : Nat → Nat → Int32) (v : Int32) (ia3 fi3 ia4 fi4 : Nat → Nat → Int32), f_X5_goDeeper (b + 20) (nI j) (nI l) (wr (SK b) ia fi fl qa f) = some (wr (SK b) ia2 fi2 fl qa f) ∧ rc (b + 20) (nI (j + 1)) (nI wanted) (wr (SK b) ia2 fi2 fl qa f) = some (v, wr (SK b) ia3 fi3 fl qa f) ∧ ia3 (b + 39) (j + 1) = nI z ∧ f_X2_cutTo (b + 33) (nI z) (wr (SK b) ia3 fi3 fl qa f) = some (wr (SK b) ia4 fi4 fl qa f) ∧ pvB b ia4 fi4 S kd lf rt j x z O ∧ fG b j ia fi ia4 fi4 ∧ (∀ w, (w = b + 41 ∨ w = b + 43 ∨ w = b + 45) → ∀ q, q < 192 → sB (ia4 w) j q = sB (ia w) j q) ∧ TX b z z O O ia ia4 ∧ (∀ q, q < 192 → sB (ia4 (b + 35)) 0 q = sB (ia (b + 35)) 0 q) ∧ dpR S kd lf rt (sB (ia4 (b + 41)) (j + 1)) (sB (ia4 (b + 45)) (j + 1)) (sB (ia4 (b + 35)) 0) l wanted v := by
  obtain ⟨⟨hX, hM, hPI⟩, tr, hs, h4, hjz, hst, hxz⟩ := hP
  have ho := hX.2.1
  have hS := ho.2.1
  have hz := tr.le
  -- the level is made ready
  obtain ⟨iaX, hiaX⟩ : ∃ iaX, iaX = u2 (u2 ia (b + 39) (j + 1) (nI z)) (b + 46) (j + 1) (ia (b + 46) j) := ⟨_, rfl⟩
  have eX : ∀ c, c ≠ b + 39 → c ≠ b + 46 → iaX c = ia c := fun c c1 c2 => by rw [hiaX, u2_row _ _ c2, u2_row _ _ c1]
  have eX39 : iaX (b + 39) (j + 1) = nI z := by rw [hiaX, u2_a _ _ (show b + 39 ≠ b + 46 by omega), u2_s]
  have eX46 : iaX (b + 46) (j + 1) = ia (b + 46) j := by rw [hiaX, u2_s]
  have hGX : fG b j ia fi iaX fi := ⟨fun c _ _ _ c4 _ _ _ c8 _ _ _ _ => eX c c4 c8, fun _ _ _ _ _ => rfl, fun i hi => by rw [hiaX, u2_a _ _ (show b + 39 ≠ b + 46 by omega), u2_i _ _ (show i ≠ j + 1 by omega)], fun i hi => by rw [hiaX, u2_i _ _ (show i ≠ j + 1 by omega), u2_a _ _ (show b + 46 ≠ b + 39 by omega)], fun w hw i q _ _ => by rw [eX w (by omega) (by omega)]⟩
  have hLX : fL b j ia fi iaX fi := ⟨fun c _ _ _ c4 _ _ _ c8 => eX c c4 c8, fun _ _ _ => rfl, hGX.2.2⟩
  have hIX := hLX.I ⟨hX, hM, hPI⟩
  have trX : TRL b iaX fi S z O := tr.cg (eX _ (by omega) (by omega)) (eX _ (by omega) (by omega)) rfl
  have hsX : SG b iaX S kd lf rt (j + 1) (sB (iaX (b + 35)) 0) := by rw [eX _ (by omega) (by omega)]; exact hs.ext eX46 (fun _ _ => rfl)
  obtain ⟨ia2, fi2, z1, O1, a1, a2, a3, a4, a5, a6, a7, a8, a9, a10⟩ := assume_c (fl := fl) (qa := qa) (f := f) hIX.1 hj hl trX hsX
  obtain ⟨a11, a12⟩ := a10 (by rw [eX _ (by omega) (by omega)]; exact hl0)
  subst a11
  have hK2 : ∀ q, q < 192 → sB (ia2 (b + 35)) 0 q = upB (sB (ia (b + 35)) 0) l true q := fun q hq => by rw [a8 q hq, eX _ (by omega) (by omega)]
  have e39 : ia2 (b + 39) = iaX (b + 39) := a3 _ (by omega) (by omega) (by omega) (by omega)
  obtain ⟨v, ia3, fi3, z3, O3, c1, c2, c3, c4, c5, c6⟩ := hrc wanted ia2 fi2 z (z + 1) O1 hw ⟨⟨a2.I hIX, a5, a7, by rw [hK2 4 (by decide)]; exact upB_le h4, by omega, by rw [e39]; exact eX39, Nat.le_succ z⟩, a6⟩
  have e339 : ia3 (b + 39) (j + 1) = nI z := (c3.2.2.1 _ (Nat.le_refl _)).trans (by rw [e39]; exact eX39)
  obtain ⟨ia4, fi4, d1, d2, d3, d4⟩ := cut_c (fl := fl) (qa := qa) (f := f) hS c5 c4.1
  have hO : ∀ i, i < z → O3 i = O i := fun i hi => (c4.2.1 i hi).trans (a4.2.1 i hi)
  have tr4 : TRL b ia4 fi4 S z O := d4.oe hO
  have hK4 : ∀ q, q < 192 → sB (ia4 (b + 35)) 0 q = sB (ia (b + 35)) 0 q := fun q hq => tr.ke tr4 hq
  have hL34 : fL b (j + 1) ia3 fi3 ia4 fi4 := trL (fun c e1 _ _ => d2 c e1) d3
  have hI4 := hL34.I c2
  have hG : fG b j ia fi ia4 fi4 := (hGX.tr ((a2.G).mono (Nat.le_succ j))).tr ((c3.mono (Nat.le_succ j)).tr ((hL34.G).mono (Nat.le_succ j)))
  have hrow : ∀ w, (w = b + 41 ∨ w = b + 43 ∨ w = b + 45) → ∀ q, q < 192 → sB (ia4 w) j q = sB (ia w) j q := fun w hw q hq => by
    have e1 := hL34.2.2.2.2 w hw j q (Nat.lt_succ_self j) hq
    have e2 := c3.2.2.2.2 w hw j q (Nat.lt_succ_self j) hq
    have e3 := a2.2.2.2.2 w hw j q (Nat.lt_succ_self j) hq
    rw [e1, e2, e3, eX w (by omega) (by omega)]
  have e46 : ia4 (b + 46) j = ia (b + 46) j := by
    have e1 := hL34.2.2.2.1 j (Nat.lt_succ_self j)
    have e2 := c3.2.2.2.1 j (Nat.lt_succ_self j)
    have e3 := a2.2.2.2.1 j (Nat.lt_succ_self j)
    rw [e1, e2, e3, hiaX, u2_i _ _ (show j ≠ j + 1 by omega), u2_a _ _ (show b + 46 ≠ b + 39 by omega)]
  have e39j : ia4 (b + 39) j = nI x := (hG.2.2.1 j (Nat.le_refl j)).trans hst
  have hTX : TX b z z O O ia ia4 := ⟨Nat.le_refl z, fun _ _ => rfl, fun i hi q hq => by
    have e1 : ia4 (b + 38) = ia3 (b + 38) := d2 _ (by omega)
    have e2 := c4.2.2 i hi q hq
    have e3 := a4.2.2 i hi q hq
    rw [a4.2.1 i hi] at e2
    rw [e1, e2, e3, eX _ (by omega) (by omega)]⟩
  refine ⟨ia2, fi2, v, ia3, fi3, ia4, fi4, ?_, c1, e339, d1, ⟨hI4, tr4, hs.ext e46 (fun p hp => hK4 p (by omega)), by rw [hK4 4 (by decide)]; exact h4, hjz, e39j, hxz⟩, hG, hrow, hTX, hK4, ?_⟩
  · have e153 : ¬ (153 : Int32) ≤ nI (j + 1) := nI_ge (b := 153) hj (by decide)
    unfold f_X5_goDeeper
    simp only [if_neg (nI_pos (show j < 2 ^ 31 by omega)), nI_1, if_neg e153, R_20_3, R_20_2, I_33_0, tr.1, sAn_39 hj, R_20_7, An_46 (show j < 153 by omega), u2_a _ _ (show b + 46 ≠ b + 39 by omega), sAn_46 hj, ck_20, Option.bind_some]
    rw [← hiaX, a1]
    rfl
  · have e41 : ia4 (b + 41) = ia3 (b + 41) := d2 _ (by omega)
    have e45 : ia4 (b + 45) = ia3 (b + 45) := d2 _ (by omega)
    rw [e41, e45]
    have hK2 : ∀ q, q < 192 → sB (ia2 (b + 35)) 0 q = upB (sB (ia4 (b + 35)) 0) l true q := fun q hq => by
      rw [hK2 q hq]
      unfold upB
      by_cases e : q = l
      · rw [if_pos e, if_pos e]
      · rw [if_neg e, if_neg e, hK4 q hq]
    rcases c6 with ⟨g1, g2, g3⟩ | ⟨g1, g2, g3, g4⟩
    · refine Or.inl ⟨g1, g2.mono (fun p hp hk => ?_), fun hn q hq hk => by rw [← hK2 q hq]; exact g3 hn q hq hk⟩
      rw [hK2 p (by omega)] at hk
      exact hk
    · exact Or.inr ⟨g1, g2, fun r hr hk => g3 r hr (by rw [hK2 r (by omega)]; exact hk), g4⟩
/-- what the loop tells -/
def lpO (b S : Nat) (kd lf rt : Nat → Nat) (fl : Nat → Nat → Int64) (qa : Nat → Nat → Option Nat) (f : mmF) (j x : Nat) (K1 : Nat → Bool) (g : Nat) (ia fi : Nat → Nat → Int32) (O : Nat → Nat) (F : Option (Int32 × mmF)) : Prop := ∃ (r : Int32) (ia1 fi1 : Nat → Nat → Int32) (z1 : Nat) (O1 : Nat → Nat), F = some (r, wr (SK b) ia1 fi1 fl qa f) ∧ pvI b ia1 fi1 S kd lf rt ∧ fG b j ia fi ia1 fi1 ∧ TX b x z1 O O1 ia ia1 ∧ TRL b ia1 fi1 S z1 O1 ∧ pvG b S kd lf rt j ia1 K1 g r
theorem lpO.pre {j x z z1 g : Nat} {K1 : Nat → Bool} {O O1 : Nat → Nat} {F : Option (Int32 × mmF)} (h : lpO b S kd lf rt fl qa f j x K1 g ia1 fi1 O1 F) (hG : fG b j ia fi ia1 fi1) (hT : TX b z z1 O O1 ia ia1) (hx : x ≤ z) : lpO b S kd lf rt fl qa f j x K1 g ia fi O F := by
  obtain ⟨r, ia2, fi2, z2, O2, h1, h2, h3, h4, h5, h6⟩ := h
  exact ⟨r, ia2, fi2, z2, O2, h1, h2, hG.tr h3, (hT.cut hx).tr h4, h5, h6⟩
/-- something more is known, and the trials begin anew -/
theorem grow_c {j x z m0 g r o1 : Nat} {O : Nat → Nat} {K1 : Nat → Bool} (hj : j + 1 < 153) (hg : g < S) (hP : pvB b ia fi S kd lf rt j x z O) (hxm : x ≤ m0) (hmz : m0 ≤ z) (ha : ASM b ia O x m0) (hr : RIG b S kd lf rt ia O g m0 z) (hK1 : ∀ q, q < 192 → (K1 q = true ↔ ∃ i, i < m0 ∧ O i = q)) (hrS : r < S) (hr0 : sB (ia (b + 35)) 0 r = false) (h1 : o1 < 192) (hk1 : sB (ia (b + 35)) 0 o1 = true) (hsem : ∀ (W : Type) (R : W → W → Prop) (V : Nat → W → Prop) (w : W), isKM R V → (∀ q, q < S → (q = o1 ∨ sB (ia (b + 41)) (j + 1) q = true) → sB (ia (b + 35)) 0 q = true → kT R V kd lf rt q w) → kT R V kd lf rt r w ∨ kT R V kd lf rt g w) : ∃ (ia1 fi1 : Nat → Nat → Int32) (t : Int32) (ia2 fi2 : Nat → Nat → Int32) (z2 : Nat) (O2 : Nat → Nat), f_X5_conclude (b + 20) (nI j) (nI r) (nI o1) (wr (SK b) ia fi fl qa f) = some (wr (SK b) ia1 fi1 fl qa f) ∧ f_X5_firstTrial (b + 20) (nI j) (nI g) (wr (SK b) ia1 fi1 fl qa f) = some (t, wr (SK b) ia2 fi2 fl qa f) ∧ pvB b ia2 fi2 S kd lf rt j x z2 O2 ∧ fG b j ia fi ia2 fi2 ∧ TX b z z2 O O2 ia ia2 ∧ z < z2 ∧ lpS b S kd lf rt j x m0 K1 g t ia2 z2 O2 (200 * (S - z2) + 151) := by
  obtain ⟨hI, tr, hs, h4, hjz, hst, hxz⟩ := hP
  have hS := hI.1.2.1.2.1
  obtain ⟨ia1, fi1, a1, a2, a3, a4, a5, a6, a7, a8⟩ := conclude_c (fl := fl) (qa := qa) (f := f) hj hI.1 hrS tr hs hr0 h1 hk1
  have hI1 := a2.I hI
  obtain ⟨t, ia2, fi2, z2, O2, b1, b2, b3, b4, b5, b6, b7, b8, b9⟩ := first_c (fl := fl) (qa := qa) (f := f) (show j < 153 by omega) hI1.1 hg a5 (by omega)
  have hz2 := b4.1
  have hrz : RIG b S kd lf rt ia1 (upN O z r) g z (z + 1) := fun i h2 h3 => by
    have e : i = z := by omega
    subst e
    rw [upN_s]
    refine ⟨fun q hq hk => ?_, fun W R V w hm hw => hsem W R V w hm (fun q hq h5 h6 => hw q hq ((a8 q (by omega)).mpr ⟨h5, h6⟩))⟩
    obtain ⟨jj, h5, h6⟩ := (tr.2.2.2.1 q hq).mp ((a8 q hq).mp hk).2
    exact ⟨jj, h5, by rw [upN_n _ (show jj ≠ i by omega)]; exact h6⟩
  have hT := a4.tr b4
  have ha1 : ASM b ia2 O2 x m0 := fun i h2 h3 q hq => by
    rw [hT.2.1 i (by omega), hT.2.2 i (by omega) q hq]
    exact ha i h2 h3 q hq
  refine ⟨ia1, fi1, t, ia2, fi2, z2, O2, a1, b1, ⟨b2.I hI1, b5, ?_, b7.1 4 (by have := hI.1.2.1.1; omega) (by rw [a6 4 (by decide)]; exact upB_le h4), by omega, ?_, by omega⟩, (a2.G).tr b2.G, hT, by omega, b9.ls hS hxm (by omega) ha1 (((hr.tx a4 (by omega)).app hrz |>.tx b4 (by omega)).app b6.rig) (fun q hq => ?_) b8⟩
  · have e46 : ia2 (b + 46) = ia1 (b + 46) := b3 _ (by omega) (by omega) (by omega) (by omega) (by omega) (by omega)
    exact (a7.ext (by rw [e46]) (fun _ _ => rfl)).cq b7
  · rw [b2.2.2.1 j (Nat.le_refl j), a2.2.2.1 j (Nat.le_refl j)]; exact hst
  · rw [hK1 q hq]
    exact ⟨fun ⟨i, h2, h3⟩ => ⟨i, h2, (hT.2.1 i (by omega)).trans h3⟩, fun ⟨i, h2, h3⟩ => ⟨i, h2, (hT.2.1 i (by omega)).symm.trans h3⟩⟩
/-- the goal is proved -/
theorem shown_c {j x z m0 g M : Nat} {O : Nat → Nat} {K1 : Nat → Bool} (rc : Nat → Int32 → Int32 → mmF → Option (Int32 × mmF)) (hj : j < 153) (hg : g < S) (hP : pvB b ia fi S kd lf rt j x z O) (hxm : x ≤ m0) (hmz : m0 ≤ z) (ha : ASM b ia O x m0) (hr : RIG b S kd lf rt ia O g m0 z) (hK1 : ∀ q, q < 192 → (K1 q = true ↔ ∃ i, i < m0 ∧ O i = q)) (hU : ∀ q, q < 192 → sB (ia (b + 41)) j q = true → sB (ia (b + 35)) 0 q = true) (hV : Prv S kd lf rt (sB (ia (b + 41)) j) g) : lpO b S kd lf rt fl qa f j x K1 g ia fi O (f_X5_proves_329 rc (b + 20) (nI j) (nI g) (-1) (wr (SK b) ia fi fl qa f)) := by
  obtain ⟨⟨hX, hM, hPI⟩, tr, hs, h4, hjz, hst, hxz⟩ := hP
  have hS := hX.2.1.2.1
  obtain ⟨ia1, a1, a2, a3, a4⟩ := explain_c (fl := fl) (qa := qa) (f := f) hj hS hxm hmz tr ha hr hU hV
  have hL1 : fL b j ia fi ia1 fi := a2.L (Or.inl rfl) (Nat.le_refl j)
  obtain ⟨hX1, hM1, ⟨n0, x0, p1, p2, p3, p4, p5⟩⟩ := hL1.I ⟨hX, hM, hPI⟩
  obtain ⟨ia2, fi2, n1, y, z1, z2, z3, z4, z5, z6, z7, z8, z9, z10, z11, z12, z13⟩ := add_p (ia := ia1) (fi := fi) (fl := fl) (qa := qa) (f := f) (g := g) (PS_U b) hj (by omega) p1 p2 p3 p4
  have e : ∀ c, c ≠ b + 53 → c ≠ b + 54 → ia2 c = ia1 c := z10
  have hG2 : fG b j ia1 fi ia2 fi2 := ⟨fun c _ _ _ _ _ _ _ _ _ _ c11 c12 => e c c11 c12, fun c i _ _ c3 => z11 c i c3, fun i _ => by rw [e _ (by omega) (by omega)], fun i _ => by rw [e _ (by omega) (by omega)], fun w hw i q _ _ => by rw [e w (by omega) (by omega)]⟩
  have e41 : ia2 (b + 41) = ia1 (b + 41) := e _ (by omega) (by omega)
  refine ⟨1, ia2, fi2, z, O, ?_, ⟨hX1.cg (fun a h1 h2 => e a (by omega) (by omega)) (funext fun i => z11 _ i (by omega)), ?_, PI_add hg (by omega) p5 (a4.mono (fun p hp hk => by rw [z3 p (by omega)]; exact hk)) z5 z6 z7 z8 z9 z4 z12 z13⟩, (hL1.G).tr hG2, ⟨hxz, fun _ _ => rfl, fun i hi q hq => by rw [e _ (by omega) (by omega), a2.1 _ (by omega)]⟩, tr.cg ((e _ (by omega) (by omega)).trans (a2.1 _ (by omega))) ((e _ (by omega) (by omega)).trans (a2.1 _ (by omega))) (z11 _ _ (by omega)), Or.inl ⟨rfl, by rw [e41]; exact a4, fun q hq hk => by rw [e41] at hk; exact (hK1 q hq).mpr (a3 q hq hk)⟩⟩
  · unfold f_X5_proves_329
    rw [if_pos rfl]
    simp only [R_20_2, R_20_4, R_20_3, An_39 hj, hst, ck_33, a1, R_20_9, ck_51, z1, Option.bind_some]
  · obtain ⟨n, x', e1, e2, e3, e4, e5⟩ := hM1
    exact ⟨n, x', e1, e2, by rw [z11 _ _ (by omega)]; exact e3, by rw [z11 _ _ (by omega)]; exact e4, fun i hi => by
      rw [e (b + 49) (by omega) (by omega)]
      exact e5 i hi⟩
/-- nothing is left to try: a stage at which the goal fails -/
theorem met_c {j x z m0 g : Nat} {O : Nat → Nat} {K1 : Nat → Bool} (rc : Nat → Int32 → Int32 → mmF → Option (Int32 × mmF)) (hj : j < 153) (hg : g < S) (hP : pvB b ia fi S kd lf rt j x z O) (hK1 : ∀ q, q < 192 → (K1 q = true ↔ ∃ i, i < m0 ∧ O i = q)) (hmz : m0 ≤ z) (sat : ∀ p, 6 ≤ p → p < S → stS kd lf rt (sB (ia (b + 35)) 0) p) {Fam : (Nat → Bool) → Prop} {D0 : Nat → Bool} (m1 : ∀ T, Fam T → RSet S kd lf rt T ∧ ∀ p, p < S → sB (ia (b + 35)) 0 p = true → T p = true) (m2 : setl S kd lf rt (sB (ia (b + 35)) 0) D0 g) (m3 : ∀ p, p < S → (sB (ia (b + 45)) j p = true ↔ ∀ T, Fam T → T p = true)) (m4 : ∀ p, 6 ≤ p → p < S → D0 p = true → (kd p = 9 ∨ kd p = 6) → sB (ia (b + 35)) 0 p = false → sB (ia (b + 35)) 0 (lf p) = false → sB (ia (b + 43)) j p = true ∨ ∃ T, Fam T ∧ T p = false) (hno : ∀ p, 6 ≤ p → p < S → ¬ triB kd lf (sB (ia (b + 35)) 0) (sB (ia (b + 43)) j) p) : lpO b S kd lf rt fl qa f j x K1 g ia fi O (f_X5_proves_329 rc (b + 20) (nI j) (nI g) (-2) (wr (SK b) ia fi fl qa f)) := by
  obtain ⟨qf, hqf⟩ := FU_1000
  obtain ⟨⟨hX, hM, hPI⟩, tr, hs, h4, hjz, hst, hxz⟩ := hP
  have ho := hX.2.1
  have hS := ho.2.1
  obtain ⟨n0, x0, p1, p2, p3, p4, p5⟩ := hM
  have hR : ∀ T, Fam T → ∃ (W : Type) (R : W → W → Prop) (V : Nat → W → Prop) (w : W), isKM R V ∧ ∀ p, p < S → (T p = true ↔ kT R V kd lf rt p w) := fun T hT => (m1 T hT).1
  obtain ⟨ia1, fi1, n1, y, z1, z2, z3, z4, z5, z6, z7, z8, z9, z10, z11, z12, z13⟩ := meet_2 (fl := fl) (qa := qa) (f := f) (K := sB (ia (b + 35)) 0) (F := sB (ia (b + 45)) j) hj p1 p2 (fun r hr hk => (m3 r (by have := ho.1; omega)).mpr (fun T hT => (m1 T hT).2 r (by have := ho.1; omega) hk)) (fun r h6 hr h7 hl hrr => by
    obtain ⟨o1, o2, o3, o4, o5⟩ := ho.2.2.2.1 r h6 hr
    refine (m3 r hr).mpr (fun T hT => ?_)
    obtain ⟨W, R, V, w, hm, hw⟩ := hR T hT
    exact (hw r hr).mpr ((kT_7 ho.to hr h7 w).mpr ⟨(hw _ (by omega)).mp ((m3 _ (by omega)).mp hl T hT), (hw _ (by omega)).mp ((m3 _ (by omega)).mp hrr T hT)⟩)) (fun r h6 hr h8 hlr => by
    obtain ⟨o1, o2, o3, o4, o5⟩ := ho.2.2.2.1 r h6 hr
    refine (m3 r hr).mpr (fun T hT => ?_)
    obtain ⟨W, R, V, w, hm, hw⟩ := hR T hT
    exact (hw r hr).mpr ((kT_8 ho.to hr h8 w).mpr (hlr.imp (fun h => (hw _ (by omega)).mp ((m3 _ (by omega)).mp h T hT)) (fun h => (hw _ (by omega)).mp ((m3 _ (by omega)).mp h T hT))))) p3 p4 S 0 FU ia hX (by omega) (by omega) (fun _ _ => rfl) (fun _ _ _ => rfl) (fun r hr => absurd hr (Nat.not_lt_zero _))
  obtain ⟨s1, s2, s3⟩ := settle_T ho hg m1 h4 sat m2 m3 (fun p h6 hp hD hif hk hl => (m4 p h6 hp hD hif hk hl).resolve_left (fun h => hno p h6 hp ⟨h, hif, hk, hl⟩)) z2
  have e : ∀ c, c ≠ b + 45 → c ≠ b + 49 → c ≠ b + 50 → ia1 c = ia c := z3
  refine ⟨0, ia1, fi1, z, O, ?_, ⟨hX.cg (fun a h1 h2 => e a (by omega) (by omega) (by omega)) (funext fun i => z5 _ i (by omega)), MI_add p5 (by omega) (s1.ext (fun p hp => z7 p (by omega))) z9 z10 z11 z12 z13 z8, ?_⟩, ⟨fun c _ _ _ _ _ _ c7 _ c9 c10 _ _ => e c c7 c9 c10, fun c i _ c2 _ => z5 c i c2, fun i _ => by rw [e _ (by omega) (by omega) (by omega)], fun i _ => by rw [e _ (by omega) (by omega) (by omega)], fun w hw i q hi hq => ?_⟩, ⟨hxz, fun _ _ => rfl, fun i hi q hq => by rw [e _ (by omega) (by omega) (by omega)]⟩, tr.cg (e _ (by omega) (by omega) (by omega)) (e _ (by omega) (by omega) (by omega)) (z5 _ _ (by omega)), Or.inr ⟨rfl, s1, fun p hp hk => s2 p hp ?_, s3⟩⟩
  · unfold f_X5_proves_329
    rw [if_neg (show ¬ (-2 : Int32) = -1 by decide)]
    unfold f_X5_meet
    rw [show nI 0 = (0 : Int32) from rfl] at z1
    simp only [ck_20, z1, Option.bind_some]
  · obtain ⟨n, x', e1, e2, e3, e4, e5⟩ := hPI
    exact ⟨n, x', e1, e2, by rw [z5 _ _ (by omega)]; exact e3, by rw [z5 _ _ (by omega)]; exact e4, fun i hi => by
      rw [e (b + 53) (by omega) (by omega) (by omega), e (b + 54) (by omega) (by omega) (by omega)]
      exact e5 i hi⟩
  · by_cases ew : w = b + 45
    · subst ew; exact z4 i q (by omega) hq
    · rw [e w ew (by omega) (by omega)]
  · obtain ⟨i, h1, h2⟩ := (hK1 p (by omega)).mp hk
    exact (tr.2.2.2.1 p (by omega)).mpr ⟨i, by omega, h2⟩
end LOOP
