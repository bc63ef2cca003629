/-! THE REFERENCE'S SEARCH: the stack; what a frame keeps while the table grows -/
/-- behind a step of frame v1 -/
noncomputable def aft (n : Nat) (v0 : Nat) (v1 : Int32) (o : Option (Int32 × mmF)) : Option (Int32 × mmF) := o.bind fun q => f_X10_isShown_54 (fun a0 a1 a2 a3 => f_X10_isShown_11 n a0 a1 a2 a3) v0 v1 q.1 q.2
/-- the table's own property -/
def tOK (TI : Nat → (Nat → Nat) → (Nat → Nat) → (Nat → Nat) → Prop) : Prop := (∀ (P : Nat) (op lf rt : Nat → Nat), TI P op lf rt → P + 2 ≤ 1000 ∧ rkB 300 P op lf rt) ∧ grC TI
/-- no OR is given, the choices do not follow, nor the lefts of nests before o -/
def nsS (P : Nat) (op lf rt : Nat → Nat) (Γ : Nat → Bool) (g o : Nat) : Prop := (∀ p, p < P → Γ p = true → op p ≠ 8) ∧ op g ≠ 7 ∧ (op g = 8 → ¬ Prv P op lf rt Γ (lf g) ∧ ¬ Prv P op lf rt Γ (rt g)) ∧ ∀ p, p < P → p < o → nxO op lf Γ 9 p → ¬ Prv P op lf rt Γ (lf p)
/-- the depth's own property -/
def dOK (TI : Nat → (Nat → Nat) → (Nat → Nat) → (Nat → Nat) → Prop) (Dp : Nat → (Nat → Nat) → (Nat → Nat) → (Nat → Nat) → Nat → (Nat → Bool) → Nat → Prop) : Prop :=
  (∀ (P : Nat) (op lf rt : Nat → Nat) (d : Nat) (Γ : Nat → Bool) (g : Nat), Dp P op lf rt d Γ g → d < 600) ∧
  (∀ (d : Nat) (Γ : Nat → Bool) (g : Nat), grC (fun P op lf rt => (2 ≤ P ∧ g < P ∧ inP P Γ) ∧ Dp P op lf rt d Γ g)) ∧
  (∀ (P : Nat) (op lf rt : Nat → Nat) (d : Nat) (Γ : Nat → Bool) (g : Nat), RPo P op lf rt → 2 ≤ P → g < P → inP P Γ → Dp P op lf rt d Γ g → Dp P op lf rt d (upB Γ 0 false) g) ∧
  (∀ (P : Nat) (op lf rt : Nat → Nat) (d : Nat) (Γ : Nat → Bool) (g : Nat), RPo P op lf rt → 2 ≤ P → g < P → inP P Γ → op g = 9 → Dp P op lf rt d Γ g → Dp P op lf rt d (upB Γ (lf g) true) (rt g)) ∧
  (∀ (P : Nat) (op lf rt : Nat → Nat) (d : Nat) (Γ : Nat → Bool) (g p : Nat) (Γ1 : Nat → Bool), RPo P op lf rt → 2 ≤ P → g < P → inP P Γ → p < P → Γ p = true → lsS P op lf rt Γ p Γ1 → Dp P op lf rt d Γ g → Dp P op lf rt d Γ1 g) ∧
  ∀ (P : Nat) (op lf rt : Nat → Nat) (d : Nat) (Γ : Nat → Bool) (g : Nat), RPo P op lf rt → TI P op lf rt → 2 ≤ P → g < P → inP P Γ → setd P op lf rt Γ g → Dp P op lf rt d Γ g →
    (op g = 7 → Dp P op lf rt (d + 1) Γ (lf g) ∧ Dp P op lf rt (d + 1) Γ (rt g)) ∧
    (∀ p, p < P → Γ p = true → op p = 8 → op g ≠ 7 → Dp P op lf rt (d + 1) (upB (upB Γ p false) (lf p) true) g ∧ Dp P op lf rt (d + 1) (upB (upB Γ p false) (rt p) true) g) ∧
    (op g = 8 → (∀ p, p < P → Γ p = true → op p ≠ 8) → Dp P op lf rt (d + 1) Γ (lf g) ∧ Dp P op lf rt (d + 1) Γ (rt g)) ∧
    ∀ p o, p < P → nxO op lf Γ 9 p → nsS P op lf rt Γ g o → d + 1 < 600 ∧ (∀ r, r < P → impS op lf rt r (rt (lf p)) (rt p) → Dp P op lf rt (d + 1) (nsA P op lf rt Γ p r) (rt (lf p))) ∧ (Prv P op lf rt Γ (lf p) → Dp P op lf rt (d + 1) (upB (upB Γ p false) (rt p) true) g)
def Ret (b d : Nat) (fl : Nat → Nat → Int64) (qa : Nat → Nat → Option Nat) (f : mmF) (TI : Nat → (Nat → Nat) → (Nat → Nat) → (Nat → Nat) → Prop) (ia fi : Nat → Nat → Int32) (P : Nat) (op lf rt : Nat → Nat) (X : Prop) (c n : Nat) (o : Option (Int32 × mmF)) : Prop := ∃ (q r : Nat) (ia1 fi1 : Nat → Nat → Int32) (P1 : Nat) (op1 lf1 rt1 : Nat → Nat), n ≤ q + c ∧ o = f_X10_isShown_11 q (b + 83) (nI d + (-1)) (nI r) (wr (SK b) ia1 fi1 fl qa f) ∧ RP b ia1 fi1 P1 op1 lf1 rt1 ∧ grS P op lf rt P1 op1 lf1 rt1 ∧ TI P1 op1 lf1 rt1 ∧ loE b d ia fi ia1 fi1 ∧ ((r = 1 ∧ X) ∨ (r = 0 ∧ ¬ X))
/-- a settled frame -/
def sfS (TI : Nat → (Nat → Nat) → (Nat → Nat) → (Nat → Nat) → Prop) (Dp : Nat → (Nat → Nat) → (Nat → Nat) → (Nat → Nat) → Nat → (Nat → Bool) → Nat → Prop) (d : Nat) (Γ : Nat → Bool) (g : Nat) (X : Prop) (P : Nat) (op lf rt : Nat → Nat) : Prop := (2 ≤ P ∧ g < P ∧ inP P Γ) ∧ TI P op lf rt ∧ Dp P op lf rt d Γ g ∧ setd P op lf rt Γ g ∧ (X ↔ Prv P op lf rt Γ g)
section LOOP
variable {b d : Nat} {ia fi : Nat → Nat → Int32} {fl : Nat → Nat → Int64} {qa : Nat → Nat → Option Nat} {f : mmF} {P : Nat} {op lf rt : Nat → Nat} {Γ : Nat → Bool} {pg : Nat} {TI : Nat → (Nat → Nat) → (Nat → Nat) → (Nat → Nat) → Prop} {Dp : Nat → (Nat → Nat) → (Nat → Nat) → (Nat → Nat) → Nat → (Nat → Bool) → Nat → Prop} {X : Prop}
theorem bind_eta (o : Option (Int32 × mmF)) : (o.bind fun q => some (q.1, q.2)) = o := by
  cases o <;> rfl
theorem aft_2 (n : Nat) (v0 : Nat) (v1 : Int32) (μ : mmF) : aft n v0 v1 (some (2, μ)) = f_X10_isShown_11 n v0 (v1 + 1) 2 μ := by
  unfold aft f_X10_isShown_54 f_X10_isShown_66
  simp only [Option.bind_some]
  rw [if_pos trivial]
theorem aft_r (n : Nat) (v0 : Nat) (v1 : Int32) (μ : mmF) {r : Nat} (hr : r < 2) : aft n v0 v1 (some (nI r, μ)) = f_X10_isShown_11 n v0 (v1 + (-1)) (nI r) μ := by
  unfold aft f_X10_isShown_54 f_X10_isShown_66
  simp only [Option.bind_some]
  obtain rfl | rfl : r = 0 ∨ r = 1 := by omega
  · rw [if_neg (by decide)]
  · rw [if_neg (by decide)]
theorem nI_ng {n : Nat} (h : n < 2000) : ¬ nI n < (0 : Int32) := by
  rw [Int32.not_lt]
  exact nI_nn h
theorem nI_n2 {r : Nat} (hr : r < 2) : ¬ (2 : Int32) ≤ nI r ∧ nI r ≠ (2 : Int32) := by
  obtain rfl | rfl : r = 0 ∨ r = 1 := by omega
  · exact ⟨by decide, by decide⟩
  · exact ⟨by decide, by decide⟩
theorem go_eq (n : Nat) {r : Nat} (hr : r < 2) (hd : d < 600) : f_X10_isShown_11 (n + 1) (b + 83) (nI d) (nI r) (wr (SK b) ia fi fl qa f) = aft n (b + 83) (nI d) (f_X10_goesOn (b + 83) (nI d) (nI r) (wr (SK b) ia fi fl qa f)) := by
  rw [f_X10_isShown_11, if_neg (nI_ng (by omega)), if_neg (nI_n2 hr).1]
  simp only [ck_83, Option.bind_some]
  unfold aft f_X10_isShown_34 f_X10_isShown_53
  simp only [if_neg (nI_n2 hr).2]
theorem new_eq (n : Nat) {r : Nat} {μ : mmF} (hd : d < 600) (h : f_X10_settles (b + 83) (nI d) (wr (SK b) ia fi fl qa f) = some (nI r, μ)) (hμ : ckO μ (b + 83) 10 = some ()) : (r < 2 → f_X10_isShown_11 (n + 1) (b + 83) (nI d) (nI 2) (wr (SK b) ia fi fl qa f) = aft n (b + 83) (nI d) (some (nI r, μ))) ∧ (r = 2 → f_X10_isShown_11 (n + 1) (b + 83) (nI d) (nI 2) (wr (SK b) ia fi fl qa f) = aft n (b + 83) (nI d) (f_X10_begins (b + 83) (nI d) μ)) := by
  constructor
  · intro hr
    rw [f_X10_isShown_11, if_neg (nI_ng (by omega)), if_pos (show (2 : Int32) ≤ nI 2 by decide)]
    simp only [ck_83, h, Option.bind_some]
    unfold aft f_X10_isShown_34 f_X10_isShown_53
    rw [if_pos (show nI 2 = (2 : Int32) from rfl), if_neg (nI_n2 hr).2]
    rfl
  · intro hr
    subst hr
    rw [f_X10_isShown_11, if_neg (nI_ng (by omega)), if_pos (show (2 : Int32) ≤ nI 2 by decide)]
    simp only [ck_83, h, Option.bind_some]
    unfold aft f_X10_isShown_34
    rw [if_pos (show nI 2 = (2 : Int32) from rfl), if_pos (show nI 2 = (2 : Int32) from rfl)]
    simp only [hμ, Option.bind_some]
theorem Ret.of {ia1 fi1 : Nat → Nat → Int32} {P1 c c1 n n1 : Nat} {op1 lf1 rt1 : Nat → Nat} {o : Option (Int32 × mmF)} (h : Ret b d fl qa f TI ia1 fi1 P1 op1 lf1 rt1 X c1 n1 o) (h1 : grS P op lf rt P1 op1 lf1 rt1) (h2 : loE b d ia fi ia1 fi1) (h3 : n + c1 ≤ n1 + c) : Ret b d fl qa f TI ia fi P op lf rt X c n o := by
  obtain ⟨q, r, ia2, fi2, P2, op2, lf2, rt2, a1, a2, a3, a4, a5, a6, a7⟩ := h
  exact ⟨q, r, ia2, fi2, P2, op2, lf2, rt2, by omega, a2, a3, h1.tr a4, a5, h2.tr a6, a7⟩
theorem Ret.cg {c n : Nat} {o : Option (Int32 × mmF)} {Y : Prop} (h : Ret b d fl qa f TI ia fi P op lf rt X c n o) (e : X ↔ Y) : Ret b d fl qa f TI ia fi P op lf rt Y c n o := by
  obtain ⟨q, r, ia2, fi2, P2, op2, lf2, rt2, a1, a2, a3, a4, a5, a6, a7⟩ := h
  exact ⟨q, r, ia2, fi2, P2, op2, lf2, rt2, a1, a2, a3, a4, a5, a6, a7.imp (fun h => ⟨h.1, e.mp h.2⟩) (fun h => ⟨h.1, fun y => h.2 (e.mpr y)⟩)⟩
/-- a result at once -/
theorem Ret.now {c n r : Nat} (hr : r < 2) (h : RP b ia fi P op lf rt) (hT : TI P op lf rt) (hX : (r = 1 ∧ X) ∨ (r = 0 ∧ ¬ X)) : Ret b d fl qa f TI ia fi P op lf rt X c n (aft n (b + 83) (nI d) (some (nI r, wr (SK b) ia fi fl qa f))) := ⟨n, r, ia, fi, P, op, lf, rt, Nat.le_add_right _ _, aft_r _ _ _ _ hr, h, grS.rf, hT, loE.rf, hX⟩
/-- settled frames stay settled while the table grows -/
theorem setd_ext {P1 : Nat} {op1 lf1 rt1 : Nat → Nat} (ho : RPo P op lf rt) (e : REx P op lf rt P1 op1 lf1 rt1) (hG : inP P Γ) (hg : pg < P) (h : setd P op lf rt Γ pg) : setd P1 op1 lf1 rt1 Γ pg := by
  obtain ⟨s1, s2, s3, s4⟩ := h
  have tq := fun (k m : Nat) {p : Nat} (hp : p < P) => tQ_ext ho e k m hp
  refine ⟨fun p hp hp2 => ?_, ?_, ?_, ?_⟩
  · have hpP := hG p hp2
    obtain ⟨e1, e2, e3⟩ := e.2 p hpP
    have := s1 p hpP hp2
    unfold stR at this ⊢
    rw [e1, e2, e3]
    by_cases h6 : op p < 6
    · exact Or.inl (by omega)
    · have hl := (ho.to p hpP).2 (by omega)
      rw [(e.2 (lf p) (by omega)).1]
      exact this
  · unfold chkR at s2 ⊢
    rw [(e.2 pg hg).1]
    exact s2
  · obtain ⟨m, m1, m2⟩ := s3
    exact ⟨m, m1, fun p hp hp2 => by rw [tq 0 m (hG p hp2)]; exact m2 p (hG p hp2) hp2⟩
  · rintro ⟨k, k4, s, m, k1, k2, k3, k5⟩
    refine s4 ⟨k, k4, s, m, k1, k2, fun p hp hp2 => ?_, ?_⟩
    · rw [← tq k m hp]; exact k3 p (Nat.lt_of_lt_of_le hp e.1) hp2
    · rw [← tq k m hg]; exact k5
theorem sf_gr (hT : tOK TI) (hD : dOK TI Dp) : grC (sfS TI Dp d Γ pg X) := by
  intro P op lf rt P1 op1 lf1 rt1 x y r ho ho1 hx hy ha hg ⟨h1, h2, h3, h4, h5⟩
  have e := hg.1
  have hD2 := hD.2.1 d Γ pg _ _ _ _ _ _ _ _ _ _ _ ho ho1 hx hy ha hg ⟨h1, h3⟩
  exact ⟨hD2.1, hT.2 _ _ _ _ _ _ _ _ _ _ _ ho ho1 hx hy ha hg h2, hD2.2, setd_ext ho e h1.2.2 h1.2.1 h4, h5.trans (prv_ext ho e h1.2.2 h1.2.1)⟩
theorem ns_gr {o : Nat} : grC (fun P op lf rt => (2 ≤ P ∧ pg < P ∧ inP P Γ) ∧ nsS P op lf rt Γ pg o) := by
  intro P op lf rt P1 op1 lf1 rt1 x y r ho ho1 hx hy ha hg ⟨⟨a1, a2, a3⟩, h1, h2, h3, h4⟩
  have e := hg.1
  obtain ⟨e1, e2, e3⟩ := e.2 pg a2
  refine ⟨⟨Nat.le_trans a1 e.1, Nat.lt_of_lt_of_le a2 e.1, a3.ex e.1⟩, fun p hp hp2 => ?_, ?_, fun h8 => ?_, fun p hp hpo hn => ?_⟩
  · rw [(e.2 p (a3 p hp2)).1]; exact h1 p (a3 p hp2) hp2
  · rw [e1]; exact h2
  · rw [e1] at h8
    have hl := (ho.to pg a2).2 (by omega)
    obtain ⟨b1, b2⟩ := h3 h8
    rw [e2, e3]
    exact ⟨fun h => b1 ((prv_ext ho e a3 (by omega)).mpr h), fun h => b2 ((prv_ext ho e a3 (by omega)).mpr h)⟩
  · obtain ⟨n1, n2, n3⟩ := hn
    have hpP := a3 p n2
    obtain ⟨f1, f2, f3⟩ := e.2 p hpP
    rw [f1] at n1
    have hl := (ho.to p hpP).2 (by omega)
    rw [f2] at n3 ⊢
    rw [(e.2 (lf p) (by omega)).1] at n3
    exact fun h => h4 p hpP hpo ⟨n1, n2, n3⟩ ((prv_ext ho e a3 (by omega)).mpr h)
end LOOP
