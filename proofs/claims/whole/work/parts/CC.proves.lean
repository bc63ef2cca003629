/-! THE CLASS PROVES -/
def pvI (b : Nat) (ia fi : Nat → Nat → Int32) (S : Nat) (kd lf rt : Nat → Nat) : Prop := LX b ia fi S kd lf rt ∧ MI b ia fi S kd lf rt ∧ PI b ia fi S kd lf rt
/-- a level, when it is on: what is known, from where, with which single stages -/
def pvB (b : Nat) (ia fi : Nat → Nat → Int32) (S : Nat) (kd lf rt : Nat → Nat) (j x z : Nat) (O : Nat → Nat) : Prop := pvI b ia fi S kd lf rt ∧ TRL b ia fi S z O ∧ SG b ia S kd lf rt j (sB (ia (b + 35)) 0) ∧ sB (ia (b + 35)) 0 4 = true ∧ j + 1 ≤ z ∧ ia (b + 39) j = nI x ∧ x ≤ z
def pvP (b : Nat) (ia fi : Nat → Nat → Int32) (S : Nat) (kd lf rt : Nat → Nat) (j x z : Nat) (O : Nat → Nat) : Prop := pvB b ia fi S kd lf rt j x z O ∧ ASM b ia O x z
/-- what the search tells: with what used it follows, or a stage at which it fails -/
def pvV (b S : Nat) (kd lf rt : Nat → Nat) (j : Nat) (ia : Nat → Nat → Int32) (K : Nat → Bool) (g : Nat) (v : Int32) : Prop := (v = 1 ∧ Prv S kd lf rt (fun q => sB (ia (b + 41)) j q && K q) g ∧ (¬ (kd g = 9 ∨ kd g = 6) → ∀ q, q < 192 → sB (ia (b + 41)) j q = true → K q = true)) ∨ (v = 0 ∧ RSet S kd lf rt (sB (ia (b + 45)) j) ∧ (∀ p, p < S → K p = true → sB (ia (b + 45)) j p = true) ∧ sB (ia (b + 45)) j g = false)
def pvG (b S : Nat) (kd lf rt : Nat → Nat) (j : Nat) (ia : Nat → Nat → Int32) (K : Nat → Bool) (g : Nat) (v : Int32) : Prop := (v = 1 ∧ Prv S kd lf rt (sB (ia (b + 41)) j) g ∧ ∀ q, q < 192 → sB (ia (b + 41)) j q = true → K q = true) ∨ (v = 0 ∧ RSet S kd lf rt (sB (ia (b + 45)) j) ∧ (∀ p, p < S → K p = true → sB (ia (b + 45)) j p = true) ∧ sB (ia (b + 45)) j g = false)
/-- what became known, as far as the goal fails, follows from what was known earlier -/
def RIG (b S : Nat) (kd lf rt : Nat → Nat) (ia : Nat → Nat → Int32) (O : Nat → Nat) (g x y : Nat) : Prop := ∀ i, x ≤ i → i < y → (∀ q, q < 192 → sB (ia (b + 38)) (O i) q = true → ∃ j, j < i ∧ O j = q) ∧ ∀ (W : Type) (R : W → W → Prop) (V : Nat → W → Prop) (w : W), isKM R V → (∀ q, q < S → sB (ia (b + 38)) (O i) q = true → kT R V kd lf rt q w) → kT R V kd lf rt (O i) w ∨ kT R V kd lf rt g w
section PROVES
variable {b : Nat} {ia fi ia1 fi1 : Nat → Nat → Int32} {fl : Nat → Nat → Int64} {qa : Nat → Nat → Option Nat} {f : mmF} {S : Nat} {kd lf rt : Nat → Nat}
theorem fL.I {j : Nat} (h : fL b j ia fi ia1 fi1) (hi : pvI b ia fi S kd lf rt) : pvI b ia1 fi1 S kd lf rt := by
  obtain ⟨h1, ⟨n, x, m1, m2, m3, m4, m5⟩, ⟨n', x', p1, p2, p3, p4, p5⟩⟩ := hi
  have e : ∀ a, (a = b + 49 ∨ a = b + 53 ∨ a = b + 54) → ia1 a = ia a := fun a ha => h.1 a (by omega) (by omega) (by omega) (by omega) (by omega) (by omega) (by omega) (by omega)
  have e2 : ∀ a i, (a = b + 47 ∨ a = b + 51) → fi1 a i = fi a i := fun a i ha => h.2.1 a i (by omega)
  refine ⟨h.lx h1, ⟨n, x, m1, m2, (e2 _ _ (Or.inl rfl)).trans m3, (e2 _ _ (Or.inl rfl)).trans m4, fun i hi => ?_⟩, ⟨n', x', p1, p2, (e2 _ _ (Or.inr rfl)).trans p3, (e2 _ _ (Or.inr rfl)).trans p4, fun i hi => ?_⟩⟩
  · rw [e _ (Or.inl rfl)]; exact m5 i hi
  · rw [e _ (Or.inr (Or.inl rfl)), e _ (Or.inr (Or.inr rfl))]; exact p5 i hi
theorem INF.rig {g x y : Nat} {O : Nat → Nat} (h : INF b S kd lf rt ia O x y) : RIG b S kd lf rt ia O g x y := fun i h1 h2 => ⟨(h i h1 h2).1, fun W R V w hm hw => Or.inl ((h i h1 h2).2 W R V w hm hw)⟩
theorem RIG.tx {g x z z1 : Nat} {O O1 : Nat → Nat} (h : RIG b S kd lf rt ia O g x z) (t : TX b z z1 O O1 ia ia1) (hS : S ≤ 192) : RIG b S kd lf rt ia1 O1 g x z := fun i h1 h2 => by
  obtain ⟨a1, a2⟩ := h i h1 h2
  refine ⟨fun q hq hk => ?_, fun W R V w hm hw => ?_⟩
  · rw [t.2.1 i h2, t.2.2 i h2 q hq] at hk
    obtain ⟨j, hj, e⟩ := a1 q hq hk
    exact ⟨j, hj, (t.2.1 j (by omega)).trans e⟩
  · rw [t.2.1 i h2] at hw ⊢
    exact a2 W R V w hm (fun q hq hk => hw q hq (by rw [t.2.2 i h2 q (by omega)]; exact hk))
theorem RIG.app {g x y z : Nat} {O : Nat → Nat} (h : RIG b S kd lf rt ia O g x y) (h2 : RIG b S kd lf rt ia O g y z) : RIG b S kd lf rt ia O g x z := fun i h3 h4 => by
  by_cases c : i < y
  · exact h i h3 c
  · exact h2 i (by omega) h4
theorem TRL.oe {z : Nat} {O O1 : Nat → Nat} (h : TRL b ia fi S z O1) (e : ∀ i, i < z → O1 i = O i) : TRL b ia fi S z O := by
  obtain ⟨h1, h2, h3, h4, h5⟩ := h
  refine ⟨h1, fun i hi => by rw [← e i hi]; exact h2 i hi, fun i j h6 h7 => by rw [← e i (by omega), ← e j h7]; exact h3 i j h6 h7, fun p hp => ?_, h5⟩
  rw [h4 p hp]
  exact ⟨fun ⟨i, hi, h6⟩ => ⟨i, hi, (e i hi).symm.trans h6⟩, fun ⟨i, hi, h6⟩ => ⟨i, hi, (e i hi).trans h6⟩⟩
theorem TRL.ke {z : Nat} {O : Nat → Nat} (h : TRL b ia fi S z O) (h2 : TRL b ia1 fi1 S z O) {q : Nat} (hq : q < 192) : sB (ia1 (b + 35)) 0 q = sB (ia (b + 35)) 0 q := by
  have e : sB (ia1 (b + 35)) 0 q = true ↔ sB (ia (b + 35)) 0 q = true := (h2.2.2.2.1 q hq).trans (h.2.2.2.1 q hq).symm
  cases h3 : sB (ia (b + 35)) 0 q with
  | true => exact e.mpr h3
  | false =>
    cases h4 : sB (ia1 (b + 35)) 0 q with
    | false => rfl
    | true => have := e.mp h4; rw [h3] at this; cases this
/-- what is used, in the words of what was known first -/
theorem explain_8 {j g x m0 z : Nat} {O : Nat → Nat} (hj : j < 153) (hxm : x ≤ m0) : ∀ (t q : Nat) (ia : Nat → Nat → Int32), S ≤ 151 → t ≤ z → x ≤ t → t < q → TRL b ia fi S z O → ASM b ia O x m0 → RIG b S kd lf rt ia O g m0 z → (∀ q, q < 192 → sB (ia (b + 41)) j q = true → ∃ i, (i < t ∨ i < m0) ∧ i < z ∧ O i = q) → Prv S kd lf rt (sB (ia (b + 41)) j) g → ∃ ia1, f_X2_explain_8 q (b + 33) (b + 40) (nI j) (nI x) (nI t - 1) (wr (SK b) ia fi fl qa f) = some (wr (SK b) ia1 fi fl qa f) ∧ sEw ia ia1 (b + 41) j (sB (ia1 (b + 41)) j) ∧ (∀ q, q < 192 → sB (ia1 (b + 41)) j q = true → ∃ i, i < m0 ∧ O i = q) ∧ Prv S kd lf rt (sB (ia1 (b + 41)) j) g := by
  intro t
  induction t with
  | zero =>
    intro q ia hS ht hxt hq tr ha hr hU hP
    obtain ⟨q, rfl⟩ : ∃ k, q = k + 1 := ⟨q - 1, by omega⟩
    have e : x = 0 := by omega
    subst e
    refine ⟨ia, ?_, sEw.rf j, fun q hq hk => ?_, hP⟩
    · rw [f_X2_explain_8, if_pos (show nI 0 - 1 < nI 0 by decide)]
    · obtain ⟨i, h1, h2, h3⟩ := hU q hq hk
      exact ⟨i, by omega, h3⟩
  | succ t ih =>
    intro q ia hS ht hxt hq tr ha hr hU hP
    obtain ⟨q, rfl⟩ : ∃ k, q = k + 1 := ⟨q - 1, by omega⟩
    have hz := tr.le
    have hO := (tr.2.1 t (by omega)).2
    have hlt : (nI t < nI x) = (t < x) := propext (nI_ltI (by omega) (by omega))
    rw [f_X2_explain_8, nI_pred]; simp only [hlt]
    by_cases cx : t < x
    · rw [if_pos cx]
      refine ⟨ia, rfl, sEw.rf j, fun q hq hk => ?_, hP⟩
      obtain ⟨i, h1, h2, h3⟩ := hU q hq hk
      exact ⟨i, by omega, h3⟩
    · rw [if_neg cx, if_neg (nI_pos (show t < 2 ^ 31 by omega))]
      simp only [ck_33, k_part tr hS (show t < z by omega), ps_ck (PS_U b), has_s (PS_U b) hj (show O t < 192 by omega), Option.bind_some, b01]
      cases hb : sB (ia (b + 41)) j (O t) with
      | false =>
        rw [if_pos (rfl : false = false)]
        obtain ⟨ia1, a1, a2⟩ := ih q ia hS (by omega) (by omega) (by omega) tr ha hr (fun q hq hk => by
          obtain ⟨i, h1, h2, h3⟩ := hU q hq hk
          refine ⟨i, ?_, h2, h3⟩
          by_cases e : i = t
          · subst e; rw [h3, hk] at hb; cases hb
          · omega) hP
        refine ⟨ia1, ?_, a2⟩
        unfold f_X2_explain_55
        rw [show nI t + (-1 : Int32) = nI t - 1 from (Int32.sub_eq_add_neg _ _).symm]
        exact a1
      | true =>
        rw [if_neg (show ¬ true = false by decide)]
        obtain ⟨ia1, a1, a2⟩ := remove_s (ia := ia) (fi := fi) (fl := fl) (qa := qa) (f := f) (PS_U b) hj (show O t < 192 by omega)
        obtain ⟨ia2, b1, b2⟩ := unite_s (ia := ia1) (fi := fi) (fl := fl) (qa := qa) (f := f) (PS_U b) (PS_R b) hj (show O t < 151 by omega)
        have e38 : ia1 (b + 38) = ia (b + 38) := a2.1 _ (by omega)
        have eo : ∀ c, c ≠ b + 41 → ia2 c = ia c := fun c hc => (b2.1 c hc).trans (a2.1 c hc)
        have eU : ∀ q, q < 192 → (sB (ia2 (b + 41)) j q = true ↔ (q ≠ O t ∧ sB (ia (b + 41)) j q = true) ∨ sB (ia (b + 38)) (O t) q = true) := fun q hq => by
          rw [b2.2.2 q hq, Bool.or_eq_true, a2.2.2 q hq, e38]
          unfold upB
          by_cases e : q = O t
          · rw [if_pos e]
            exact ⟨fun h => h.elim (fun h => by cases h) Or.inr, fun h => h.elim (fun h => absurd e h.1) Or.inr⟩
          · rw [if_neg e]
            exact ⟨fun h => h.imp (fun h => ⟨e, h⟩) id, fun h => h.imp (fun h => h.2) id⟩
        have hself : ∀ (W : Type) (R : W → W → Prop) (V : Nat → W → Prop) (w : W), isKM R V → (∀ q, q < S → sB (ia (b + 38)) (O t) q = true → kT R V kd lf rt q w) → kT R V kd lf rt (O t) w ∨ kT R V kd lf rt g w := fun W R V w hm hw => by
          by_cases c : t < m0
          · exact Or.inl (hw (O t) hO ((ha t (by omega) c (O t) (by omega)).mpr rfl))
          · exact (hr t (by omega) (by omega)).2 W R V w hm hw
        obtain ⟨ia3, c1, c2, c3, c4⟩ := ih q ia2 hS (by omega) (by omega) (by omega) (tr.cg (eo _ (by omega)) (eo _ (by omega)) rfl) (fun i h1 h2 q hq => by rw [eo _ (by omega)]; exact ha i h1 h2 q hq) (fun i h1 h2 => by rw [eo _ (by omega)]; exact hr i h1 h2) (fun q hq hk => by
          rcases (eU q hq).mp hk with ⟨h1, h2⟩ | h1
          · obtain ⟨i, h3, h4, h5⟩ := hU q hq h2
            refine ⟨i, ?_, h4, h5⟩
            by_cases e : i = t
            · subst e; exact absurd h5.symm h1
            · omega
          · by_cases c : t < m0
            · exact ⟨t, Or.inr c, by omega, ((ha t (by omega) c q hq).mp h1).symm⟩
            · obtain ⟨i, h3, h4⟩ := (hr t (by omega) (by omega)).1 q hq h1
              exact ⟨i, Or.inl h3, by omega, h4⟩) (fun W R V w hm hw => by
          rcases hself W R V w hm (fun q hq hk => hw q hq ((eU q (by omega)).mpr (Or.inr hk))) with h1 | h1
          · refine hP W R V w hm (fun q hq hk => ?_)
            by_cases e : q = O t
            · rw [e]; exact h1
            · exact hw q hq ((eU q (by omega)).mpr (Or.inl ⟨e, hk⟩))
          · exact h1)
        refine ⟨ia3, ?_, (a2.tr (b2.ext (fun q hq => (b2.2.2 q hq).symm))).tr c2, c3, c4⟩
        simp only [a1, R_33_4, ps_ck (PS_U b), b1, Option.bind_some]
        unfold f_X2_explain_55
        rw [show nI t + (-1 : Int32) = nI t - 1 from (Int32.sub_eq_add_neg _ _).symm]
        exact c1
theorem explain_c {j g x m0 z : Nat} {O : Nat → Nat} (hj : j < 153) (hS : S ≤ 151) (hxm : x ≤ m0) (hmz : m0 ≤ z) (tr : TRL b ia fi S z O) (ha : ASM b ia O x m0) (hr : RIG b S kd lf rt ia O g m0 z) (hU : ∀ q, q < 192 → sB (ia (b + 41)) j q = true → sB (ia (b + 35)) 0 q = true) (hP : Prv S kd lf rt (sB (ia (b + 41)) j) g) : ∃ ia1, f_X2_explain (b + 33) (b + 40) (nI j) (nI x) (wr (SK b) ia fi fl qa f) = some (wr (SK b) ia1 fi fl qa f) ∧ sEw ia ia1 (b + 41) j (sB (ia1 (b + 41)) j) ∧ (∀ q, q < 192 → sB (ia1 (b + 41)) j q = true → ∃ i, i < m0 ∧ O i = q) ∧ Prv S kd lf rt (sB (ia1 (b + 41)) j) g := by
  obtain ⟨qf, hqf⟩ := FU_1000
  have hz := tr.le
  obtain ⟨ia1, a1, a2⟩ := explain_8 (fl := fl) (qa := qa) (f := f) hj hxm z FU ia hS (Nat.le_refl z) (by omega) (by omega) tr ha hr (fun q hq hk => by
    obtain ⟨i, h1, h2⟩ := (tr.2.2.2.1 q hq).mp (hU q hq hk)
    exact ⟨i, Or.inl h1, h1, h2⟩) hP
  refine ⟨ia1, ?_, a2⟩
  unfold f_X2_explain
  simp only [I_33_0, tr.1, Option.bind_some]
  exact a1
/-- what was shown a level deeper makes a part known -/
theorem conclude_c {j p o1 z : Nat} {O : Nat → Nat} (hj : j + 1 < 153) (h : LX b ia fi S kd lf rt) (hp : p < S) (t : TRL b ia fi S z O) (hs : SG b ia S kd lf rt j (sB (ia (b + 35)) 0)) (hk : sB (ia (b + 35)) 0 p = false) (h1 : o1 < 192) (hk1 : sB (ia (b + 35)) 0 o1 = true) : ∃ ia1 fi1, f_X5_conclude (b + 20) (nI j) (nI p) (nI o1) (wr (SK b) ia fi fl qa f) = some (wr (SK b) ia1 fi1 fl qa f) ∧ fL b j ia fi ia1 fi1 ∧ (∀ c, c ≠ b + 35 → c ≠ b + 36 → c ≠ b + 38 → c ≠ b + 46 → ia1 c = ia c) ∧ TX b z (z + 1) O (upN O z p) ia ia1 ∧ TRL b ia1 fi1 S (z + 1) (upN O z p) ∧ (∀ q, q < 192 → sB (ia1 (b + 35)) 0 q = upB (sB (ia (b + 35)) 0) p true q) ∧ SG b ia1 S kd lf rt j (sB (ia1 (b + 35)) 0) ∧ ∀ q, q < 192 → (sB (ia1 (b + 38)) p q = true ↔ (q = o1 ∨ sB (ia (b + 41)) (j + 1) q = true) ∧ sB (ia (b + 35)) 0 q = true) := by
  have hS := h.2.1.2.1
  obtain ⟨X, x1, x2, x3⟩ := hs
  have e153 : ¬ (153 : Int32) ≤ nI j := nI_ge (b := 153) (by omega) (by decide)
  have q0 : ¬ nI j < 0 := nI_pos (by omega)
  rcases infer_c (fl := fl) (qa := qa) (f := f) hS t hp h1 h1 with ⟨k1, _⟩ | ⟨_, ia1, fi1, a1, a2, a3, a4, a5, a6, a7, a8⟩
  · rw [hk] at k1; cases k1
  · obtain ⟨ia2, b1, b2⟩ := unite_s (ia := ia1) (fi := fi1) (fl := fl) (qa := qa) (f := f) (PS_R b) (PS_U b) (show p < 151 by omega) hj
    obtain ⟨ia3, c1, c2⟩ := keepOnly_s (ia := ia2) (fi := fi1) (fl := fl) (qa := qa) (f := f) (PS_R b) (PS_K b) (k2 := 0) (show p < 151 by omega) (by decide)
    obtain ⟨ia4, d1, d2⟩ := remove_s (ia := ia3) (fi := fi1) (fl := fl) (qa := qa) (f := f) (PS_R b) (show p < 151 by omega) (show p < 192 by omega)
    rw [show nI 0 = (0 : Int32) from rfl] at c1
    have eo : ∀ c, c ≠ b + 38 → ia4 c = ia1 c := fun c hc => (d2.1 c hc).trans ((c2.1 c hc).trans (b2.1 c hc))
    have e41 : ia1 (b + 41) = ia (b + 41) := a2 _ (by omega) (by omega) (by omega)
    have e46 : ia4 (b + 46) = ia (b + 46) := (eo _ (by omega)).trans (a2 _ (by omega) (by omega) (by omega))
    have e35 : ia2 (b + 35) = ia1 (b + 35) := b2.1 _ (by omega)
    have hL4 : fL b j ia fi ia4 fi1 := trL (fun c h2 h3 h4 => (eo c h4).trans (a2 c h2 h3 h4)) a3
    have hx4 := hL4.lx h
    have eR : ∀ q, q < 192 → (sB (ia4 (b + 38)) p q = true ↔ (q = o1 ∨ sB (ia (b + 41)) (j + 1) q = true) ∧ sB (ia (b + 35)) 0 q = true) := fun q hq => by
      rw [d2.2.2 q hq]
      unfold upB
      by_cases e : q = p
      · rw [if_pos e, e, hk]
        exact ⟨fun h => (by cases h), fun h => (by cases h.2)⟩
      · rw [if_neg e, c2.2.2 q hq, Bool.and_eq_true, e35, a6 q hq, upB_n _ _ e, b2.2.2 q hq, Bool.or_eq_true, a5 q hq, e41]
        exact ⟨fun h => ⟨h.1.imp (fun h => h.elim id id) id, h.2⟩, fun h => ⟨h.1.imp Or.inl id, h.2⟩⟩
    have eq6 : ∀ c, c ≠ b + 46 → (u2 ia4 (b + 46) j (nI (X &&& fN kd lf rt (fun _ => 65535) 0 0 p))) c = ia4 c := fun c hc => u2_row _ _ hc
    have eK : ∀ q, q < 192 → sB ((u2 ia4 (b + 46) j (nI (X &&& fN kd lf rt (fun _ => 65535) 0 0 p))) (b + 35)) 0 q = upB (sB (ia (b + 35)) 0) p true q := fun q hq => by
      rw [eq6 _ (by omega), eo _ (by omega)]
      exact a6 q hq
    refine ⟨u2 ia4 (b + 46) j (nI (X &&& fN kd lf rt (fun _ => 65535) 0 0 p)), fi1, ?_, hL4.tr ⟨fun c _ _ _ _ _ _ _ h8 => eq6 c h8, fun _ _ _ => rfl, fun i _ => by rw [eq6 _ (by omega)], fun i hi => u2_i _ _ (by omega), fun w hw i q _ _ => by rw [eq6 w (by omega)]⟩, fun c h2 h3 h4 h5 => (eq6 c h5).trans ((eo c h4).trans (a2 c h2 h3 h4)), ⟨Nat.le_succ z, fun i hi => upN_n _ (by omega), fun i hi q hq => ?_⟩, a8.cg ((eq6 _ (by omega)).trans (eo _ (by omega))) ((eq6 _ (by omega)).trans (eo _ (by omega))) rfl, eK, SG.add h.2.1 x1 hp x3 (fun q hq => eK q (by omega)) (u2_s _ _ _ _), fun q hq => by rw [eq6 _ (by omega)]; exact eR q hq⟩
    · have ck0 := k_has (ia := ia) (fi := fi) (fl := fl) (qa := qa) (f := f) (b := b) (p := p) (by omega)
      unfold f_X5_conclude f_X2_conclude
      simp only [R_20_2, R_20_4, ck_33, ck0, hk, if_neg (show ¬ (false = true) by decide), if_true, a1, R_33_4, ps_ck (PS_R b), nI_1, b1, R_33_1, c1, d1, Option.bind_some, if_neg q0, if_neg e153, R_20_7, An_46 (show j < 153 by omega), e46, x2, R_20_0, ck_21, singles_c hx4 hp, fa_and, sAn_46 (show j < 153 by omega)]
    · have hne : O i ≠ p := fun e => by
        have := t.at hS hi
        rw [e, hk] at this
        cases this
      rw [eq6 _ (by omega), d2.2.1 _ hne q hq, c2.2.1 _ hne q hq, b2.2.1 _ hne q hq]
      exact a4 _ hne q hq
/-- the state of the loop -/
def lpS (b S : Nat) (kd lf rt : Nat → Nat) (j x m0 : Nat) (K1 : Nat → Bool) (g : Nat) (t : Int32) (ia : Nat → Nat → Int32) (z : Nat) (O : Nat → Nat) (M : Nat) : Prop := x ≤ m0 ∧ m0 ≤ z ∧ ASM b ia O x m0 ∧ RIG b S kd lf rt ia O g m0 z ∧ (∀ q, q < 192 → (K1 q = true ↔ ∃ i, i < m0 ∧ O i = q)) ∧ (∀ p, 6 ≤ p → p < S → stS kd lf rt (sB (ia (b + 35)) 0) p) ∧ ((t = -1 ∧ (∀ q, q < 192 → sB (ia (b + 41)) j q = true → sB (ia (b + 35)) 0 q = true) ∧ Prv S kd lf rt (sB (ia (b + 41)) j) g) ∨ (200 * (S - z) ≤ M ∧ ∃ p, t = nI p ∧ 6 ≤ p ∧ p < S ∧ kd p = 8 ∧ sB (ia (b + 35)) 0 p = true ∧ sB (ia (b + 35)) 0 (lf p) = false ∧ sB (ia (b + 35)) 0 (rt p) = false) ∨ ∃ (Fam : (Nat → Bool) → Prop) (D0 : Nat → Bool), (∀ T, Fam T → RSet S kd lf rt T ∧ ∀ p, p < S → sB (ia (b + 35)) 0 p = true → T p = true) ∧ setl S kd lf rt (sB (ia (b + 35)) 0) D0 g ∧ (∀ p, p < S → (sB (ia (b + 45)) j p = true ↔ ∀ T, Fam T → T p = true)) ∧ (∀ p, 6 ≤ p → p < S → D0 p = true → (kd p = 9 ∨ kd p = 6) → sB (ia (b + 35)) 0 p = false → sB (ia (b + 35)) 0 (lf p) = false → sB (ia (b + 43)) j p = true ∨ ∃ T, Fam T ∧ T p = false) ∧ 200 * (S - z) + cnS (sB (ia (b + 43)) j) S ≤ M ∧ ((∃ p, t = nI p ∧ 6 ≤ p ∧ p < S ∧ triB kd lf (sB (ia (b + 35)) 0) (sB (ia (b + 43)) j) p) ∨ (t = -2 ∧ ∀ p, 6 ≤ p → p < S → ¬ triB kd lf (sB (ia (b + 35)) 0) (sB (ia (b + 43)) j) p)))
/-- what the first trial tells, as the loop's state -/
theorem ftR.ls {j g x m0 z : Nat} {O : Nat → Nat} {t : Int32} {K1 : Nat → Bool} (hS : S ≤ 151) (h : ftR b j S kd lf rt g t ia) (h1 : x ≤ m0) (h2 : m0 ≤ z) (h3 : ASM b ia O x m0) (h4 : RIG b S kd lf rt ia O g m0 z) (h5 : ∀ q, q < 192 → (K1 q = true ↔ ∃ i, i < m0 ∧ O i = q)) (h6 : ∀ p, 6 ≤ p → p < S → stS kd lf rt (sB (ia (b + 35)) 0) p) : lpS b S kd lf rt j x m0 K1 g t ia z O (200 * (S - z) + 151) := by
  refine ⟨h1, h2, h3, h4, h5, h6, ?_⟩
  rcases h with h | h | ⟨a1, a2, a3⟩
  · exact Or.inl h
  · exact Or.inr (Or.inl ⟨by omega, h⟩)
  · refine Or.inr (Or.inr ⟨fun _ => False, _, fun T hT => hT.elim, a1, fun p hp => ⟨fun _ T hT => hT.elim, fun _ => a2 p (by omega)⟩, fun p h6 hp hD _ _ _ => Or.inl ?_, ?_, a3⟩)
    · rw [dB_s (by omega)] at hD
      exact hD
    · have := cnS_le (sB (ia (b + 43)) j) S
      omega
/-- findings, when one was added -/
theorem MI_add {n0 n1 y : Nat} (hM : ∀ i, i < n0 → RSet S kd lf rt (sB (ia (b + 49)) i)) (hS : S ≤ 192) (hT : RSet S kd lf rt (sB (ia1 (b + 49)) y)) (h1 : n1 ≤ 128) (h2 : y + 1 ≤ n1) (h3 : fi1 (b + 47) 0 = nI n1) (h4 : fi1 (b + 47) 3 = nI (y + 1)) (h5 : ∀ i, i < n1 → i ≠ y → i < n0) (h6 : ∀ i q, i ≠ y → q < 192 → sB (ia1 (b + 49)) i q = sB (ia (b + 49)) i q) : MI b ia1 fi1 S kd lf rt := ⟨n1, y + 1, h1, h2, h3, h4, fun i hi => by
  by_cases e : i = y
  · subst e; exact hT
  · exact (hM i (h5 i hi e)).ext (fun p hp => h6 i p e (by omega))⟩
theorem PI_add {n0 n1 y g : Nat} (hg : g < S) (hS : S ≤ 192) (hM : ∀ i, i < n0 → ∃ g, g < S ∧ ia (b + 54) i = nI g ∧ Prv S kd lf rt (sB (ia (b + 53)) i) g) (hT : Prv S kd lf rt (sB (ia1 (b + 53)) y) g) (h1 : n1 ≤ 128) (h2 : y + 1 ≤ n1) (h3 : fi1 (b + 51) 0 = nI n1) (h4 : fi1 (b + 51) 3 = nI (y + 1)) (h5 : ∀ i, i < n1 → i ≠ y → i < n0) (h6 : ∀ i q, i ≠ y → q < 192 → sB (ia1 (b + 53)) i q = sB (ia (b + 53)) i q) (h7 : ia1 (b + 54) y = nI g) (h8 : ∀ i, i ≠ y → ia1 (b + 54) i = ia (b + 54) i) : PI b ia1 fi1 S kd lf rt := ⟨n1, y + 1, h1, h2, h3, h4, fun i hi => by
  by_cases e : i = y
  · subst e; exact ⟨g, hg, h7, hT⟩
  · obtain ⟨g', g1, g2, g3⟩ := hM i (h5 i hi e)
    exact ⟨g', g1, (h8 i e).trans g2, g3.mono (fun p hp hk => by rw [h6 i p e (by omega)]; exact hk)⟩⟩
end PROVES
