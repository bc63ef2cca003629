/-! THE CLASS SPREADS WHAT IS KNOWN -/
/-- what became known follows from what was known earlier -/
def INF (b S : Nat) (kd lf rt : Nat → Nat) (ia : Nat → Nat → Int32) (O : Nat → Nat) (x y : Nat) : Prop := ∀ i, x ≤ i → i < y → (∀ q, q < 192 → sB (ia (b + 38)) (O i) q = true → ∃ j, j < i ∧ O j = q) ∧ ∀ (W : Type) (R : W → W → Prop) (V : Nat → W → Prop) (w : W), isKM R V → (∀ q, q < S → sB (ia (b + 38)) (O i) q = true → kT R V kd lf rt q w) → kT R V kd lf rt (O i) w
section SPREAD
variable {b : Nat} {ia fi ia1 fi1 : Nat → Nat → Int32} {fl : Nat → Nat → Int64} {qa : Nat → Nat → Option Nat} {f : mmF} {S : Nat} {kd lf rt : Nat → Nat}
/-- what is known more follows -/
def cqS (S : Nat) (kd lf rt : Nat → Nat) (K K1 : Nat → Bool) : Prop := (∀ p, p < S → K p = true → K1 p = true) ∧ ∀ (W : Type) (R : W → W → Prop) (V : Nat → W → Prop) (w : W), isKM R V → (∀ p, p < S → K p = true → kT R V kd lf rt p w) → ∀ p, p < S → K1 p = true → kT R V kd lf rt p w
theorem cqS.rf {K : Nat → Bool} : cqS S kd lf rt K K := ⟨fun _ _ h => h, fun _ _ _ _ _ h => h⟩
theorem cqS.tr {K K1 K2 : Nat → Bool} (h : cqS S kd lf rt K K1) (h2 : cqS S kd lf rt K1 K2) : cqS S kd lf rt K K2 := ⟨fun p hp hk => h2.1 p hp (h.1 p hp hk), fun W R V w hk hw => h2.2 W R V w hk (h.2 W R V w hk hw)⟩
theorem cqS.ext {K K1 K2 : Nat → Bool} (h : cqS S kd lf rt K K1) (e : ∀ p, p < S → K2 p = K1 p) : cqS S kd lf rt K K2 := ⟨fun p hp hk => by rw [e p hp]; exact h.1 p hp hk, fun W R V w hk hw p hp hk2 => h.2 W R V w hk hw p hp (by rw [← e p hp]; exact hk2)⟩
theorem cqS.add {K : Nat → Bool} {r : Nat} (hr : ∀ (W : Type) (R : W → W → Prop) (V : Nat → W → Prop) (w : W), isKM R V → (∀ p, p < S → K p = true → kT R V kd lf rt p w) → kT R V kd lf rt r w) : cqS S kd lf rt K (upB K r true) := ⟨fun p hp hk => upB_le hk, fun W R V w hk hw p hp hk2 => by
  unfold upB at hk2
  by_cases e : p = r
  · rw [e]; exact hr W R V w hk hw
  · rw [if_neg e] at hk2; exact hw p hp hk2⟩
/-- a part makes nothing more known -/
def stS (kd lf rt : Nat → Nat) (K : Nat → Bool) (p : Nat) : Prop := (kd p = 7 → (K p = true ↔ K (lf p) = true ∧ K (rt p) = true)) ∧ (kd p = 8 → (K (lf p) = true ∨ K (rt p) = true) → K p = true) ∧ (kd p = 9 ∨ kd p = 6 → (K (rt p) = true → K p = true) ∧ (K p = true → K (lf p) = true → K (rt p) = true))
theorem b01 (x : Bool) : ((if x = true then (1 : Int32) else 0) = 0) = (x = false) := by cases x <;> simp
theorem INF.tx {x z z1 : Nat} {O O1 : Nat → Nat} (h : INF b S kd lf rt ia O x z) (t : TX b z z1 O O1 ia ia1) (hS : S ≤ 192) : INF b S kd lf rt ia1 O1 x z := fun i h1 h2 => by
  obtain ⟨a1, a2⟩ := h i h1 h2
  refine ⟨fun q hq hk => ?_, fun W R V w hm hw => ?_⟩
  · rw [t.2.1 i h2, t.2.2 i h2 q hq] at hk
    obtain ⟨j, hj, e⟩ := a1 q hq hk
    exact ⟨j, hj, (t.2.1 j (by omega)).trans e⟩
  · rw [t.2.1 i h2] at hw ⊢
    exact a2 W R V w hm (fun q hq hk => hw q hq (by rw [t.2.2 i h2 q (by omega)]; exact hk))
theorem INF.app {x y z : Nat} {O : Nat → Nat} (h : INF b S kd lf rt ia O x y) (h2 : INF b S kd lf rt ia O y z) : INF b S kd lf rt ia O x z := fun i h3 h4 => by
  by_cases c : i < y
  · exact h i h3 c
  · exact h2 i (by omega) h4
theorem infer_k {p o1 o2 z : Nat} {O : Nat → Nat} (hS : S ≤ 151) (t : TRL b ia fi S z O) (hp : p < S) (h1 : o1 < 192) (h2 : o2 < 192) (k1 : sB (ia (b + 35)) 0 o1 = true) (k2 : sB (ia (b + 35)) 0 o2 = true) (hc : ∀ (W : Type) (R : W → W → Prop) (V : Nat → W → Prop) (w : W), isKM R V → kT R V kd lf rt o1 w → kT R V kd lf rt o2 w → kT R V kd lf rt p w) : ∃ ia1 fi1 z1 O1, f_X2_infer (b + 33) (nI p) (nI o1) (nI o2) (wr (SK b) ia fi fl qa f) = some (wr (SK b) ia1 fi1 fl qa f) ∧ (∀ c, c ≠ b + 35 → c ≠ b + 36 → c ≠ b + 38 → ia1 c = ia c) ∧ (∀ c i, c ≠ b + 33 → fi1 c i = fi c i) ∧ TX b z z1 O O1 ia ia1 ∧ TRL b ia1 fi1 S z1 O1 ∧ INF b S kd lf rt ia1 O1 z z1 ∧ cqS S kd lf rt (sB (ia (b + 35)) 0) (sB (ia1 (b + 35)) 0) ∧ (∀ q, q < 192 → sB (ia1 (b + 35)) 0 q = upB (sB (ia (b + 35)) 0) p true q) ∧ (sB (ia (b + 35)) 0 p = false → z < z1) := by
  have hcq : cqS S kd lf rt (sB (ia (b + 35)) 0) (upB (sB (ia (b + 35)) 0) p true) := cqS.add (fun W R V w hm hw => hc W R V w hm (hw _ (t.in h1 k1) k1) (hw _ (t.in h2 k2) k2))
  rcases infer_c (fl := fl) (qa := qa) (f := f) hS t hp h1 h2 with ⟨a1, a2⟩ | ⟨a1, ia1, fi1, a2, a3, a4, a5, a6, a7, a8, a9⟩
  · refine ⟨ia, fi, z, O, a2, fun _ _ _ _ => rfl, fun _ _ _ => rfl, TX.rf, t, fun i h3 h4 => by omega, cqS.rf, fun q hq => ?_, fun h => by rw [a1] at h; cases h⟩
    unfold upB
    by_cases e : q = p
    · rw [if_pos e, e, a1]
    · rw [if_neg e]
  · refine ⟨ia1, fi1, z + 1, upN O z p, a2, a3, a4, ⟨Nat.le_succ z, fun i hi => upN_n _ (by omega), fun i hi q hq => a5 _ (fun e => ?_) q hq⟩, a9, fun i h3 h4 => ?_, hcq.ext (fun q hq => a7 q (by omega)), a7, fun _ => Nat.lt_succ_self z⟩
    · have := t.at hS hi
      rw [e, a1] at this
      cases this
    · have e : i = z := by omega
      subst e
      rw [upN_s]
      refine ⟨fun q hq hk => ?_, fun W R V w hm hw => hc W R V w hm (hw _ (t.in h1 k1) ((a6 _ h1).mpr (Or.inl rfl))) (hw _ (t.in h2 k2) ((a6 _ h2).mpr (Or.inr rfl)))⟩
      have hk2 : sB (ia (b + 35)) 0 q = true := by
        rcases (a6 q hq).mp hk with e | e
        · rw [e]; exact k1
        · rw [e]; exact k2
      obtain ⟨j, hj, e⟩ := (t.2.2.2.1 q hq).mp hk2
      exact ⟨j, hj, by rw [upN_n _ (show j ≠ i by omega)]; exact e⟩
theorem grows_c {p z : Nat} {O : Nat → Nat} (h : LX b ia fi S kd lf rt) (t : TRL b ia fi S z O) (h6 : 6 ≤ p) (hp : p < S) : (f_X2_grows (b + 33) (nI p) (wr (SK b) ia fi fl qa f) = some (0, wr (SK b) ia fi fl qa f) ∧ stS kd lf rt (sB (ia (b + 35)) 0) p) ∨ ∃ ia1 fi1 z1 O1, f_X2_grows (b + 33) (nI p) (wr (SK b) ia fi fl qa f) = some (1, wr (SK b) ia1 fi1 fl qa f) ∧ (∀ c, c ≠ b + 35 → c ≠ b + 36 → c ≠ b + 38 → ia1 c = ia c) ∧ (∀ c i, c ≠ b + 33 → fi1 c i = fi c i) ∧ TX b z z1 O O1 ia ia1 ∧ TRL b ia1 fi1 S z1 O1 ∧ INF b S kd lf rt ia1 O1 z z1 ∧ cqS S kd lf rt (sB (ia (b + 35)) 0) (sB (ia1 (b + 35)) 0) ∧ z < z1 := by
  have ho := h.2.1
  have hS := ho.2.1
  obtain ⟨o1, o2, o3, o4, o5⟩ := ho.2.2.2.1 p h6 hp
  have q7 : (nI (kd p) = (7 : Int32)) = (kd p = 7) := propext (nI_eq (b := 7) (by omega) (by decide))
  have q8 : (nI (kd p) = (8 : Int32)) = (kd p = 8) := propext (nI_eq (b := 8) (by omega) (by decide))
  have hk0 : ∀ r, r < 192 → f_X3_has (b + 34) (0 : Int32) (nI r) (wr (SK b) ia fi fl qa f) = some (if sB (ia (b + 35)) 0 r = true then 1 else 0) := fun r hr => has_s (PS_K b) (k := 0) (by decide) hr
  unfold f_X2_grows
  simp only [R_33_2, R_22_1, h.at23 hp, R_22_2, h.at24 h6 hp, R_22_3, h.at25 h6 hp, R_33_1, ps_ck (PS_K b), hk0 (lf p) (by omega), hk0 (rt p) (by omega), hk0 p (by omega), Option.bind_some, q7, q8, b01]
  -- a part is made
  have made : ∀ (x y : Nat) (F : Option (Int32 × mmF)), x < 192 → y < 192 → sB (ia (b + 35)) 0 p = false → sB (ia (b + 35)) 0 x = true → sB (ia (b + 35)) 0 y = true → (∀ (W : Type) (R : W → W → Prop) (V : Nat → W → Prop) (w : W), isKM R V → kT R V kd lf rt x w → kT R V kd lf rt y w → kT R V kd lf rt p w) → F = f_X2_grows_157 (b + 33) (nI p) (nI x) (nI y) (wr (SK b) ia fi fl qa f) → ∃ ia1 fi1 z1 O1, F = some (1, wr (SK b) ia1 fi1 fl qa f) ∧ (∀ c, c ≠ b + 35 → c ≠ b + 36 → c ≠ b + 38 → ia1 c = ia c) ∧ (∀ c i, c ≠ b + 33 → fi1 c i = fi c i) ∧ TX b z z1 O O1 ia ia1 ∧ TRL b ia1 fi1 S z1 O1 ∧ INF b S kd lf rt ia1 O1 z z1 ∧ cqS S kd lf rt (sB (ia (b + 35)) 0) (sB (ia1 (b + 35)) 0) ∧ z < z1 := by
    intro x y F hx hy h0 kx ky hc hF
    obtain ⟨ia1, fi1, z1, O1, a1, a2, a3, a4, a5, a6, a7, a8, a9⟩ := infer_k (kd := kd) (lf := lf) (rt := rt) (fl := fl) (qa := qa) (f := f) hS t hp hx hy kx ky hc
    refine ⟨ia1, fi1, z1, O1, ?_, a2, a3, a4, a5, a6, a7, a9 h0⟩
    rw [hF]
    unfold f_X2_grows_157
    simp only [ck_33, a1, Option.bind_some]
  cases hp0 : sB (ia (b + 35)) 0 p with
  | false =>
    rw [if_pos (rfl : false = false)]
    by_cases c7 : kd p = 7
    · rw [if_pos c7]
      cases hl : sB (ia (b + 35)) 0 (lf p) with
      | false =>
        rw [if_pos (rfl : false = false)]
        exact Or.inl ⟨rfl, fun _ => by rw [hp0, hl]; simp, fun e => by omega, fun e => by omega⟩
      | true =>
        rw [if_neg (show ¬ true = false by decide)]
        cases hr : sB (ia (b + 35)) 0 (rt p) with
        | false =>
          rw [if_pos (rfl : false = false)]
          exact Or.inl ⟨rfl, fun _ => by rw [hp0, hr]; simp, fun e => by omega, fun e => by omega⟩
        | true =>
          rw [if_neg (show ¬ true = false by decide)]
          refine Or.inr (made (lf p) (rt p) _ (by omega) (by omega) hp0 hl hr (fun W R V w hm a1 a2 => (kT_7 ho.to hp c7 w).mpr ⟨a1, a2⟩) ?_)
          unfold f_X2_grows_115 f_X2_grows_134 f_X2_grows_140 f_X2_grows_155
          simp only [q7, q8, if_pos c7, if_neg (show ¬ kd p = 8 by omega), i10, i00, if_true, if_false, Bool.false_eq_true] <;> rfl
    · rw [if_neg c7]
      by_cases c8 : kd p = 8
      · rw [if_pos c8]
        cases hl : sB (ia (b + 35)) 0 (lf p) with
        | false =>
          rw [if_pos (rfl : false = false)]
          cases hr : sB (ia (b + 35)) 0 (rt p) with
          | false =>
            rw [if_pos (rfl : false = false)]
            exact Or.inl ⟨rfl, fun e => by omega, fun _ h => (by rw [hl, hr] at h; rcases h with h | h <;> cases h), fun e => by omega⟩
          | true =>
            rw [if_neg (show ¬ true = false by decide)]
            refine Or.inr (made (rt p) (rt p) _ (by omega) (by omega) hp0 hr hr (fun W R V w hm a1 a2 => (kT_8 ho.to hp c8 w).mpr (Or.inr a1)) ?_)
            unfold f_X2_grows_115 f_X2_grows_138 f_X2_grows_140 f_X2_grows_155
            simp only [q7, q8, if_neg c7, if_pos c8, i10, i00, if_true, if_false, Bool.false_eq_true] <;> rfl
        | true =>
          rw [if_neg (show ¬ true = false by decide)]
          refine Or.inr (made (lf p) (lf p) _ (by omega) (by omega) hp0 hl hl (fun W R V w hm a1 a2 => (kT_8 ho.to hp c8 w).mpr (Or.inl a1)) ?_)
          unfold f_X2_grows_115 f_X2_grows_134 f_X2_grows_140
          simp only [q7, q8, if_neg c7, if_pos c8, i10, i00, if_true, if_false, Bool.false_eq_true] <;> rfl
      · rw [if_neg c8]
        have cif : kd p = 9 ∨ kd p = 6 := by omega
        cases hr : sB (ia (b + 35)) 0 (rt p) with
        | false =>
          rw [if_pos (rfl : false = false)]
          exact Or.inl ⟨rfl, fun e => by omega, fun e => by omega, fun _ => ⟨fun h => (by rw [hr] at h; cases h), fun h => (by rw [hp0] at h; cases h)⟩⟩
        | true =>
          rw [if_neg (show ¬ true = false by decide)]
          refine Or.inr (made (rt p) (rt p) _ (by omega) (by omega) hp0 hr hr (fun W R V w hm a1 a2 => (kT_if ho hp cif w).mpr (fun w' hw' _ => kT_up hm ho.to _ (by omega) _ _ hw' a1)) ?_)
          unfold f_X2_grows_115 f_X2_grows_138 f_X2_grows_140 f_X2_grows_155
          simp only [q7, q8, if_neg c7, if_neg c8] <;> rfl
  | true =>
    rw [if_neg (show ¬ true = false by decide)]
    -- an 'if' that is known, or nothing
    have rest : kd p ≠ 7 ∨ (sB (ia (b + 35)) 0 (lf p) = true ∧ sB (ia (b + 35)) 0 (rt p) = true) → (f_X2_grows_197 (b + 33) (nI p) (nI (lf p)) (nI (rt p)) (if sB (ia (b + 35)) 0 (lf p) = true then 1 else 0) (if sB (ia (b + 35)) 0 (rt p) = true then 1 else 0) (wr (SK b) ia fi fl qa f) = some (0, wr (SK b) ia fi fl qa f) ∧ stS kd lf rt (sB (ia (b + 35)) 0) p) ∨ ∃ ia1 fi1 z1 O1, f_X2_grows_197 (b + 33) (nI p) (nI (lf p)) (nI (rt p)) (if sB (ia (b + 35)) 0 (lf p) = true then 1 else 0) (if sB (ia (b + 35)) 0 (rt p) = true then 1 else 0) (wr (SK b) ia fi fl qa f) = some (1, wr (SK b) ia1 fi1 fl qa f) ∧ (∀ c, c ≠ b + 35 → c ≠ b + 36 → c ≠ b + 38 → ia1 c = ia c) ∧ (∀ c i, c ≠ b + 33 → fi1 c i = fi c i) ∧ TX b z z1 O O1 ia ia1 ∧ TRL b ia1 fi1 S z1 O1 ∧ INF b S kd lf rt ia1 O1 z z1 ∧ cqS S kd lf rt (sB (ia (b + 35)) 0) (sB (ia1 (b + 35)) 0) ∧ z < z1 := by
      intro h7
      unfold f_X2_grows_197
      simp only [R_33_2, ck_22, isIf_c h hp, Option.bind_some, b01]
      by_cases cif : kd p = 9 ∨ kd p = 6
      · rw [if_pos cif, if_neg (show ¬ (1 : Int32) = 0 by decide)]
        cases hl : sB (ia (b + 35)) 0 (lf p) with
        | false =>
          rw [if_pos (rfl : false = false)]
          exact Or.inl ⟨rfl, fun e => by omega, fun e => by omega, fun _ => ⟨fun _ => hp0, fun _ h => (by rw [hl] at h; cases h)⟩⟩
        | true =>
          rw [if_neg (show ¬ true = false by decide)]
          cases hr : sB (ia (b + 35)) 0 (rt p) with
          | false =>
            rw [if_pos (rfl : false = false)]
            obtain ⟨ia1, fi1, z1, O1, a1, a2, a3, a4, a5, a6, a7, a8, a9⟩ := infer_k (kd := kd) (lf := lf) (rt := rt) (fl := fl) (qa := qa) (f := f) hS t (show rt p < S by omega) (show p < 192 by omega) (show lf p < 192 by omega) hp0 hl (fun W R V w hm b1 b2 => (kT_if ho hp cif w).mp b1 w (hm.1 w) b2)
            simp only [ck_33, a1, Option.bind_some]
            exact Or.inr ⟨ia1, fi1, z1, O1, rfl, a2, a3, a4, a5, a6, a7, a9 hr⟩
          | true =>
            rw [if_neg (show ¬ true = false by decide)]
            exact Or.inl ⟨rfl, fun e => by omega, fun e => by omega, fun _ => ⟨fun _ => hp0, fun _ _ => hr⟩⟩
      · rw [if_neg cif, if_pos rfl]
        refine Or.inl ⟨rfl, fun e => ?_, fun e _ => hp0, fun e => absurd e cif⟩
        rcases h7 with h7 | h7
        · exact absurd e h7
        · exact ⟨fun _ => h7, fun _ => hp0⟩
    by_cases c7 : kd p = 7
    · rw [if_pos c7]
      -- an 'and' that is known, with a side that is not
      have both : (sB (ia (b + 35)) 0 (lf p) = false ∨ sB (ia (b + 35)) 0 (rt p) = false) → ∃ ia1 fi1 z1 O1, f_X2_grows_180 (b + 33) (nI p) (nI (lf p)) (nI (rt p)) (wr (SK b) ia fi fl qa f) = some (1, wr (SK b) ia1 fi1 fl qa f) ∧ (∀ c, c ≠ b + 35 → c ≠ b + 36 → c ≠ b + 38 → ia1 c = ia c) ∧ (∀ c i, c ≠ b + 33 → fi1 c i = fi c i) ∧ TX b z z1 O O1 ia ia1 ∧ TRL b ia1 fi1 S z1 O1 ∧ INF b S kd lf rt ia1 O1 z z1 ∧ cqS S kd lf rt (sB (ia (b + 35)) 0) (sB (ia1 (b + 35)) 0) ∧ z < z1 := by
        intro hor
        obtain ⟨ia1, fi1, z1, O1, a1, a2, a3, a4, a5, a6, a7, a8, a9⟩ := infer_k (kd := kd) (lf := lf) (rt := rt) (fl := fl) (qa := qa) (f := f) hS t (show lf p < S by omega) (show p < 192 by omega) (show p < 192 by omega) hp0 hp0 (fun W R V w hm b1 _ => ((kT_7 ho.to hp c7 w).mp b1).1)
        have hp1 : sB (ia1 (b + 35)) 0 p = true := a7.1 p hp hp0
        obtain ⟨ia2, fi2, z2, O2, b1, b2, b3, b4, b5, b6, b7, b8, b9⟩ := infer_k (kd := kd) (lf := lf) (rt := rt) (fl := fl) (qa := qa) (f := f) hS a5 (show rt p < S by omega) (show p < 192 by omega) (show p < 192 by omega) hp1 hp1 (fun W R V w hm b1 _ => ((kT_7 ho.to hp c7 w).mp b1).2)
        refine ⟨ia2, fi2, z2, O2, ?_, fun c h1 h2 h3 => (b2 c h1 h2 h3).trans (a2 c h1 h2 h3), fun c i hc => (b3 c i hc).trans (a3 c i hc), a4.tr b4, b5, (a6.tx b4 (by omega)).app b6, a7.tr b7, ?_⟩
        · unfold f_X2_grows_180
          simp only [ck_33, a1, b1, Option.bind_some]
        · have hz1 := a4.1
          have hz2 := b4.1
          by_cases hl : sB (ia (b + 35)) 0 (lf p) = false
          · have := a9 hl; omega
          · have hr := hor.resolve_left hl
            have hne : rt p ≠ lf p := fun e => hl (e ▸ hr)
            have := b9 (by rw [a8 _ (by omega)]; unfold upB; rw [if_neg hne]; exact hr)
            omega
      cases hl : sB (ia (b + 35)) 0 (lf p) with
      | false =>
        rw [if_pos (rfl : false = false)]
        exact Or.inr (both (Or.inl hl))
      | true =>
        rw [if_neg (show ¬ true = false by decide)]
        cases hr : sB (ia (b + 35)) 0 (rt p) with
        | false =>
          rw [if_pos (rfl : false = false)]
          exact Or.inr (both (Or.inr hr))
        | true =>
          rw [if_neg (show ¬ true = false by decide)]
          have := rest (Or.inr ⟨hl, hr⟩)
          rw [hl, hr] at this
          exact this
    · rw [if_neg c7]
      exact rest (Or.inl c7)
end SPREAD
