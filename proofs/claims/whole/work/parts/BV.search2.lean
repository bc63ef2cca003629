/-! THE CLASS'S SEARCH: what its steps leave as it was -/
/-- rows of lower levels -/
def rwS (b j : Nat) (ia ia1 : Nat → Nat → Int32) : Prop := (∀ i, i ≤ j → ia1 (b + 39) i = ia (b + 39) i) ∧ (∀ i, i < j → ia1 (b + 46) i = ia (b + 46) i) ∧ ∀ w, (w = b + 41 ∨ w = b + 43 ∨ w = b + 45) → ∀ i q, i < j → q < 192 → sB (ia1 w) i q = sB (ia w) i q
/-- a step of a level that finds nothing -/
def fL (b j : Nat) (ia fi ia1 fi1 : Nat → Nat → Int32) : Prop := (∀ c, c ≠ b + 35 → c ≠ b + 36 → c ≠ b + 38 → c ≠ b + 39 → c ≠ b + 41 → c ≠ b + 43 → c ≠ b + 45 → c ≠ b + 46 → ia1 c = ia c) ∧ (∀ c i, c ≠ b + 33 → fi1 c i = fi c i) ∧ rwS b j ia ia1
/-- a step that may find -/
def fG (b j : Nat) (ia fi ia1 fi1 : Nat → Nat → Int32) : Prop := (∀ c, c ≠ b + 35 → c ≠ b + 36 → c ≠ b + 38 → c ≠ b + 39 → c ≠ b + 41 → c ≠ b + 43 → c ≠ b + 45 → c ≠ b + 46 → c ≠ b + 49 → c ≠ b + 50 → c ≠ b + 53 → c ≠ b + 54 → ia1 c = ia c) ∧ (∀ c i, c ≠ b + 33 → c ≠ b + 47 → c ≠ b + 51 → fi1 c i = fi c i) ∧ rwS b j ia ia1
/-- what is known grows: what was known stays, in its order, with its reasons -/
def TX (b z z1 : Nat) (O O1 : Nat → Nat) (ia ia1 : Nat → Nat → Int32) : Prop := z ≤ z1 ∧ (∀ i, i < z → O1 i = O i) ∧ ∀ i, i < z → ∀ q, q < 192 → sB (ia1 (b + 38)) (O i) q = sB (ia (b + 38)) (O i) q
/-- what is assumed is known from itself -/
def ASM (b : Nat) (ia : Nat → Nat → Int32) (O : Nat → Nat) (x y : Nat) : Prop := ∀ i, x ≤ i → i < y → ∀ q, q < 192 → (sB (ia (b + 38)) (O i) q = true ↔ q = O i)
section SEARCH2
variable {b : Nat} {ia fi ia1 fi1 ia2 fi2 : Nat → Nat → Int32} {fl : Nat → Nat → Int64} {qa : Nat → Nat → Option Nat} {f : mmF} {S : Nat} {kd lf rt : Nat → Nat}
theorem rwS.rf {j : Nat} : rwS b j ia ia := ⟨fun _ _ => rfl, fun _ _ => rfl, fun _ _ _ _ _ _ => rfl⟩
theorem rwS.tr {j : Nat} (h : rwS b j ia ia1) (h2 : rwS b j ia1 ia2) : rwS b j ia ia2 := ⟨fun i hi => (h2.1 i hi).trans (h.1 i hi), fun i hi => (h2.2.1 i hi).trans (h.2.1 i hi), fun w hw i q hi hq => (h2.2.2 w hw i q hi hq).trans (h.2.2 w hw i q hi hq)⟩
theorem rwS.mono {j k : Nat} (h : rwS b k ia ia1) (e : j ≤ k) : rwS b j ia ia1 := ⟨fun i hi => h.1 i (by omega), fun i hi => h.2.1 i (by omega), fun w hw i q hi hq => h.2.2 w hw i q (by omega) hq⟩
theorem fL.rf {j : Nat} : fL b j ia fi ia fi := ⟨fun _ _ _ _ _ _ _ _ _ => rfl, fun _ _ _ => rfl, rwS.rf⟩
theorem fL.tr {j : Nat} (h : fL b j ia fi ia1 fi1) (h2 : fL b j ia1 fi1 ia2 fi2) : fL b j ia fi ia2 fi2 := ⟨fun c a1 a2 a3 a4 a5 a6 a7 a8 => (h2.1 c a1 a2 a3 a4 a5 a6 a7 a8).trans (h.1 c a1 a2 a3 a4 a5 a6 a7 a8), fun c i hc => (h2.2.1 c i hc).trans (h.2.1 c i hc), h.2.2.tr h2.2.2⟩
theorem fL.mono {j k : Nat} (h : fL b k ia fi ia1 fi1) (e : j ≤ k) : fL b j ia fi ia1 fi1 := ⟨h.1, h.2.1, h.2.2.mono e⟩
theorem fG.rf {j : Nat} : fG b j ia fi ia fi := ⟨fun _ _ _ _ _ _ _ _ _ _ _ _ _ => rfl, fun _ _ _ _ _ => rfl, rwS.rf⟩
theorem fG.tr {j : Nat} (h : fG b j ia fi ia1 fi1) (h2 : fG b j ia1 fi1 ia2 fi2) : fG b j ia fi ia2 fi2 := ⟨fun c a1 a2 a3 a4 a5 a6 a7 a8 a9 b1 b2 b3 => (h2.1 c a1 a2 a3 a4 a5 a6 a7 a8 a9 b1 b2 b3).trans (h.1 c a1 a2 a3 a4 a5 a6 a7 a8 a9 b1 b2 b3), fun c i a1 a2 a3 => (h2.2.1 c i a1 a2 a3).trans (h.2.1 c i a1 a2 a3), h.2.2.tr h2.2.2⟩
theorem fG.mono {j k : Nat} (h : fG b k ia fi ia1 fi1) (e : j ≤ k) : fG b j ia fi ia1 fi1 := ⟨h.1, h.2.1, h.2.2.mono e⟩
theorem fL.G {j : Nat} (h : fL b j ia fi ia1 fi1) : fG b j ia fi ia1 fi1 := ⟨fun c a1 a2 a3 a4 a5 a6 a7 a8 _ _ _ _ => h.1 c a1 a2 a3 a4 a5 a6 a7 a8, fun c i a1 _ _ => h.2.1 c i a1, h.2.2⟩
theorem sEw.L {w j k : Nat} {Γ : Nat → Bool} (h : sEw ia ia1 w k Γ) (hw : w = b + 41 ∨ w = b + 43 ∨ w = b + 45) (e : j ≤ k) : fL b j ia fi ia1 fi := ⟨fun c a1 a2 a3 a4 a5 a6 a7 a8 => h.1 c (by omega), fun _ _ _ => rfl, fun i hi => by rw [h.1 _ (show b + 39 ≠ w by omega)], fun i hi => by rw [h.1 _ (show b + 46 ≠ w by omega)], fun w' hw' i q hi hq => by
  by_cases e2 : w' = w
  · subst e2; exact h.2.1 i (by omega) q hq
  · rw [h.1 _ e2]⟩
theorem trL {j : Nat} (h1 : ∀ c, c ≠ b + 35 → c ≠ b + 36 → c ≠ b + 38 → ia1 c = ia c) (h2 : ∀ c i, c ≠ b + 33 → fi1 c i = fi c i) : fL b j ia fi ia1 fi1 := ⟨fun c a1 a2 a3 _ _ _ _ _ => h1 c a1 a2 a3, h2, fun i hi => by rw [h1 _ (by omega) (by omega) (by omega)], fun i hi => by rw [h1 _ (by omega) (by omega) (by omega)], fun w hw i q hi hq => by rw [h1 w (by omega) (by omega) (by omega)]⟩
theorem fL.lx {j : Nat} (h : fL b j ia fi ia1 fi1) (hx : LX b ia fi S kd lf rt) : LX b ia1 fi1 S kd lf rt := hx.cg (fun a h1 h2 => h.1 a (by omega) (by omega) (by omega) (by omega) (by omega) (by omega) (by omega) (by omega)) (funext fun i => h.2.1 _ i (by omega))
theorem TX.rf {z : Nat} {O : Nat → Nat} : TX b z z O O ia ia := ⟨Nat.le_refl _, fun _ _ => rfl, fun _ _ _ _ => rfl⟩
theorem TX.tr {z z1 z2 : Nat} {O O1 O2 : Nat → Nat} (h : TX b z z1 O O1 ia ia1) (h2 : TX b z1 z2 O1 O2 ia1 ia2) : TX b z z2 O O2 ia ia2 := by
  obtain ⟨a1, a2, a3⟩ := h
  obtain ⟨b1, b2, b3⟩ := h2
  refine ⟨by omega, fun i hi => (b2 i (by omega)).trans (a2 i hi), fun i hi q hq => ?_⟩
  have := b3 i (by omega) q hq
  rw [a2 i hi] at this
  exact this.trans (a3 i hi q hq)
theorem TX.cg {z z1 : Nat} {O O1 : Nat → Nat} (h : TX b z z1 O O1 ia ia1) (e : ∀ r q, q < 192 → sB (ia2 (b + 38)) r q = sB (ia1 (b + 38)) r q) : TX b z z1 O O1 ia ia2 := ⟨h.1, h.2.1, fun i hi q hq => (e _ q hq).trans (h.2.2 i hi q hq)⟩
theorem TX.cut {z z1 y : Nat} {O O1 : Nat → Nat} (h : TX b z z1 O O1 ia ia1) (hy : y ≤ z) : TX b y y O O1 ia ia1 := ⟨Nat.le_refl _, fun i hi => h.2.1 i (by omega), fun i hi => h.2.2 i (by omega)⟩
theorem TX.sub {z z1 y : Nat} {O O1 : Nat → Nat} (h : TX b z z1 O O1 ia ia1) (hy : y ≤ z) : TX b y z1 O O1 ia ia1 := ⟨by have := h.1; omega, fun i hi => h.2.1 i (by omega), fun i hi => h.2.2 i (by omega)⟩
theorem TX.le {z z1 : Nat} {O O1 : Nat → Nat} (h : TX b z z1 O O1 ia ia1) (t : TRL b ia fi S z O) (t1 : TRL b ia1 fi1 S z1 O1) {q : Nat} (hq : q < 192) (hk : sB (ia (b + 35)) 0 q = true) : sB (ia1 (b + 35)) 0 q = true := by
  obtain ⟨i, hi, e⟩ := (t.2.2.2.1 q hq).mp hk
  exact (t1.2.2.2.1 q hq).mpr ⟨i, by have := h.1; omega, (h.2.1 i hi).trans e⟩
theorem ASM.tx {x z z1 : Nat} {O O1 : Nat → Nat} (h : ASM b ia O x z) (t : TX b z z1 O O1 ia ia1) : ASM b ia1 O1 x z := fun i h1 h2 q hq => by rw [t.2.1 i h2, t.2.2 i h2 q hq]; exact h i h1 h2 q hq
theorem ASM.app {x y z : Nat} {O : Nat → Nat} (h : ASM b ia O x y) (h2 : ASM b ia O y z) : ASM b ia O x z := fun i h3 h4 => by
  by_cases c : i < y
  · exact h i h3 c
  · exact h2 i (by omega) h4
theorem kT_5 {W : Type} {R : W → W → Prop} {V : Nat → W → Prop} (ho : PTo S kd lf rt) (w : W) : ¬ kT R V kd lf rt 5 w := by
  have e := ho.2.2.1 5 (by decide)
  rw [kT_lf (by omega), e, if_neg (by decide)]
  decide
theorem kT_4 {W : Type} {R : W → W → Prop} {V : Nat → W → Prop} (ho : PTo S kd lf rt) (w : W) : kT R V kd lf rt 4 w := by
  have e := ho.2.2.1 4 (by decide)
  rw [kT_lf (by omega), e]
  rfl
/-- an 'if', or a 'not' -/
theorem kT_if {W : Type} {R : W → W → Prop} {V : Nat → W → Prop} (ho : PTo S kd lf rt) {p : Nat} (hp : p < S) (h : kd p = 9 ∨ kd p = 6) (w : W) : kT R V kd lf rt p w ↔ ∀ w', R w w' → kT R V kd lf rt (lf p) w' → kT R V kd lf rt (rt p) w' := by
  rcases h with h | h
  · exact kT_9 ho.to hp h w
  · have h6 : 6 ≤ p := by
      by_cases c : p < 6
      · have := ho.2.2.1 p c; omega
      · omega
    rw [kT_6 ho.to hp h, (ho.2.2.2.1 p h6 hp).2.2.2.2 h]
    exact ⟨fun a w' hw hx => absurd hx (a w' hw), fun a w' hw hx => kT_5 ho w' (a w' hw hx)⟩
theorem assume_c {j p z : Nat} {O : Nat → Nat} (h : LX b ia fi S kd lf rt) (hj : j < 153) (hp : p < S) (t : TRL b ia fi S z O) (hs : SG b ia S kd lf rt j (sB (ia (b + 35)) 0)) : ∃ ia1 fi1 z1 O1, f_X5_assume (b + 20) (nI j) (nI p) (wr (SK b) ia fi fl qa f) = some (wr (SK b) ia1 fi1 fl qa f) ∧ fL b j ia fi ia1 fi1 ∧ (∀ c, c ≠ b + 35 → c ≠ b + 36 → c ≠ b + 38 → c ≠ b + 46 → ia1 c = ia c) ∧ TX b z z1 O O1 ia ia1 ∧ TRL b ia1 fi1 S z1 O1 ∧ ASM b ia1 O1 z z1 ∧ SG b ia1 S kd lf rt j (sB (ia1 (b + 35)) 0) ∧ (∀ q, q < 192 → sB (ia1 (b + 35)) 0 q = upB (sB (ia (b + 35)) 0) p true q) ∧ z1 ≤ z + 1 ∧ (sB (ia (b + 35)) 0 p = false → z1 = z + 1 ∧ O1 z = p) := by
  have hS := h.2.1.2.1
  obtain ⟨X, x1, x2, x3⟩ := hs
  have hp192 : p < 192 := by omega
  have e153 : ¬ (153 : Int32) ≤ nI j := nI_ge (b := 153) hj (by decide)
  have q0 : ¬ nI j < 0 := nI_pos (by omega)
  -- behind the part itself
  have fin : ∀ (ia1 fi1 : Nat → Nat → Int32) (z1 : Nat) (O1 : Nat → Nat), f_X2_infer (b + 33) (nI p) (nI p) (nI p) (wr (SK b) ia fi fl qa f) = some (wr (SK b) ia1 fi1 fl qa f) → (∀ c, c ≠ b + 35 → c ≠ b + 36 → c ≠ b + 38 → ia1 c = ia c) → (∀ c i, c ≠ b + 33 → fi1 c i = fi c i) → TX b z z1 O O1 ia ia1 → TRL b ia1 fi1 S z1 O1 → ASM b ia1 O1 z z1 → (∀ q, q < 192 → sB (ia1 (b + 35)) 0 q = upB (sB (ia (b + 35)) 0) p true q) → z1 ≤ z + 1 → (sB (ia (b + 35)) 0 p = false → z1 = z + 1 ∧ O1 z = p) → ∃ ia1 fi1 z1 O1, f_X5_assume (b + 20) (nI j) (nI p) (wr (SK b) ia fi fl qa f) = some (wr (SK b) ia1 fi1 fl qa f) ∧ fL b j ia fi ia1 fi1 ∧ (∀ c, c ≠ b + 35 → c ≠ b + 36 → c ≠ b + 38 → c ≠ b + 46 → ia1 c = ia c) ∧ TX b z z1 O O1 ia ia1 ∧ TRL b ia1 fi1 S z1 O1 ∧ ASM b ia1 O1 z z1 ∧ SG b ia1 S kd lf rt j (sB (ia1 (b + 35)) 0) ∧ (∀ q, q < 192 → sB (ia1 (b + 35)) 0 q = upB (sB (ia (b + 35)) 0) p true q) ∧ z1 ≤ z + 1 ∧ (sB (ia (b + 35)) 0 p = false → z1 = z + 1 ∧ O1 z = p) := by
    intro ia1 fi1 z1 O1 a1 a2 a3 a4 a5 a6 a7 a8 a9
    have hL1 : fL b j ia fi ia1 fi1 := trL a2 a3
    have hx1 := hL1.lx h
    have e46 : ia1 (b + 46) = ia (b + 46) := a2 _ (by omega) (by omega) (by omega)
    have eo : ∀ c, c ≠ b + 46 → (u2 ia1 (b + 46) j (nI (X &&& fN kd lf rt (fun _ => 65535) 0 0 p))) c = ia1 c := fun c hc => u2_row _ _ hc
    refine ⟨u2 ia1 (b + 46) j (nI (X &&& fN kd lf rt (fun _ => 65535) 0 0 p)), fi1, z1, O1, ?_, hL1.tr ⟨fun c _ _ _ _ _ _ _ h8 => eo c h8, fun _ _ _ => rfl, fun i _ => by rw [eo _ (by omega)], fun i hi => u2_i _ _ (by omega), fun w hw i q _ _ => by rw [eo w (by omega)]⟩, fun c h1 h2 h3 h4 => (eo c h4).trans (a2 c h1 h2 h3), a4.cg (fun r q _ => by rw [eo _ (by omega)]), a5.cg (eo _ (by omega)) (eo _ (by omega)) rfl, ?_, ?_, fun q hq => by rw [eo _ (by omega)]; exact a7 q hq, a8, a9⟩
    · unfold f_X5_assume f_X2_assume
      simp only [R_20_2, ck_33, a1, Option.bind_some, if_neg q0, if_neg e153, R_20_7, An_46 hj, e46, x2, R_20_0, ck_21, singles_c hx1 hp, fa_and, sAn_46 hj]
    · intro i h1 h2 q hq
      rw [eo _ (by omega)]
      exact a6 i h1 h2 q hq
    · refine SG.add h.2.1 x1 hp x3 (fun q hq => by rw [eo _ (by omega)]; exact a7 q (by omega)) (u2_s _ _ _ _)
  rcases infer_c (fl := fl) (qa := qa) (f := f) hS t hp hp192 hp192 with ⟨k1, k2⟩ | ⟨k1, ia1, fi1, a1, a2, a3, a4, a5, a6, a7, a8⟩
  · exact fin ia fi z O k2 (fun _ _ _ _ => rfl) (fun _ _ _ => rfl) TX.rf t (fun i h1 h2 => by omega) (fun q hq => by
      unfold upB
      by_cases e : q = p
      · rw [if_pos e, e, k1]
      · rw [if_neg e]) (Nat.le_succ z) (fun h => by rw [k1] at h; cases h)
  · refine fin ia1 fi1 (z + 1) (upN O z p) a1 a2 a3 ⟨Nat.le_succ z, fun i hi => upN_n _ (by omega), fun i hi q hq => a4 _ (fun e => ?_) q hq⟩ a8 (fun i h1 h2 q hq => ?_) a6 (Nat.le_refl _) (fun _ => ⟨rfl, upN_s _ _ _⟩)
    · have := t.at hS hi
      rw [e, k1] at this
      cases this
    · have e : i = z := by omega
      subst e
      rw [upN_s, a5 q hq]
      exact ⟨fun h => h.elim id id, fun h => Or.inl h⟩
/-- a goal without an 'if' at its head -/
theorem opengoal_5 {j : Nat} (hj : j < 153) : ∀ (m i q : Nat) (ia fi : Nat → Nat → Int32) (goal z : Nat) (O : Nat → Nat), i + m = S → m < q → LX b ia fi S kd lf rt → goal + i < S → TRL b ia fi S z O → SG b ia S kd lf rt j (sB (ia (b + 35)) 0) → ∃ (ia1 fi1 : Nat → Nat → Int32) (g z1 : Nat) (O1 : Nat → Nat), f_X5_openGoal_5 q (b + 20) (nI j) (nI goal) (nI i) (wr (SK b) ia fi fl qa f) = some (nI g, wr (SK b) ia1 fi1 fl qa f) ∧ g < S ∧ ¬ (kd g = 9 ∨ kd g = 6) ∧ fL b j ia fi ia1 fi1 ∧ (∀ c, c ≠ b + 35 → c ≠ b + 36 → c ≠ b + 38 → c ≠ b + 46 → ia1 c = ia c) ∧ TX b z z1 O O1 ia ia1 ∧ TRL b ia1 fi1 S z1 O1 ∧ ASM b ia1 O1 z z1 ∧ SG b ia1 S kd lf rt j (sB (ia1 (b + 35)) 0) ∧ (∀ U : Nat → Bool, Prv S kd lf rt (fun q => U q && sB (ia1 (b + 35)) 0 q) g → Prv S kd lf rt (fun q => U q && sB (ia (b + 35)) 0 q) goal) ∧ (∀ T, RSet S kd lf rt T → (∀ p, p < S → sB (ia1 (b + 35)) 0 p = true → T p = true) → T g = false → T goal = false) ∧ (¬ (kd goal = 9 ∨ kd goal = 6) → z1 = z ∧ g = goal ∧ ∀ q, q < 192 → sB (ia1 (b + 35)) 0 q = true → sB (ia (b + 35)) 0 q = true) := by
  intro m
  induction m with
  | zero =>
    intro i q ia fi goal z O hi hm h hg t hs
    omega
  | succ m ih =>
    intro i q ia fi goal z O hi hm h hg t hs
    obtain ⟨q, rfl⟩ : ∃ k, q = k + 1 := ⟨q - 1, by omega⟩
    have ho := h.2.1
    have hS := ho.2.1
    rw [f_X5_openGoal_5]
    simp only [R_20_1, I_22_0, h.1.1, Option.bind_some, if_neg (nI_ge (show i < S by omega) (show S < 2 ^ 31 by omega)), ck_22, isIf_c h (show goal < S by omega)]
    by_cases c : kd goal = 9 ∨ kd goal = 6
    · have h6 : 6 ≤ goal := h.big (by omega) (by omega)
      obtain ⟨o1, o2, o3, o4, o5⟩ := ho.2.2.2.1 goal h6 (by omega)
      obtain ⟨ia1, fi1, z1, O1, a1, a2, a3, a4, a5, a6, a7, a8, a9, a10⟩ := assume_c (fl := fl) (qa := qa) (f := f) h hj (show lf goal < S by omega) t hs
      have hlx := a2.lx h
      obtain ⟨ia2, fi2, g, z2, O2, b1, b2, b3, b4, b5, b6, b7, b8, b9, b10, b11, b12⟩ := ih (i + 1) q ia1 fi1 (rt goal) z1 O1 (by omega) (by omega) hlx (by omega) a5 a7
      have hlK : sB (ia1 (b + 35)) 0 (lf goal) = true := by rw [a8 _ (by omega)]; exact upB_s _ _ _
      refine ⟨ia2, fi2, g, z2, O2, ?_, b2, b3, a2.tr b4, fun c h1 h2 h3 h4 => (b5 c h1 h2 h3 h4).trans (a3 c h1 h2 h3 h4), a4.tr b6, b7, (a6.tx b6).app b8, b9, fun U hP W R V w hk hw => ?_, fun T hT hTk hg0 => ?_, fun e => absurd c e⟩
      · rw [if_pos c]
        simp only [i10, if_false, R_22_2, h.at24 h6 (show goal < S by omega), ck_20, a1, Option.bind_some, R_20_1, R_22_3, hlx.at25 h6 (show goal < S by omega), nI_1]
        exact b1
      · rw [kT_if ho (by omega) c]
        intro w' hr hx
        refine b10 U hP W R V w' hk (fun p hp hkp => ?_)
        rw [Bool.and_eq_true, a8 p (by omega)] at hkp
        unfold upB at hkp
        by_cases e : p = lf goal
        · rw [e]; exact hx
        · rw [if_neg e] at hkp
          exact kT_up hk ho.to p hp _ _ hr (hw p hp (Bool.and_eq_true_iff.mpr hkp))
      · have hy := b11 T hT hTk hg0
        have hx : T (lf goal) = true := hTk _ (by omega) (b6.le a5 b7 (by omega) hlK)
        obtain ⟨W, R, V, w, hk, hw⟩ := hT
        cases hgt : T goal with
        | false => rfl
        | true =>
          have h1 := (hw goal (by omega)).mp hgt
          rw [kT_if ho (by omega) c] at h1
          have := (hw (rt goal) (by omega)).mpr (h1 w (hk.1 w) ((hw (lf goal) (by omega)).mp hx))
          rw [hy] at this
          cases this
    · rw [if_neg c]
      simp only [if_true]
      exact ⟨ia, fi, goal, z, O, rfl, by omega, c, fL.rf, fun _ _ _ _ _ => rfl, TX.rf, t, fun i h1 h2 => by omega, hs, fun _ h => h, fun T _ _ h => h, fun _ => ⟨rfl, rfl, fun _ _ h => h⟩⟩
theorem opengoal_c {j goal z : Nat} {O : Nat → Nat} (hj : j < 153) (h : LX b ia fi S kd lf rt) (hg : goal < S) (t : TRL b ia fi S z O) (hs : SG b ia S kd lf rt j (sB (ia (b + 35)) 0)) : ∃ (ia1 fi1 : Nat → Nat → Int32) (g z1 : Nat) (O1 : Nat → Nat), f_X5_openGoal (b + 20) (nI j) (nI goal) (wr (SK b) ia fi fl qa f) = some (nI g, wr (SK b) ia1 fi1 fl qa f) ∧ g < S ∧ ¬ (kd g = 9 ∨ kd g = 6) ∧ fL b j ia fi ia1 fi1 ∧ (∀ c, c ≠ b + 35 → c ≠ b + 36 → c ≠ b + 38 → c ≠ b + 46 → ia1 c = ia c) ∧ TX b z z1 O O1 ia ia1 ∧ TRL b ia1 fi1 S z1 O1 ∧ ASM b ia1 O1 z z1 ∧ SG b ia1 S kd lf rt j (sB (ia1 (b + 35)) 0) ∧ (∀ U : Nat → Bool, Prv S kd lf rt (fun q => U q && sB (ia1 (b + 35)) 0 q) g → Prv S kd lf rt (fun q => U q && sB (ia (b + 35)) 0 q) goal) ∧ (∀ T, RSet S kd lf rt T → (∀ p, p < S → sB (ia1 (b + 35)) 0 p = true → T p = true) → T g = false → T goal = false) ∧ (¬ (kd goal = 9 ∨ kd goal = 6) → z1 = z ∧ g = goal ∧ ∀ q, q < 192 → sB (ia1 (b + 35)) 0 q = true → sB (ia (b + 35)) 0 q = true) := by
  obtain ⟨qf, hqf⟩ := FU_1000
  have hS := h.2.1.2.1
  exact opengoal_5 hj S 0 FU ia fi goal z O (by omega) (by omega) h (by omega) t hs
/-- the lowest bit -/
def ckL : Bool := (List.range 65536).all fun Y => Y == 0 || (List.range 16).any fun u => (Y &&& (4294967296 - Y)) == 2 ^ u && Y.testBit u
theorem ckL_t : ckL = true := by decide +kernel
theorem low_t {Y : Nat} (h : Y < 65536) (h0 : Y ≠ 0) : ∃ u, u < 16 ∧ Y.testBit u = true ∧ nI Y &&& (-nI Y) = nI (2 ^ u) := by
  have h1 := List.all_eq_true.mp ckL_t Y (List.mem_range.mpr h)
  rw [Bool.or_eq_true, beq_iff_eq] at h1
  rcases h1 with h1 | h1
  · exact absurd h1 h0
  · obtain ⟨u, hu, h2⟩ := List.any_eq_true.mp h1
    rw [Bool.and_eq_true, beq_iff_eq] at h2
    refine ⟨u, List.mem_range.mp hu, h2.2, ?_⟩
    have e : -nI Y = nI (4294967296 - Y) := by
      have h3 : nI 4294967296 - nI Y = nI (4294967296 - Y) := pk_sub (by omega)
      rw [show nI 4294967296 = (0 : Int32) from by decide, Int32.zero_sub] at h3
      exact h3
    rw [e, fa_and, h2.1]
theorem meets_44 {j u : Nat} (hj : j < 153) (hu : u < 16) : ∀ (m p q : Nat) (ia : Nat → Nat → Int32), p + m = S → m < q → LX b ia fi S kd lf rt → (∀ r, r < 192 → (sB (ia (b + 45)) j r = true ↔ r < p ∧ kT1 u kd lf rt r)) → ∃ ia1, f_X5_meetsSingle_44 q (b + 20) (nI j) (nI (2 ^ u)) (nI p) (wr (SK b) ia fi fl qa f) = some (1, wr (SK b) ia1 fi fl qa f) ∧ sEw ia ia1 (b + 45) j (sB (ia1 (b + 45)) j) ∧ ∀ r, r < S → (sB (ia1 (b + 45)) j r = true ↔ kT1 u kd lf rt r) := by
  intro m
  induction m with
  | zero =>
    intro p q ia hp hq h hb
    obtain ⟨q, rfl⟩ : ∃ k, q = k + 1 := ⟨q - 1, by omega⟩
    have hS := h.2.1.2.1
    have e : p = S := by omega
    subst e
    refine ⟨ia, ?_, sEw.rf j, fun r hr => by rw [hb r (by omega)]; exact ⟨fun h => h.2, fun h => ⟨hr, h⟩⟩⟩
    rw [f_X5_meetsSingle_44]
    simp only [R_20_1, I_22_0, h.1.1, Option.bind_some, if_pos (Int32.le_refl _)]
  | succ m ih =>
    intro p q ia hp hq h hb
    obtain ⟨q, rfl⟩ : ∃ k, q = k + 1 := ⟨q - 1, by omega⟩
    have ho := h.2.1
    have hS := ho.2.1
    have hpS : p < S := by omega
    have hF : fN kd lf rt (fun _ => 65535) 0 0 p < 65536 := fN_lt _ 0 0 ho p hpS
    have hbit : (nI (fN kd lf rt (fun _ => 65535) 0 0 p) &&& nI (2 ^ u) = 0) ↔ ¬ kT1 u kd lf rt p := by
      rw [w16_and hF, ← fN_kT1 ho hu hpS]
      constructor
      · intro h1 h2; exact h1 ⟨u, hu, h2, Nat.testBit_two_pow_self⟩
      · rintro h1 ⟨v, hv, h2, h3⟩
        rw [Nat.testBit_two_pow, decide_eq_true_eq] at h3
        subst h3; exact h1 h2
    rw [f_X5_meetsSingle_44]
    simp only [R_20_1, I_22_0, h.1.1, Option.bind_some, if_neg (nI_ge hpS (show S < 2 ^ 31 by omega)), R_20_0, ck_21, singles_c h hpS]
    by_cases c : kT1 u kd lf rt p
    · rw [if_neg (fun e => hbit.mp e c)]
      obtain ⟨ia1, a1, a2⟩ := add_s (ia := ia) (fi := fi) (fl := fl) (qa := qa) (f := f) (PS_F b) hj (show p < 192 by omega)
      obtain ⟨ia2, b1, b2, b3⟩ := ih (p + 1) q ia1 (by omega) (by omega) ((a2.L (j := j) (fi := fi) (Or.inr (Or.inr rfl)) (Nat.le_refl j)).lx h) (fun r hr => by
        rw [a2.2.2 r hr]
        unfold upB
        by_cases e : r = p
        · subst e; rw [if_pos rfl]; exact ⟨fun _ => ⟨Nat.lt_succ_self _, c⟩, fun _ => rfl⟩
        · rw [if_neg e, hb r hr]; exact ⟨fun h => ⟨by omega, h.2⟩, fun h => ⟨by omega, h.2⟩⟩)
      refine ⟨ia2, ?_, a2.tr b2, b3⟩
      unfold f_X5_meetsSingle_81
      simp only [R_20_6, ps_ck (PS_F b), a1, Option.bind_some, nI_1]
      exact b1
    · rw [if_pos (hbit.mpr c)]
      unfold f_X5_meetsSingle_81
      rw [nI_1]
      exact ih (p + 1) q ia (by omega) (by omega) h (fun r hr => by
        rw [hb r hr]
        constructor
        · rintro ⟨h1, h2⟩; exact ⟨by omega, h2⟩
        · rintro ⟨h1, h2⟩
          by_cases e : r = p
          · subst e; exact absurd h2 c
          · exact ⟨by omega, h2⟩)
/-- a single stage that will do -/
theorem meets_c {j g : Nat} (hj : j < 153) (h : LX b ia fi S kd lf rt) (hg : g < S) (hs : SG b ia S kd lf rt j (sB (ia (b + 35)) 0)) : (f_X5_meetsSingle (b + 20) (nI j) (nI g) (wr (SK b) ia fi fl qa f) = some (0, wr (SK b) ia fi fl qa f) ∧ ∀ u, u < 16 → (∀ p, p < S → sB (ia (b + 35)) 0 p = true → kT1 u kd lf rt p) → kT1 u kd lf rt g) ∨ ∃ ia1, f_X5_meetsSingle (b + 20) (nI j) (nI g) (wr (SK b) ia fi fl qa f) = some (1, wr (SK b) ia1 fi fl qa f) ∧ sEw ia ia1 (b + 45) j (sB (ia1 (b + 45)) j) ∧ RSet S kd lf rt (sB (ia1 (b + 45)) j) ∧ (∀ p, p < S → sB (ia (b + 35)) 0 p = true → sB (ia1 (b + 45)) j p = true) ∧ sB (ia1 (b + 45)) j g = false := by
  have ho := h.2.1
  have hS := ho.2.1
  obtain ⟨qf, hqf⟩ := FU_1000
  obtain ⟨X, x1, x2, x3⟩ := hs
  have hF : fN kd lf rt (fun _ => 65535) 0 0 g < 65536 := fN_lt _ 0 0 ho g hg
  have hY : X &&& (65535 ^^^ fN kd lf rt (fun _ => 65535) 0 0 g) < 65536 := Nat.lt_of_le_of_lt Nat.and_le_left x1
  have hYb : ∀ u, u < 16 → ((X &&& (65535 ^^^ fN kd lf rt (fun _ => 65535) 0 0 g)).testBit u = true ↔ (∀ p, p < S → sB (ia (b + 35)) 0 p = true → kT1 u kd lf rt p) ∧ ¬ kT1 u kd lf rt g) := fun u hu => by
    rw [Nat.testBit_and, Bool.and_eq_true, x3 u hu, x16_bit _ hu, ← fN_kT1 ho hu hg, Bool.not_eq_true', Bool.not_eq_true]
  unfold f_X5_meetsSingle
  simp only [R_20_7, at_row L_46 (An_46 hj) hj (by decide), x2, R_20_0, ck_21, singles_c h hg, Option.bind_some, and16 x1 hF, show (nI (X &&& (65535 ^^^ fN kd lf rt (fun _ => 65535) 0 0 g)) = 0) = (X &&& (65535 ^^^ fN kd lf rt (fun _ => 65535) 0 0 g) = 0) from propext (nI_eq (b := 0) (Nat.lt_trans hY (by decide)) (by decide))]
  by_cases c : X &&& (65535 ^^^ fN kd lf rt (fun _ => 65535) 0 0 g) = 0
  · rw [if_pos c]
    refine Or.inl ⟨rfl, fun u hu hk => ?_⟩
    apply Classical.byContradiction
    intro hn
    have := (hYb u hu).mpr ⟨hk, hn⟩
    rw [c, Nat.zero_testBit] at this
    cases this
  · rw [if_neg c]
    obtain ⟨u, hu, u2, u3⟩ := low_t hY c
    obtain ⟨k1, k2⟩ := (hYb u hu).mp u2
    obtain ⟨ia1, a1, a2⟩ := fill_s (ia := ia) (fi := fi) (fl := fl) (qa := qa) (f := f) (PS_F b) hj (0 : Int32)
    rw [if_pos rfl] at a2
    obtain ⟨ia2, b1, b2, b3⟩ := meets_44 (fi := fi) (fl := fl) (qa := qa) (f := f) hj hu S 0 FU ia1 (by omega) (by omega) ((a2.L (j := j) (fi := fi) (Or.inr (Or.inr rfl)) (Nat.le_refl j)).lx h) (fun r hr => by rw [a2.2.2 r hr]; exact ⟨fun h => (Bool.noConfusion (show false = true from h)), fun h => absurd h.1 (Nat.not_lt_zero _)⟩)
    rw [u3]
    simp only [R_20_6, ps_ck (PS_F b), a1, Option.bind_some]
    refine Or.inr ⟨ia2, b1, a2.tr b2, ⟨Unit, fun _ _ => True, fun k _ => u.testBit k = true, (), km1 u, b3⟩, fun p hp hk => (b3 p hp).mpr (k1 p hp hk), ?_⟩
    cases hb : sB (ia2 (b + 45)) j g with
    | false => rfl
    | true => exact absurd ((b3 g hg).mp hb) k2
end SEARCH2
