section SEARCH2
variable {b : Nat} {ia fi : Nat → Nat → Int32} {fl : Nat → Nat → Int64} {qa : Nat → Nat → Option Nat} {f : mmF} {S : Nat} {kd lf rt : Nat → Nat}
theorem kT_5 {W : Type} {R : W → W → Prop} {V : Nat → W → Prop} (ho : PTo S kd lf rt) (w : W) : ¬ kT R V kd lf rt 5 w := by
  have e := ho.2.2.1 5 (by decide)
  rw [kT_lf (by omega), e, if_neg (by decide)]
  decide
theorem kT_4 {W : Type} {R : W → W → Prop} {V : Nat → W → Prop} (ho : PTo S kd lf rt) (w : W) : kT R V kd lf rt 4 w := by
  have e := ho.2.2.1 4 (by decide)
  rw [kT_lf (by omega), e]
  rfl
/-- an 'if', or a 'not' -/
theorem kT_if {W : Type} {R : W → W → Prop} {V : Nat → W → Prop} (ho : PTo S kd lf rt) {p : Nat} (hp : p < S) (h : kd p = 9 ∨ kd p = 6) (w : W) : kT R V kd lf rt p w ↔ ∀ w', R w w' → kT R V kd lf rt (lf p) w' → kT R V kd lf rt (rt p) w' := by
  rcases h with h | h
  · exact kT_9 ho.to hp h w
  · have h6 : 6 ≤ p := by
      by_cases c : p < 6
      · have := ho.2.2.1 p c; omega
      · omega
    rw [kT_6 ho.to hp h, (ho.2.2.2.1 p h6 hp).2.2.2.2 h]
    exact ⟨fun a w' hw hx => absurd hx (a w' hw), fun a w' hw hx => kT_5 ho w' (a w' hw hx)⟩
/-- a set of the table's parts alone -/
def inS (S : Nat) (K : Nat → Bool) : Prop := ∀ q, q < 192 → K q = true → q < S
theorem upB_in {K : Nat → Bool} {p : Nat} {x : Bool} (h : inS S K) (hp : p < S) : inS S (upB K p x) := fun q hq hk => by
  unfold upB at hk
  by_cases e : q = p
  · omega
  · rw [if_neg e] at hk; exact h q hq hk
theorem sE1.in {fl1 : Nat → Nat → Int64} {a : Nat} {Γ : Nat → Bool} (h : sE1 fl fl1 a Γ) (hi : inS S Γ) : inS S (sB fl1 a) := fun q hq hk => hi q hq (by rw [← h.2 q hq]; exact hk)
theorem eK.tr {fi1 fi2 : Nat → Nat → Int32} {fl1 fl2 : Nat → Nat → Int64} {j : Nat} {K K2 : Nat → Bool} (h : eK b fi fi1 fl fl1 j K) (h2 : eK b fi1 fi2 fl1 fl2 j K2) : eK b fi fi2 fl fl2 j K2 := ⟨⟨fun c hc => (h2.1.1 c hc).trans (h.1.1 c hc), h2.1.2⟩, fun a i ha => (h2.2 a i ha).trans (h.2 a i ha)⟩
theorem opengoal_5 {j : Nat} (hj : j < 153) : ∀ (m i q : Nat) (fi : Nat → Nat → Int32) (fl : Nat → Nat → Int64) (goal : Nat), i + m = S → m < q → LX b ia fi S kd lf rt → goal < S → SG b fi S kd lf rt j (sB fl (lA b j 1)) → inS S (sB fl (lA b j 1)) → ∃ (fi1 : Nat → Nat → Int32) (fl1 : Nat → Nat → Int64) (g : Nat), f_X5_openGoal_5 q (b + 20) (lV b j) (nI goal) (nI i) (wr (SK b) ia fi fl qa f) = some (nI g, wr (SK b) ia fi1 fl1 qa f) ∧ g < S ∧ eK b fi fi1 fl fl1 j (sB fl1 (lA b j 1)) ∧ SG b fi1 S kd lf rt j (sB fl1 (lA b j 1)) ∧ inS S (sB fl1 (lA b j 1)) ∧ (∀ p, p < S → sB fl (lA b j 1) p = true → sB fl1 (lA b j 1) p = true) ∧ (Prv S kd lf rt (sB fl1 (lA b j 1)) g → Prv S kd lf rt (sB fl (lA b j 1)) goal) ∧ ∀ T, RSet S kd lf rt T → (∀ p, p < S → sB fl1 (lA b j 1) p = true → T p = true) → T g = false → T goal = false := by
  intro m
  induction m with
  | zero =>
    intro i q fi fl goal hi hm h hg hs hin
    obtain ⟨q, rfl⟩ : ∃ k, q = k + 1 := ⟨q - 1, by omega⟩
    have e : i = S := by omega
    subst e
    refine ⟨fi, fl, goal, ?_, hg, ⟨⟨fun _ _ => rfl, fun _ _ => rfl⟩, fun _ _ _ => rfl⟩, hs, hin, fun p hp hk => hk, id, fun T _ _ h => h⟩
    rw [f_X5_openGoal_5]
    simp only [R_20_1, I_22_0, h.1.1, Option.bind_some, if_pos (Int32.le_refl _)]
  | succ m ih =>
    intro i q fi fl goal hi hm h hg hs hin
    obtain ⟨q, rfl⟩ : ∃ k, q = k + 1 := ⟨q - 1, by omega⟩
    have ho := h.2.1
    have hS := ho.2.1
    rw [f_X5_openGoal_5]
    simp only [R_20_1, I_22_0, h.1.1, Option.bind_some, if_neg (nI_ge (show i < S by omega) (show S < 2 ^ 31 by omega)), ck_22, isIf_c h hg]
    by_cases c : kd goal = 9 ∨ kd goal = 6
    · have h6 : 6 ≤ goal := h.big hg (by omega)
      obtain ⟨o1, o2, o3, o4, o5⟩ := ho.2.2.2.1 goal h6 hg
      obtain ⟨fi1, fl1, a1, a2, a3⟩ := assume_c (ia := ia) (fi := fi) (fl := fl) (qa := qa) (f := f) h hj (show lf goal < S by omega) hs
      have hlx := a2.lx h
      have hK1 : ∀ q, q < 192 → sB fl1 (lA b j 1) q = upB (sB fl (lA b j 1)) (lf goal) true q := a2.1.2
      have hin1 : inS S (sB fl1 (lA b j 1)) := a2.1.in (upB_in hin (by omega))
      obtain ⟨fi2, fl2, g, b1, b2, b3, b4, b5, b6, b7, b8⟩ := ih (i + 1) q fi1 fl1 (rt goal) (by omega) (by omega) hlx (by omega) a3 hin1
      have hlK : sB fl1 (lA b j 1) (lf goal) = true := by rw [hK1 _ (by omega)]; exact upB_s _ _ _
      refine ⟨fi2, fl2, g, ?_, b2, a2.tr b3, b4, b5, fun p hp hk => b6 p hp (by rw [hK1 p (by omega)]; exact upB_le hk), fun hP W R V w hk hw => ?_, fun T hT hTk hg0 => ?_⟩
      · rw [if_pos c]
        simp only [i10, if_false, R_22_2, h.at24 h6 hg, ck_20, a1, Option.bind_some, R_20_1, R_22_3, hlx.at25 h6 hg, nI_1]
        exact b1
      · rw [kT_if ho hg c]
        intro w' hr hx
        refine b7 hP W R V w' hk (fun p hp hkp => ?_)
        rw [hK1 p (by omega)] at hkp
        unfold upB at hkp
        by_cases e : p = lf goal
        · rw [e]; exact hx
        · rw [if_neg e] at hkp
          exact kT_up hk ho.to p hp _ _ hr (hw p hp hkp)
      · have hy := b8 T hT hTk hg0
        have hx : T (lf goal) = true := hTk _ (by omega) (b6 _ (by omega) hlK)
        obtain ⟨W, R, V, w, hk, hw⟩ := hT
        cases hgt : T goal with
        | false => rfl
        | true =>
          have h1 := (hw goal hg).mp hgt
          rw [kT_if ho hg c] at h1
          have := (hw (rt goal) (by omega)).mpr (h1 w (hk.1 w) ((hw (lf goal) (by omega)).mp hx))
          rw [hy] at this
          cases this
    · rw [if_neg c]
      simp only [if_true]
      exact ⟨fi, fl, goal, rfl, hg, ⟨⟨fun _ _ => rfl, fun _ _ => rfl⟩, fun _ _ _ => rfl⟩, hs, hin, fun p hp hk => hk, id, fun T _ _ h => h⟩
theorem opengoal_c {j goal : Nat} (hj : j < 153) (h : LX b ia fi S kd lf rt) (hg : goal < S) (hs : SG b fi S kd lf rt j (sB fl (lA b j 1))) (hin : inS S (sB fl (lA b j 1))) : ∃ (fi1 : Nat → Nat → Int32) (fl1 : Nat → Nat → Int64) (g : Nat), f_X5_openGoal (b + 20) (lV b j) (nI goal) (wr (SK b) ia fi fl qa f) = some (nI g, wr (SK b) ia fi1 fl1 qa f) ∧ g < S ∧ eK b fi fi1 fl fl1 j (sB fl1 (lA b j 1)) ∧ SG b fi1 S kd lf rt j (sB fl1 (lA b j 1)) ∧ inS S (sB fl1 (lA b j 1)) ∧ (∀ p, p < S → sB fl (lA b j 1) p = true → sB fl1 (lA b j 1) p = true) ∧ (Prv S kd lf rt (sB fl1 (lA b j 1)) g → Prv S kd lf rt (sB fl (lA b j 1)) goal) ∧ ∀ T, RSet S kd lf rt T → (∀ p, p < S → sB fl1 (lA b j 1) p = true → T p = true) → T g = false → T goal = false := by
  obtain ⟨qf, hqf⟩ := FU_1000
  have hS := h.2.1.2.1
  exact opengoal_5 hj S 0 FU fi fl goal (by omega) (by omega) h hg hs hin
/-- the lowest bit -/
def ckL : Bool := (List.range 65536).all fun Y => Y == 0 || (List.range 16).any fun u => (Y &&& (4294967296 - Y)) == 2 ^ u && Y.testBit u
theorem ckL_t : ckL = true := by decide +kernel
theorem low_t {Y : Nat} (h : Y < 65536) (h0 : Y ≠ 0) : ∃ u, u < 16 ∧ Y.testBit u = true ∧ nI Y &&& (-nI Y) = nI (2 ^ u) := by
  have h1 := List.all_eq_true.mp ckL_t Y (List.mem_range.mpr h)
  rw [Bool.or_eq_true, beq_iff_eq] at h1
  rcases h1 with h1 | h1
  · exact absurd h1 h0
  · obtain ⟨u, hu, h2⟩ := List.any_eq_true.mp h1
    rw [Bool.and_eq_true, beq_iff_eq] at h2
    refine ⟨u, List.mem_range.mp hu, h2.2, ?_⟩
    have e : -nI Y = nI (4294967296 - Y) := by
      have h3 : nI 4294967296 - nI Y = nI (4294967296 - Y) := pk_sub (by omega)
      rw [show nI 4294967296 = (0 : Int32) from by decide, Int32.zero_sub] at h3
      exact h3
    rw [e, fa_and, h2.1]
theorem meets_31 {j u : Nat} (hj : j < 153) (hu : u < 16) (h : LX b ia fi S kd lf rt) : ∀ (m p q : Nat) (fl : Nat → Nat → Int64), p + m = S → m < q → (∀ r, r < p → (sB fl (lA b j 4) r = true ↔ kT1 u kd lf rt r)) → ∃ fl1, f_X5_meetsSingle_31 q (b + 20) (lV b j) (nI (2 ^ u)) (nI p) (wr (SK b) ia fi fl qa f) = some (1, wr (SK b) ia fi fl1 qa f) ∧ (∀ c, c ≠ lA b j 4 → fl1 c = fl c) ∧ ∀ r, r < S → (sB fl1 (lA b j 4) r = true ↔ kT1 u kd lf rt r) := by
  have ho := h.2.1
  have hS := ho.2.1
  intro m
  induction m with
  | zero =>
    intro p q fl hp hq hb
    obtain ⟨q, rfl⟩ : ∃ k, q = k + 1 := ⟨q - 1, by omega⟩
    have e : p = S := by omega
    subst e
    refine ⟨fl, ?_, fun _ _ => rfl, hb⟩
    rw [f_X5_meetsSingle_31]
    simp only [R_20_1, I_22_0, h.1.1, Option.bind_some, if_pos (Int32.le_refl _)]
  | succ m ih =>
    intro p q fl hp hq hb
    obtain ⟨q, rfl⟩ : ∃ k, q = k + 1 := ⟨q - 1, by omega⟩
    have hpS : p < S := by omega
    have hK := K_lA (b := b) hj (show 1 ≤ 4 by decide) (Nat.le_refl 4)
    have hF : fN kd lf rt (fun _ => 65535) 0 0 p < 65536 := fN_lt _ 0 0 ho p hpS
    have hbit : (nI (fN kd lf rt (fun _ => 65535) 0 0 p) &&& nI (2 ^ u) = 0) ↔ ¬ kT1 u kd lf rt p := by
      rw [w16_and hF, ← fN_kT1 ho hu hpS]
      constructor
      · intro h1 h2; exact h1 ⟨u, hu, h2, Nat.testBit_two_pow_self⟩
      · rintro h1 ⟨v, hv, h2, h3⟩
        rw [Nat.testBit_two_pow, decide_eq_true_eq] at h3
        subst h3; exact h1 h2
    have next : ∀ v : Int32, ((if v = 0 then false else true) = true ↔ kT1 u kd lf rt p) → ∃ fl1, f_X5_meetsSingle_69 (fun a0 a1 a2 a3 a4 => f_X5_meetsSingle_31 q a0 a1 a2 a3 a4) (b + 20) (lV b j) (nI (2 ^ u)) (nI p) (lA b j 4) (nI p) v (wr (SK b) ia fi fl qa f) = some (1, wr (SK b) ia fi fl1 qa f) ∧ (∀ c, c ≠ lA b j 4 → fl1 c = fl c) ∧ ∀ r, r < S → (sB fl1 (lA b j 4) r = true ↔ kT1 u kd lf rt r) := by
      intro v hv
      obtain ⟨fl1, a1, a2⟩ := set_s (ia := ia) (fi := fi) (fl := fl) (qa := qa) (f := f) hK (show p < 192 by omega) v
      obtain ⟨fl2, b1, b2, b3⟩ := ih (p + 1) q fl1 (by omega) (by omega) (fun r hr => by
        rw [a2.2 r (by omega)]
        unfold upB
        by_cases e : r = p
        · subst e; rw [if_pos rfl]; exact hv
        · rw [if_neg e]; exact hb r (by omega))
      refine ⟨fl2, ?_, fun c hc => (b2 c hc).trans (a2.1 c hc), b3⟩
      unfold f_X5_meetsSingle_69
      simp only [ps_ck hK, a1, Option.bind_some, nI_1]
      exact b1
    rw [f_X5_meetsSingle_31]
    simp only [R_20_1, I_22_0, h.1.1, Option.bind_some, if_neg (nI_ge hpS (show S < 2 ^ 31 by omega)), R_lv hj (show 3 < 4 by decide), R_20_0, ck_21, singles_c h hpS]
    by_cases c : kT1 u kd lf rt p
    · rw [if_neg (fun e => hbit.mp e c)]
      exact next 1 ⟨fun _ => c, fun _ => rfl⟩
    · rw [if_pos (hbit.mpr c)]
      exact next 0 ⟨fun h => (by cases h), fun h => absurd h c⟩
/-- a single stage that will do -/
theorem meets_c {j g : Nat} (hj : j < 153) (h : LX b ia fi S kd lf rt) (hg : g < S) (hs : SG b fi S kd lf rt j (sB fl (lA b j 1))) : (f_X5_meetsSingle (b + 20) (lV b j) (nI g) (wr (SK b) ia fi fl qa f) = some (0, wr (SK b) ia fi fl qa f) ∧ ∀ u, u < 16 → (∀ p, p < S → sB fl (lA b j 1) p = true → kT1 u kd lf rt p) → kT1 u kd lf rt g) ∨ ∃ fl1, f_X5_meetsSingle (b + 20) (lV b j) (nI g) (wr (SK b) ia fi fl qa f) = some (1, wr (SK b) ia fi fl1 qa f) ∧ (∀ c, c ≠ lA b j 4 → fl1 c = fl c) ∧ RSet S kd lf rt (sB fl1 (lA b j 4)) ∧ (∀ p, p < S → sB fl (lA b j 1) p = true → sB fl1 (lA b j 4) p = true) ∧ sB fl1 (lA b j 4) g = false := by
  have ho := h.2.1
  have hS := ho.2.1
  obtain ⟨qf, hqf⟩ := FU_1000
  obtain ⟨X, x1, x2, x3⟩ := hs
  have hF : fN kd lf rt (fun _ => 65535) 0 0 g < 65536 := fN_lt _ 0 0 ho g hg
  have hY : X &&& (65535 ^^^ fN kd lf rt (fun _ => 65535) 0 0 g) < 65536 := Nat.lt_of_le_of_lt Nat.and_le_left x1
  have hYb : ∀ u, u < 16 → ((X &&& (65535 ^^^ fN kd lf rt (fun _ => 65535) 0 0 g)).testBit u = true ↔ (∀ p, p < S → sB fl (lA b j 1) p = true → kT1 u kd lf rt p) ∧ ¬ kT1 u kd lf rt g) := fun u hu => by
    rw [Nat.testBit_and, Bool.and_eq_true, x3 u hu, x16_bit _ hu, ← fN_kT1 ho hu hg, Bool.not_eq_true', Bool.not_eq_true]
  unfold f_X5_meetsSingle
  simp only [I_lv hj, x2, R_20_0, ck_21, singles_c h hg, Option.bind_some, and16 x1 hF, show (nI (X &&& (65535 ^^^ fN kd lf rt (fun _ => 65535) 0 0 g)) = 0) = (X &&& (65535 ^^^ fN kd lf rt (fun _ => 65535) 0 0 g) = 0) from propext (nI_eq (b := 0) (Nat.lt_trans hY (by decide)) (by decide))]
  by_cases c : X &&& (65535 ^^^ fN kd lf rt (fun _ => 65535) 0 0 g) = 0
  · rw [if_pos c]
    refine Or.inl ⟨rfl, fun u hu hk => ?_⟩
    apply Classical.byContradiction
    intro hn
    have := (hYb u hu).mpr ⟨hk, hn⟩
    rw [c, Nat.zero_testBit] at this
    cases this
  · rw [if_neg c]
    obtain ⟨u, hu, u2, u3⟩ := low_t hY c
    obtain ⟨k1, k2⟩ := (hYb u hu).mp u2
    obtain ⟨fl1, a1, a2, a3⟩ := meets_31 (qa := qa) (f := f) hj hu h S 0 FU fl (by omega) (by omega) (fun r hr => absurd hr (Nat.not_lt_zero _))
    rw [u3]
    refine Or.inr ⟨fl1, a1, a2, ⟨Unit, fun _ _ => True, fun k _ => u.testBit k = true, (), km1 u, a3⟩, fun p hp hk => (a3 p hp).mpr (k1 p hp hk), ?_⟩
    cases hb : sB fl1 (lA b j 4) g with
    | false => rfl
    | true => exact absurd ((a3 g hg).mp hb) k2
end SEARCH2
