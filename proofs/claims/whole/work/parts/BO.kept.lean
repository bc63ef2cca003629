/-! THE REFERENCE: whether small models of a kind refute -/
section KEPT
variable {b : Nat} {ia fi : Nat → Nat → Int32} {fl : Nat → Nat → Int64} {qa : Nat → Nat → Option Nat} {f : mmF} {op lf rt : Nat → Nat} {P : Nat}
theorem FU_2000 : ∃ n : Nat, FU = n + 2000 := FU_k 2000 (Nat.le_trans (show 2000 ≤ 2 ^ 11 by decide) (Nat.pow_le_pow_right (by decide) (by decide)))
theorem tp_bit (l : Nat) {j : Nat} : (2 ^ l - 1).testBit j = decide (j < l) := Nat.testBit_two_pow_sub_one _ _
theorem wordEnd_t {k s w : Nat} (hk : k < 4) (hw : w < kW k) (hs : s < kS k) : ∃ X, X < 2 ^ 32 ∧ f_X10_wordEnd (nI (kW k * s + w)) (nI (kW k)) (nI (kM k)) f = some (nI X) ∧ ∀ j, j < 32 → X.testBit j = decide (32 * w + j < kM k) := by
  obtain ⟨w1, w2, w3, w4, w5, w6⟩ := kW_lt hk
  have hmod : (kW k * s + w) % kW k = w := by rw [Nat.mul_add_mod, Nat.mod_eq_of_lt hw]
  have hks : kW k * s ≤ 20 * 3 := Nat.mul_le_mul w2 (by omega)
  have hlt : 32 * w < kM k := by
    rcases k4 hk with rfl | rfl | rfl | rfl
    · rw [show kW 0 = 1 from rfl] at hw; rw [show kM 0 = 16 from rfl]; omega
    · rw [show kW 1 = 3 from rfl] at hw; rw [show kM 1 = 81 from rfl]; omega
    · rw [show kW 2 = 8 from rfl] at hw; rw [show kM 2 = 256 from rfl]; omega
    · rw [show kW 3 = 20 from rfl] at hw; rw [show kM 3 = 625 from rfl]; omega
  have e0 : ¬ nI (kW k) = (0 : Int32) := nI_ne0 (by omega) (by omega)
  unfold f_X10_wordEnd
  rw [if_neg e0, pk_rem (show kW k * s + w < 2 ^ 31 by omega) (by omega) (by omega), hmod, show (32 : Int32) = nI 32 from rfl, pk_mul, pk_sub (by omega)]
  by_cases c : kM k - 32 * w < 32
  · rw [if_pos (nI_lt c (by decide)), show (31 : Int32) = 31 from rfl, bt_shl c, show (1 : Int32) = nI 1 from rfl, pk_sub (Nat.two_pow_pos _)]
    refine ⟨_, Nat.lt_of_le_of_lt (Nat.sub_le _ _) (Nat.pow_lt_pow_right (by decide) c), rfl, fun j hj => ?_⟩
    rw [tp_bit]
    exact decide_eq_decide.mpr (by omega)
  · rw [if_neg (nI_nlt (by omega) (by omega)), m1_n]
    refine ⟨_, by decide, rfl, fun j hj => ?_⟩
    rw [f32_bit hj, decide_eq_true (by omega)]
/-- no model of a kind, at none of its stages, has the given parts and not the goal -/
def kpS (op lf rt : Nat → Nat) (P k s w : Nat) (Γ : Nat → Bool) (pg : Nat) : Prop := ∃ j, j < 32 ∧ 32 * w + j < kM k ∧ (∀ p, p < P → Γ p = true → cmp s (tQ op lf rt k (32 * w + j) p) = true) ∧ cmp s (tQ op lf rt k (32 * w + j) pg) = false
theorem kept_50 {k s w pg : Nat} {Γ : Nat → Bool} (hr : RP b ia fi P op lf rt) (hg : gv b ia 0 Γ) (hk : k < 4) (hs : s < kS k) (hw : w < kW k) (hpg : pg < P) (hgl : ia (b + 98) 0 = nI pg) (k20 : Nat → Int32 → Int32 → Int32 → Option (Int32)) {y z : Int32} : ∀ (m i q X : Nat), i + m = P → m < q → X < 2 ^ 32 → (∀ j, j < 32 → (X.testBit j = true ↔ 32 * w + j < kM k ∧ ∀ p, p < i → Γ p = true → cmp s (tQ op lf rt k (32 * w + j) p) = true)) → (kpS op lf rt P k s w Γ pg ∧ f_X10_isKept_50 k20 (wr (SK b) ia fi fl qa f) q (b + 83) y z (nI (kW k * s + w)) (nI (kB k + kW k * s + w)) (nI X) (nI i) = some 0) ∨ (¬ kpS op lf rt P k s w Γ pg ∧ f_X10_isKept_50 k20 (wr (SK b) ia fi fl qa f) q (b + 83) y z (nI (kW k * s + w)) (nI (kB k + kW k * s + w)) (nI X) (nI i) = k20 (b + 83) y z (nI (kW k * s + w + 1))) := by
  obtain ⟨hP, ⟨r1, r2⟩, ho, hc⟩ := hr
  have ha := at_lt hk hs hw
  have e91 : ∀ x : Nat, (91 : Int32) * nI x + nI (kB k + kW k * s + w) = nI (91 * x + (kB k + kW k * s + w)) := fun x => by rw [show (91 : Int32) = nI 91 from rfl, pk_mul, nI_add]
  intro m
  induction m with
  | zero =>
    intro i q X hi hm hX hb
    obtain ⟨q, rfl⟩ : ∃ k, q = k + 1 := ⟨q - 1, by omega⟩
    have hin : i = P := by omega
    subst hin
    obtain ⟨Y, y1, y2, y3⟩ := hc pg k s w hpg hk hs hw
    rw [f_X10_isKept_50]
    simp only [I_83_19, r1, Option.bind_some]
    rw [if_pos (Int32.le_refl _)]
    simp only [R_83_18, R_83_21, show (0 : Int32) = nI 0 from rfl, An_98 (show 0 < 600 by decide), hgl, e91, An_96 (show 91 * pg + (kB k + kW k * s + w) < 91000 by omega), y2, Option.bind_some, not32, fa_and]
    have hl : X &&& (4294967295 ^^^ Y) < 2 ^ 32 := Nat.lt_of_le_of_lt Nat.and_le_left hX
    have hz : (nI (X &&& (4294967295 ^^^ Y)) = nI 0) = (X &&& (4294967295 ^^^ Y) = 0) := propext ⟨fun e => by
      have h1 := congrArg (fun t : Int32 => t.toBitVec.toNat) e
      simp only [pk_tn hl, pk_tn (show 0 < 2 ^ 32 by decide)] at h1
      exact h1, fun e => by rw [e]⟩
    simp only [hz]
    by_cases c : X &&& (4294967295 ^^^ Y) = 0
    · rw [if_pos c]
      refine Or.inr ⟨?_, by rw [show (1 : Int32) = 1 from rfl, nI_1]⟩
      rintro ⟨j, j1, j2, j3, j4⟩
      have : (X &&& (4294967295 ^^^ Y)).testBit j = true := by
        rw [Nat.testBit_and, (hb j j1).mpr ⟨j2, j3⟩, x32_bit _ j1, y3 j j1 j2, j4]
        rfl
      rw [c, Nat.zero_testBit] at this
      cases this
    · rw [if_neg c]
      refine Or.inl ⟨?_, rfl⟩
      obtain ⟨j, hj⟩ := Nat.exists_testBit_of_ne_zero c
      have hj32 : j < 32 := by
        apply Classical.byContradiction
        intro h
        rw [Nat.testBit_lt_two_pow (Nat.lt_of_lt_of_le hl (Nat.pow_le_pow_right (by decide) (by omega)))] at hj
        cases hj
      rw [Nat.testBit_and, Bool.and_eq_true, x32_bit _ hj32] at hj
      obtain ⟨b1, b2⟩ := (hb j hj32).mp hj.1
      refine ⟨j, hj32, b1, b2, ?_⟩
      have := hj.2
      rw [y3 j hj32 b1] at this
      revert this
      cases cmp s (tQ op lf rt k (32 * w + j) pg) <;> simp
  | succ m ih =>
    intro i q X hi hm hX hb
    obtain ⟨q, rfl⟩ : ∃ k, q = k + 1 := ⟨q - 1, by omega⟩
    have hiP : i < P := by omega
    rw [f_X10_isKept_50]
    simp only [I_83_19, r1, Option.bind_some]
    rw [if_neg (nI_ge hiP (by omega))]
    simp only [ck_83, show (0 : Int32) = nI 0 from rfl, has_g (d := 0) hg (by decide) (show i < 1024 by omega), Option.bind_some]
    cases hΓ : Γ i with
    | false =>
      rw [if_neg (show ¬ (false = true) by decide), if_pos (show (nI 0 : Int32) = nI 0 from rfl)]
      unfold f_X10_isKept_88
      rw [m1_n, fa_and, nI_1]
      have ee : X &&& 4294967295 = X := by
        rw [show (4294967295 : Nat) = 2 ^ 32 - 1 from rfl, Nat.and_two_pow_sub_one_of_lt_two_pow hX]
      rw [ee]
      refine ih (i + 1) q X (by omega) (by omega) hX (fun j hj => ?_)
      rw [hb j hj]
      constructor
      · rintro ⟨h1, h2⟩
        refine ⟨h1, fun p hp hg => ?_⟩
        by_cases e : p = i
        · subst e; rw [hΓ] at hg; cases hg
        · exact h2 p (by omega) hg
      · rintro ⟨h1, h2⟩; exact ⟨h1, fun p hp hg => h2 p (by omega) hg⟩
    | true =>
      obtain ⟨Y, y1, y2, y3⟩ := hc i k s w hiP hk hs hw
      rw [if_pos rfl, if_neg (show ¬ (1 : Int32) = nI 0 by decide)]
      simp only [R_83_18, e91, An_96 (show 91 * i + (kB k + kW k * s + w) < 91000 by omega), y2, Option.bind_some]
      unfold f_X10_isKept_88
      rw [fa_and, nI_1]
      refine ih (i + 1) q (X &&& Y) (by omega) (by omega) (Nat.lt_of_le_of_lt Nat.and_le_left hX) (fun j hj => ?_)
      rw [Nat.testBit_and, Bool.and_eq_true, hb j hj]
      constructor
      · rintro ⟨⟨h1, h2⟩, h3⟩
        refine ⟨h1, fun p hp hg => ?_⟩
        by_cases e : p = i
        · subst e; rw [y3 j hj h1] at h3; exact h3
        · exact h2 p (by omega) hg
      · rintro ⟨h1, h2⟩
        refine ⟨⟨h1, fun p hp hg => h2 p (by omega) hg⟩, ?_⟩
        rw [y3 j hj h1]
        exact h2 i (by omega) hΓ
theorem kept_20 {k pg : Nat} {Γ : Nat → Bool} (hr : RP b ia fi P op lf rt) (hg : gv b ia 0 Γ) (hk : k < 4) (hpg : pg < P) (hgl : ia (b + 98) 0 = nI pg) : ∀ (m t q : Nat), t + m = kW k * kS k → m < q → ((∃ s w, s < kS k ∧ w < kW k ∧ t ≤ kW k * s + w ∧ kpS op lf rt P k s w Γ pg) ∧ f_X10_isKept_20 (wr (SK b) ia fi fl qa f) q (b + 83) (nI k) (nI (kW k * kS k)) (nI t) = some 0) ∨ (¬ (∃ s w, s < kS k ∧ w < kW k ∧ t ≤ kW k * s + w ∧ kpS op lf rt P k s w Γ pg) ∧ f_X10_isKept_20 (wr (SK b) ia fi fl qa f) q (b + 83) (nI k) (nI (kW k * kS k)) (nI t) = some 1) := by
  obtain ⟨w1, w2, w3, w4, w5, w6⟩ := kW_lt hk
  obtain ⟨qf, hqf⟩ := FU_2000
  have hP := hr.1
  have hn : kW k * kS k ≤ 20 * 3 := Nat.mul_le_mul w2 w4
  intro m
  induction m with
  | zero =>
    intro t q ht hm
    obtain ⟨q, rfl⟩ : ∃ k, q = k + 1 := ⟨q - 1, by omega⟩
    have e : t = kW k * kS k := by omega
    subst e
    refine Or.inr ⟨?_, ?_⟩
    · rintro ⟨s, w, a1, a2, a3, a4⟩
      have h1 : kW k * s + w < kW k * (s + 1) := by rw [Nat.mul_succ]; omega
      have h2 : kW k * (s + 1) ≤ kW k * kS k := Nat.mul_le_mul_left _ a1
      omega
    · rw [f_X10_isKept_20, if_pos (Int32.le_refl _)]
  | succ m ih =>
    intro t q ht hm
    obtain ⟨q, rfl⟩ : ∃ k, q = k + 1 := ⟨q - 1, by omega⟩
    have hlt : t < kW k * kS k := by omega
    have hdiv : kW k * (t / kW k) + t % kW k = t := Nat.div_add_mod _ _
    have hs : t / kW k < kS k := Nat.div_lt_of_lt_mul hlt
    have hw : t % kW k < kW k := Nat.mod_lt _ (by omega)
    obtain ⟨X, x1, x2, x3⟩ := wordEnd_t (f := wr (SK b) ia fi fl qa f) hk hw hs
    rw [hdiv] at x2
    have hk50 := kept_50 (fl := fl) (qa := qa) (f := f) (y := nI k) (z := nI (kW k * kS k)) hr hg hk hs hw hpg hgl (fun a0 a1 a2 a3 => f_X10_isKept_20 (wr (SK b) ia fi fl qa f) q a0 a1 a2 a3) P 0 FU X (by omega) (by omega) x1 (fun j hj => by
      rw [x3 j hj, decide_eq_true_eq]
      exact ⟨fun h => ⟨h, fun p hp => absurd hp (Nat.not_lt_zero _)⟩, fun h => h.1⟩)
    rw [Nat.add_assoc (kB k), hdiv] at hk50
    rw [f_X10_isKept_20, if_neg (nI_ge hlt (by omega))]
    simp only [begin_t hk, wordsOf_t hk, models_t hk, x2, Option.bind_some, nI_add]
    rcases hk50 with ⟨a1, a2⟩ | ⟨a1, a2⟩
    · exact Or.inl ⟨⟨_, _, hs, hw, by omega, a1⟩, a2⟩
    · rw [show (0 : Int32) = nI 0 from rfl, a2]
      have hiff : (∃ s w, s < kS k ∧ w < kW k ∧ t ≤ kW k * s + w ∧ kpS op lf rt P k s w Γ pg) ↔ ∃ s w, s < kS k ∧ w < kW k ∧ t + 1 ≤ kW k * s + w ∧ kpS op lf rt P k s w Γ pg := by
        constructor
        · rintro ⟨s, w, b1, b2, b3, b4⟩
          by_cases e : kW k * s + w = t
          · have es : s = t / kW k := by
              rw [← e, Nat.mul_add_div (by omega), Nat.div_eq_of_lt b2]
              rfl
            have ew : w = t % kW k := by rw [← e, Nat.mul_add_mod, Nat.mod_eq_of_lt b2]
            rw [es, ew] at b4
            exact absurd b4 a1
          · exact ⟨s, w, b1, b2, by omega, b4⟩
        · rintro ⟨s, w, b1, b2, b3, b4⟩; exact ⟨s, w, b1, b2, by omega, b4⟩
      rw [hiff]
      exact ih (t + 1) q (by omega) (by omega)
def kpF (op lf rt : Nat → Nat) (P k : Nat) (Γ : Nat → Bool) (pg : Nat) : Prop := ∃ s m, s < kS k ∧ m < kM k ∧ (∀ p, p < P → Γ p = true → cmp s (tQ op lf rt k m p) = true) ∧ cmp s (tQ op lf rt k m pg) = false
theorem kept_t {k pg : Nat} {Γ : Nat → Bool} (hr : RP b ia fi P op lf rt) (hg : gv b ia 0 Γ) (hk : k < 4) (hpg : pg < P) (hgl : ia (b + 98) 0 = nI pg) : (kpF op lf rt P k Γ pg ∧ f_X10_isKept (b + 83) (nI k) (wr (SK b) ia fi fl qa f) = some 0) ∨ (¬ kpF op lf rt P k Γ pg ∧ f_X10_isKept (b + 83) (nI k) (wr (SK b) ia fi fl qa f) = some 1) := by
  obtain ⟨w1, w2, w3, w4, w5, w6⟩ := kW_lt hk
  obtain ⟨qf, hqf⟩ := FU_2000
  have hn : kW k * kS k ≤ 20 * 3 := Nat.mul_le_mul w2 w4
  have h := kept_20 (fl := fl) (qa := qa) (f := f) hr hg hk hpg hgl (kW k * kS k) 0 FU (by omega) (by omega)
  have hmw : 32 * kW k ≥ kM k := by rcases k4 hk with rfl | rfl | rfl | rfl <;> decide
  have hiff : (∃ s w, s < kS k ∧ w < kW k ∧ 0 ≤ kW k * s + w ∧ kpS op lf rt P k s w Γ pg) ↔ kpF op lf rt P k Γ pg := by
    constructor
    · rintro ⟨s, w, a1, a2, a3, j, j1, j2, j3, j4⟩; exact ⟨s, 32 * w + j, a1, j2, j3, j4⟩
    · rintro ⟨s, m, a1, a2, a3, a4⟩
      have e : 32 * (m / 32) + m % 32 = m := Nat.div_add_mod _ _
      refine ⟨s, m / 32, a1, by omega, Nat.zero_le _, m % 32, Nat.mod_lt _ (by decide), by omega, ?_, ?_⟩
      · rw [e]; exact a3
      · rw [e]; exact a4
  rw [hiff] at h
  have eS : f_X10_isKept (b + 83) (nI k) (wr (SK b) ia fi fl qa f) = f_X10_isKept_20 (wr (SK b) ia fi fl qa f) FU (b + 83) (nI k) (nI (kW k * kS k)) (nI 0) := by
    unfold f_X10_isKept f_X10_isKept_16
    simp only [wordsOf_t hk, Option.bind_some]
    rcases k4 hk with rfl | rfl | rfl | rfl <;> rfl
  rw [eS]
  exact h
end KEPT
