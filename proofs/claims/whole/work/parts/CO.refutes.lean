/-! THE REFERENCE'S SEARCH: refutes, one cell -/
def gW (op lf rt : Nat → Nat) (k s w : Nat) (Γ : Nat → Bool) (i X : Nat) : Prop := ∀ j, j < 32 → (X.testBit j = true ↔ 32 * w + j < kM k ∧ ∀ p, p < i → Γ p = true → cmp s (tQ op lf rt k (32 * w + j) p) = true)
theorem nI_z {X : Nat} (h : X < 2 ^ 32) : (nI X = (0 : Int32)) = (X = 0) := propext ⟨fun e => by
  have h1 := congrArg (fun t : Int32 => t.toBitVec.toNat) e
  simp only [show (0 : Int32) = nI 0 from rfl, pk_tn h, pk_tn (show 0 < 2 ^ 32 by decide)] at h1
  exact h1, fun e => by rw [e]; rfl⟩
section REFU
variable {b : Nat} {ia fi : Nat → Nat → Int32} {fl : Nat → Nat → Int64} {qa : Nat → Nat → Option Nat} {f : mmF} {op lf rt : Nat → Nat} {P : Nat} {Γ : Nat → Bool}
theorem ref_73 {d k s w : Nat} (hr : RP b ia fi P op lf rt) (hg : gv b ia d Γ) (hd : d < 600) (hk : k < 4) (hs : s < kS k) (hw : w < kW k) (k7 : Nat → Int32 → Int32 → Int32 → Int32 → Option (Int32)) {y z : Int32} : ∀ (m i q X : Nat), i + m = P → m < q → X < 2 ^ 32 → gW op lf rt k s w Γ i X → ∃ Y, Y < 2 ^ 32 ∧ gW op lf rt k s w Γ P Y ∧ f_X10_refutes_73 k7 (wr (SK b) ia fi fl qa f) q (b + 83) (nI d) y z (nI (kB k + kW k * s + w)) (nI X) (nI i) = f_X10_refutes_125 k7 (wr (SK b) ia fi fl qa f) (b + 83) (nI d) y z (nI (kB k + kW k * s + w)) (nI Y) := by
  obtain ⟨hP, ⟨r1, r2⟩, ho, hc⟩ := hr
  have ha := at_lt hk hs hw
  have e91 : ∀ x : Nat, (91 : Int32) * nI x + nI (kB k + kW k * s + w) = nI (91 * x + (kB k + kW k * s + w)) := fun x => by rw [show (91 : Int32) = nI 91 from rfl, pk_mul, nI_add]
  intro m
  induction m with
  | zero =>
    intro i q X hi hm hX hb
    obtain ⟨q, rfl⟩ : ∃ k, q = k + 1 := ⟨q - 1, by omega⟩
    have hin : i = P := by omega
    subst hin
    refine ⟨X, hX, hb, ?_⟩
    rw [f_X10_refutes_73]
    simp only [I_83_19, r1, Option.bind_some]
    rw [if_pos (Int32.le_refl _)]
  | succ m ih =>
    intro i q X hi hm hX hb
    obtain ⟨q, rfl⟩ : ∃ k, q = k + 1 := ⟨q - 1, by omega⟩
    have hiP : i < P := by omega
    rw [f_X10_refutes_73]
    simp only [I_83_19, r1, Option.bind_some]
    rw [if_neg (nI_ge hiP (by omega))]
    simp only [nI_z hX]
    by_cases c0 : X = 0
    · rw [if_pos c0]
      refine ⟨X, hX, fun j hj => ?_, rfl⟩
      subst c0
      have h0 := hb j hj
      rw [Nat.zero_testBit] at h0 ⊢
      refine ⟨fun h => absurd h (by decide), fun h => ?_⟩
      exact absurd (h0.mpr ⟨h.1, fun p hp hg => h.2 p (by omega) hg⟩) (by decide)
    rw [if_neg c0]
    simp only [ck_83, has_g hg hd (show i < 1024 by omega), Option.bind_some]
    cases hΓ : Γ i with
    | false =>
      rw [if_neg (show ¬ (false = true) by decide), if_pos rfl]
      unfold f_X10_refutes_116
      rw [m1_n, fa_and, nI_1]
      have ee : X &&& 4294967295 = X := by
        rw [show (4294967295 : Nat) = 2 ^ 32 - 1 from rfl, Nat.and_two_pow_sub_one_of_lt_two_pow hX]
      rw [ee]
      refine ih (i + 1) q X (by omega) (by omega) hX (fun j hj => ?_)
      rw [hb j hj]
      constructor
      · rintro ⟨h1, h2⟩
        refine ⟨h1, fun p hp hg => ?_⟩
        by_cases e : p = i
        · subst e; rw [hΓ] at hg; cases hg
        · exact h2 p (by omega) hg
      · rintro ⟨h1, h2⟩; exact ⟨h1, fun p hp hg => h2 p (by omega) hg⟩
    | true =>
      obtain ⟨Y, y1, y2, y3⟩ := hc i k s w hiP hk hs hw
      rw [if_pos rfl, if_neg (show ¬ (1 : Int32) = 0 by decide)]
      simp only [R_83_18, e91, An_96 (show 91 * i + (kB k + kW k * s + w) < 91000 by omega), y2, Option.bind_some]
      unfold f_X10_refutes_116
      rw [fa_and, nI_1]
      refine ih (i + 1) q (X &&& Y) (by omega) (by omega) (Nat.lt_of_le_of_lt Nat.and_le_left hX) (fun j hj => ?_)
      rw [Nat.testBit_and, Bool.and_eq_true, hb j hj]
      constructor
      · rintro ⟨⟨h1, h2⟩, h3⟩
        refine ⟨h1, fun p hp hg => ?_⟩
        by_cases e : p = i
        · subst e; rw [y3 j hj h1] at h3; exact h3
        · exact h2 p (by omega) hg
      · rintro ⟨h1, h2⟩
        refine ⟨⟨h1, fun p hp hg => h2 p (by omega) hg⟩, ?_⟩
        rw [y3 j hj h1]
        exact h2 i (by omega) hΓ
/-- a way of cell 0 makes all that is given hold; what a cell refutes is kpS -/
def plS (op lf rt : Nat → Nat) (P : Nat) (Γ : Nat → Bool) : Prop := ∃ m, m < 16 ∧ ∀ p, p < P → Γ p = true → cmp 0 (tQ op lf rt 0 m p) = true
theorem w_ex {X : Nat} (h : X < 2 ^ 32) : X ≠ 0 ↔ ∃ j, j < 32 ∧ X.testBit j = true := by
  constructor
  · intro c
    obtain ⟨j, hj⟩ := Nat.exists_testBit_of_ne_zero c
    refine ⟨j, ?_, hj⟩
    apply Classical.byContradiction
    intro h2
    rw [Nat.testBit_lt_two_pow (Nat.lt_of_lt_of_le h (Nat.pow_le_pow_right (by decide) (by omega)))] at hj
    cases hj
  · rintro ⟨j, _, hj⟩ e
    rw [e, Nat.zero_testBit] at hj
    cases hj
theorem ref_125 {d k s w pg : Nat} {a r : Nat} (hr : RP b ia fi P op lf rt) (hd : d < 600) (hk : k < 4) (hs : s < kS k) (hw : w < kW k) (hpg : pg < P) (hgl : ia (b + 98) d = nI pg) (k7 : Nat → Int32 → Int32 → Int32 → Int32 → Option (Int32)) {Y : Nat} (hY : Y < 2 ^ 32) (hb : gW op lf rt k s w Γ P Y) (ha : a < 2) (hr2 : r < 2) : ∃ a1 r1 : Nat, a1 < 2 ∧ r1 < 2 ∧ (a1 = 1 ↔ a = 1 ∧ (kB k + kW k * s + w = 0 → ¬ plS op lf rt P Γ)) ∧ (r1 = 1 ↔ r = 1 ∨ kpS op lf rt P k s w Γ pg) ∧ f_X10_refutes_125 k7 (wr (SK b) ia fi fl qa f) (b + 83) (nI d) (nI a) (nI r) (nI (kB k + kW k * s + w)) (nI Y) = k7 (b + 83) (nI d) (nI a1) (nI r1) (nI (kB k + kW k * s + w + 1)) := by
  obtain ⟨hP, ⟨p1, p2⟩, ho, hc⟩ := hr
  have hat := at_lt hk hs hw
  have e91 : ∀ x : Nat, (91 : Int32) * nI x + nI (kB k + kW k * s + w) = nI (91 * x + (kB k + kW k * s + w)) := fun x => by rw [show (91 : Int32) = nI 91 from rfl, pk_mul, nI_add]
  obtain ⟨Z, z1, z2, z3⟩ := hc pg k s w hpg hk hs hw
  have hl : Y &&& (4294967295 ^^^ Z) < 2 ^ 32 := Nat.lt_of_le_of_lt Nat.and_le_left hY
  -- the goal's word
  have hR : Y &&& (4294967295 ^^^ Z) ≠ 0 ↔ kpS op lf rt P k s w Γ pg := by
    rw [w_ex hl]
    constructor
    · rintro ⟨j, hj, h1⟩
      rw [Nat.testBit_and, Bool.and_eq_true, x32_bit _ hj] at h1
      obtain ⟨b1, b2⟩ := (hb j hj).mp h1.1
      refine ⟨j, hj, b1, b2, ?_⟩
      have h2 := h1.2
      rw [z3 j hj b1] at h2
      revert h2
      cases cmp s (tQ op lf rt k (32 * w + j) pg) <;> simp
    · rintro ⟨j, hj, b1, b2, b3⟩
      refine ⟨j, hj, ?_⟩
      rw [Nat.testBit_and, (hb j hj).mpr ⟨b1, b2⟩, x32_bit _ hj, z3 j hj b1, b3]
      rfl
  have fin : ∀ t : Nat, t < 2 → ∃ r1 : Nat, r1 < 2 ∧ (r1 = 1 ↔ r = 1 ∨ kpS op lf rt P k s w Γ pg) ∧ f_X10_refutes_141 k7 (wr (SK b) ia fi fl qa f) (b + 83) (nI d) (nI r) (nI (kB k + kW k * s + w)) (nI Y) (nI a) (nI t) = k7 (b + 83) (nI d) (nI (a &&& t)) (nI r1) (nI (kB k + kW k * s + w + 1)) := by
    intro t ht
    unfold f_X10_refutes_141
    simp only [R_83_18, R_83_21, An_98 hd, hgl, e91, An_96 (show 91 * pg + (kB k + kW k * s + w) < 91000 by omega), z2, Option.bind_some, not32, fa_and, nI_z hl]
    by_cases c : Y &&& (4294967295 ^^^ Z) = 0
    · rw [if_pos c]
      refine ⟨r, hr2, ⟨Or.inl, fun h => h.resolve_right fun h' => absurd c (hR.mpr h')⟩, ?_⟩
      unfold f_X10_refutes_174
      rw [show (0 : Int32) = nI 0 from rfl, fa_or, nI_1, Nat.or_zero]
    · rw [if_neg c]
      refine ⟨1, by decide, ⟨fun _ => Or.inr (hR.mp c), fun _ => rfl⟩, ?_⟩
      unfold f_X10_refutes_174
      rw [show (1 : Int32) = nI 1 from rfl, fa_or, show nI (kB k + kW k * s + w) + nI 1 = nI (kB k + kW k * s + w + 1) from nI_add _ _]
      obtain rfl | rfl : r = 0 ∨ r = 1 := by omega
      · rfl
      · rfl
  have a1 : a &&& 1 = a := by
    obtain rfl | rfl : a = 0 ∨ a = 1 := by omega
    · rfl
    · rfl
  unfold f_X10_refutes_125
  by_cases c0 : 0 < kB k + kW k * s + w
  · have c0' : (0 : Int32) < nI (kB k + kW k * s + w) := by rw [Int32.lt_iff_toInt_lt, nI_toInt (by omega)]; exact Int.natCast_pos.mpr c0
    rw [if_pos c0']
    obtain ⟨r1, f1, f2, f3⟩ := fin 1 (by decide)
    refine ⟨a, r1, ha, f1, ⟨fun h => ⟨h, fun h0 => absurd h0 (by omega)⟩, fun h => h.1⟩, f2, ?_⟩
    unfold f_X10_refutes_136
    rw [a1] at f3
    exact f3
  have c00 : kB k + kW k * s + w = 0 := by omega
  have c0' : ¬ (0 : Int32) < nI (kB k + kW k * s + w) := by rw [c00]; decide
  rw [if_neg c0']
  have hk0 : k = 0 ∧ s = 0 ∧ w = 0 := by
    rcases k4 hk with rfl | rfl | rfl | rfl
    · rw [show kS 0 = 1 from rfl] at hs; rw [show kW 0 = 1 from rfl] at hw; omega
    · rw [show kB 1 = 1 from rfl] at c00; omega
    · rw [show kB 2 = 7 from rfl] at c00; omega
    · rw [show kB 3 = 31 from rfl] at c00; omega
  obtain ⟨rfl, rfl, rfl⟩ := hk0
  have hPl : Y ≠ 0 ↔ plS op lf rt P Γ := by
    rw [w_ex hY]
    constructor
    · rintro ⟨j, hj, h1⟩
      obtain ⟨b1, b2⟩ := (hb j hj).mp h1
      have b1 : 32 * 0 + j < 16 := b1
      exact ⟨j, by omega, fun p hp hg => by have := b2 p hp hg; rwa [show 32 * 0 + j = j by omega] at this⟩
    · rintro ⟨m, hm, h⟩
      exact ⟨m, by omega, (hb m (by omega)).mpr ⟨by show 32 * 0 + m < 16; omega, fun p hp hg => by rw [show 32 * 0 + m = m by omega]; exact h p hp hg⟩⟩
  simp only [nI_z hY]
  by_cases cY : Y = 0
  · rw [if_pos cY]
    obtain ⟨r1, f1, f2, f3⟩ := fin 1 (by decide)
    refine ⟨a, r1, ha, f1, ⟨fun h => ⟨h, fun _ h' => absurd cY (hPl.mpr h')⟩, fun h => h.1⟩, f2, ?_⟩
    unfold f_X10_refutes_136
    rw [a1] at f3
    exact f3
  · rw [if_neg cY]
    obtain ⟨r1, f1, f2, f3⟩ := fin 0 (by decide)
    refine ⟨0, r1, by decide, f1, ⟨fun h => absurd h (by decide), fun h => absurd (hPl.mp cY) (h.2 c00)⟩, f2, ?_⟩
    rw [Nat.and_zero] at f3
    exact f3
end REFU
