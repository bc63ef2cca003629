/-! THE REFERENCE'S SEARCH: refutes, all cells -/
theorem kv0 : kB 0 = 0 ∧ kW 0 = 1 ∧ kS 0 = 1 ∧ kM 0 = 16 := by decide
theorem kv1 : kB 1 = 1 ∧ kW 1 = 3 ∧ kS 1 = 2 ∧ kM 1 = 81 := by decide
theorem kv2 : kB 2 = 7 ∧ kW 2 = 8 ∧ kS 2 = 3 ∧ kM 2 = 256 := by decide
theorem kv3 : kB 3 = 31 ∧ kW 3 = 20 ∧ kS 3 = 3 ∧ kM 3 = 625 := by decide
theorem cell_of {c : Nat} (hc : c < 91) : ∃ k s w, k < 4 ∧ s < kS k ∧ w < kW k ∧ c = kB k + kW k * s + w := by
  by_cases c1 : c < 1
  · exact ⟨0, 0, 0, by decide, by decide, by decide, by rw [kv0.1, kv0.2.1]; omega⟩
  by_cases c2 : c < 7
  · exact ⟨1, (c - 1) / 3, (c - 1) % 3, by decide, by rw [kv1.2.2.1]; omega, by rw [kv1.2.1]; omega, by rw [kv1.1, kv1.2.1]; omega⟩
  by_cases c3 : c < 31
  · exact ⟨2, (c - 7) / 8, (c - 7) % 8, by decide, by rw [kv2.2.2.1]; omega, by rw [kv2.2.1]; omega, by rw [kv2.1, kv2.2.1]; omega⟩
  · exact ⟨3, (c - 31) / 20, (c - 31) % 20, by decide, by rw [kv3.2.2.1]; omega, by rw [kv3.2.1]; omega, by rw [kv3.1, kv3.2.1]; omega⟩
theorem cell_inj {k s w k' s' w' : Nat} (hk : k < 4) (hs : s < kS k) (hw : w < kW k) (hk' : k' < 4) (hs' : s' < kS k') (hw' : w' < kW k') (e : kB k + kW k * s + w = kB k' + kW k' * s' + w') : k = k' ∧ s = s' ∧ w = w' := by
  obtain ⟨a1, a2, a3, _⟩ := kv0
  obtain ⟨b1, b2, b3, _⟩ := kv1
  obtain ⟨c1, c2, c3, _⟩ := kv2
  obtain ⟨d1, d2, d3, _⟩ := kv3
  rcases k4 hk with rfl | rfl | rfl | rfl <;> rcases k4 hk' with rfl | rfl | rfl | rfl <;> simp only [a1, a2, a3, b1, b2, b3, c1, c2, c3, d1, d2, d3] at hs hw hs' hw' e <;> omega
theorem kM_le {k : Nat} (hk : k < 4) : kM k ≤ 32 * kW k := by rcases k4 hk with rfl | rfl | rfl | rfl <;> decide
section REFU2
variable {b : Nat} {ia fi : Nat → Nat → Int32} {fl : Nat → Nat → Int64} {qa : Nat → Nat → Option Nat} {f : mmF} {op lf rt : Nat → Nat} {P : Nat} {Γ : Nat → Bool}
/-- some cell before c refutes -/
def kpC (op lf rt : Nat → Nat) (P : Nat) (Γ : Nat → Bool) (pg c : Nat) : Prop := ∃ k s w, k < 4 ∧ s < kS k ∧ w < kW k ∧ kB k + kW k * s + w < c ∧ kpS op lf rt P k s w Γ pg
theorem kpC_s {k s w pg : Nat} (hk : k < 4) (hs : s < kS k) (hw : w < kW k) : kpC op lf rt P Γ pg (kB k + kW k * s + w + 1) ↔ kpC op lf rt P Γ pg (kB k + kW k * s + w) ∨ kpS op lf rt P k s w Γ pg := by
  constructor
  · rintro ⟨k', s', w', h1, h2, h3, h4, h5⟩
    by_cases e : kB k' + kW k' * s' + w' = kB k + kW k * s + w
    · obtain ⟨rfl, rfl, rfl⟩ := cell_inj h1 h2 h3 hk hs hw e
      exact Or.inr h5
    · exact Or.inl ⟨k', s', w', h1, h2, h3, by omega, h5⟩
  · rintro (⟨k', s', w', h1, h2, h3, h4, h5⟩ | h)
    · exact ⟨k', s', w', h1, h2, h3, by omega, h5⟩
    · exact ⟨k, s, w, hk, hs, hw, by omega, h⟩
theorem kpC_all {pg : Nat} : kpC op lf rt P Γ pg 91 ↔ ∃ k, k < 4 ∧ kpF op lf rt P k Γ pg := by
  constructor
  · rintro ⟨k, s, w, h1, h2, h3, _, j, j1, j2, j3, j4⟩
    exact ⟨k, h1, s, 32 * w + j, h2, j2, j3, j4⟩
  · rintro ⟨k, h1, s, m, h2, h3, h4, h5⟩
    have := kM_le h1
    have e : 32 * (m / 32) + m % 32 = m := Nat.div_add_mod m 32
    refine ⟨k, s, m / 32, h1, h2, by omega, at_lt h1 h2 (by omega), m % 32, Nat.mod_lt _ (by decide), by omega, ?_, ?_⟩
    · rw [e]; exact h4
    · rw [e]; exact h5
theorem ref_7 {d pg : Nat} (hr : RP b ia fi P op lf rt) (hg : gv b ia d Γ) (hd : d < 600) (hpg : pg < P) (hgl : ia (b + 98) d = nI pg) : ∀ (m c q a r : Nat), c + m = 91 → m < q → a < 2 → r < 2 → (a = 1 ↔ (0 < c → ¬ plS op lf rt P Γ)) → (r = 1 ↔ kpC op lf rt P Γ pg c) → (f_X10_refutes_7 (wr (SK b) ia fi fl qa f) q (b + 83) (nI d) (nI a) (nI r) (nI c) = some 2 ∧ ¬ plS op lf rt P Γ) ∨ (f_X10_refutes_7 (wr (SK b) ia fi fl qa f) q (b + 83) (nI d) (nI a) (nI r) (nI c) = some 1 ∧ plS op lf rt P Γ ∧ kpC op lf rt P Γ pg 91) ∨ (f_X10_refutes_7 (wr (SK b) ia fi fl qa f) q (b + 83) (nI d) (nI a) (nI r) (nI c) = some 0 ∧ plS op lf rt P Γ ∧ ¬ kpC op lf rt P Γ pg 91) := by
  obtain ⟨qf, hqf⟩ := FU_2000
  intro m
  induction m with
  | zero =>
    intro c q a r hc hq ha hr2 h1 h2
    obtain ⟨q, rfl⟩ : ∃ k, q = k + 1 := ⟨q - 1, by omega⟩
    have hc : c = 91 := by omega
    subst hc
    rw [f_X10_refutes_7, if_pos (show (91 : Int32) ≤ nI 91 by decide)]
    obtain rfl | rfl : a = 0 ∨ a = 1 := by omega
    · rw [if_pos (show (nI 0 : Int32) = 0 from rfl)]
      have hp : plS op lf rt P Γ := Classical.byContradiction fun h => absurd (h1.mpr fun _ => h) (by decide)
      obtain rfl | rfl : r = 0 ∨ r = 1 := by omega
      · rw [if_pos (show (nI 0 : Int32) = 0 from rfl)]
        exact Or.inr (Or.inr ⟨rfl, hp, fun h => absurd (h2.mpr h) (by decide)⟩)
      · rw [if_neg (show ¬ (nI 1 : Int32) = 0 by decide)]
        exact Or.inr (Or.inl ⟨rfl, hp, h2.mp rfl⟩)
    · rw [if_neg (show ¬ (nI 1 : Int32) = 0 by decide)]
      exact Or.inl ⟨rfl, h1.mp rfl (by decide)⟩
  | succ m ih =>
    intro c q a r hc hq ha hr2 h1 h2
    obtain ⟨q, rfl⟩ : ∃ k, q = k + 1 := ⟨q - 1, by omega⟩
    obtain ⟨k, s, w, hk, hs, hw, rfl⟩ := cell_of (show c < 91 by omega)
    have hP := hr.1
    -- the cell
    have cell : ∀ X : Nat, X < 2 ^ 32 → (∀ j, j < 32 → X.testBit j = decide (32 * w + j < kM k)) → (f_X10_refutes_68 (fun a0 a1 a2 a3 a4 => f_X10_refutes_7 (wr (SK b) ia fi fl qa f) q a0 a1 a2 a3 a4) (wr (SK b) ia fi fl qa f) (b + 83) (nI d) (nI a) (nI r) (nI (kB k + kW k * s + w)) (nI X) = some 2 ∧ ¬ plS op lf rt P Γ) ∨ (f_X10_refutes_68 (fun a0 a1 a2 a3 a4 => f_X10_refutes_7 (wr (SK b) ia fi fl qa f) q a0 a1 a2 a3 a4) (wr (SK b) ia fi fl qa f) (b + 83) (nI d) (nI a) (nI r) (nI (kB k + kW k * s + w)) (nI X) = some 1 ∧ plS op lf rt P Γ ∧ kpC op lf rt P Γ pg 91) ∨ (f_X10_refutes_68 (fun a0 a1 a2 a3 a4 => f_X10_refutes_7 (wr (SK b) ia fi fl qa f) q a0 a1 a2 a3 a4) (wr (SK b) ia fi fl qa f) (b + 83) (nI d) (nI a) (nI r) (nI (kB k + kW k * s + w)) (nI X) = some 0 ∧ plS op lf rt P Γ ∧ ¬ kpC op lf rt P Γ pg 91) := by
      intro X hX hb
      unfold f_X10_refutes_68
      obtain ⟨Y, y1, y2, y3⟩ := ref_73 (fl := fl) (qa := qa) (f := f) hr hg hd hk hs hw (fun a0 a1 a2 a3 a4 => f_X10_refutes_7 (wr (SK b) ia fi fl qa f) q a0 a1 a2 a3 a4) (y := nI a) (z := nI r) P 0 FU X (by omega) (by omega) hX (fun j hj => by
        rw [hb j hj, decide_eq_true_iff]
        exact ⟨fun h => ⟨h, fun p hp => absurd hp (Nat.not_lt_zero _)⟩, fun h => h.1⟩)
      obtain ⟨a1, r1, e1, e2, e3, e4, e5⟩ := ref_125 (fl := fl) (qa := qa) (f := f) hr hd hk hs hw hpg hgl (fun a0 a1 a2 a3 a4 => f_X10_refutes_7 (wr (SK b) ia fi fl qa f) q a0 a1 a2 a3 a4) y1 y2 ha hr2
      rw [show (0 : Int32) = nI 0 from rfl, y3, e5]
      refine ih (kB k + kW k * s + w + 1) q a1 r1 (by omega) (by omega) e1 e2 ?_ ?_
      · rw [e3, h1]
        refine ⟨fun h _ => ?_, fun h => ⟨fun _ => h (Nat.succ_pos _), fun _ => h (Nat.succ_pos _)⟩⟩
        by_cases c0 : kB k + kW k * s + w = 0
        · exact h.2 c0
        · exact h.1 (by omega)
      · rw [e4, h2]
        exact (kpC_s hk hs hw).symm
    have hat := at_lt hk hs hw
    rw [f_X10_refutes_7, if_neg (show ¬ (91 : Int32) ≤ nI (kB k + kW k * s + w) from nI_ge (a := kB k + kW k * s + w) (b := 91) hat (by decide))]
    have q0 : ∀ n : Nat, n < 91 → ((nI n : Int32) = 0) = (n = 0) := fun n hn => propext (nI_eq (b := 0) (by omega) (by decide))
    simp only [q0 _ hat]
    rcases k4 hk with rfl | rfl | rfl | rfl
    · have hc0 : kB 0 + kW 0 * s + w = 0 := by rw [kv0.2.2.1] at hs; rw [kv0.2.1] at hw; rw [kv0.1, kv0.2.1]; omega
      have hw0 : w = 0 := by omega
      rw [if_pos hc0, show (65535 : Int32) = nI 65535 from rfl]
      refine cell 65535 (by decide) (fun j hj => ?_)
      rw [show (65535 : Nat) = 2 ^ 16 - 1 from rfl, tp_bit, hw0, kv0.2.2.2]
      congr 1
      exact propext ⟨fun h => by omega, fun h => by omega⟩
    · have hr1 : 1 ≤ kB 1 + kW 1 * s + w ∧ kB 1 + kW 1 * s + w < 7 := by rw [kv1.2.2.1] at hs; rw [kv1.2.1] at hw; rw [kv1.1, kv1.2.1]; omega
      rw [if_neg (by omega), if_neg (show ¬ (7 : Int32) ≤ nI (kB 1 + kW 1 * s + w) from nI_ge (a := kB 1 + kW 1 * s + w) (b := 7) hr1.2 (by decide))]
      obtain ⟨X, x1, x2, x3⟩ := wordEnd_t (f := wr (SK b) ia fi fl qa f) (show 1 < 4 by decide) hw hs
      have es : nI (kB 1 + kW 1 * s + w) - (1 : Int32) = nI (kW 1 * s + w) := by
        rw [show (1 : Int32) = nI 1 from rfl, pk_sub (by omega), show kB 1 = 1 from rfl]
        exact congrArg nI (by omega)
      rw [es, show (3 : Int32) = nI (kW 1) from rfl, show (81 : Int32) = nI (kM 1) from rfl, x2]
      exact cell X x1 x3
    · have hr1 : 7 ≤ kB 2 + kW 2 * s + w ∧ kB 2 + kW 2 * s + w < 31 := by rw [kv2.2.2.1] at hs; rw [kv2.2.1] at hw; rw [kv2.1, kv2.2.1]; omega
      rw [if_neg (by omega), if_pos (show (7 : Int32) ≤ nI (kB 2 + kW 2 * s + w) from nI_le (a := 7) hr1.1 (by omega)), if_neg (show ¬ (31 : Int32) ≤ nI (kB 2 + kW 2 * s + w) from nI_ge (a := kB 2 + kW 2 * s + w) (b := 31) hr1.2 (by decide)), m1_n]
      refine cell 4294967295 (by decide) (fun j hj => ?_)
      rw [f32_bit hj]
      rw [kv2.2.1] at hw
      exact (decide_eq_true (by rw [kv2.2.2.2]; omega)).symm
    · have hr1 : 31 ≤ kB 3 + kW 3 * s + w := by rw [kv3.1]; omega
      rw [if_neg (by omega), if_pos (show (7 : Int32) ≤ nI (kB 3 + kW 3 * s + w) from nI_le (a := 7) (by omega) (by omega)), if_pos (show (31 : Int32) ≤ nI (kB 3 + kW 3 * s + w) from nI_le (a := 31) hr1 (by omega))]
      obtain ⟨X, x1, x2, x3⟩ := wordEnd_t (f := wr (SK b) ia fi fl qa f) (show 3 < 4 by decide) hw hs
      have es : nI (kB 3 + kW 3 * s + w) - (31 : Int32) = nI (kW 3 * s + w) := by
        rw [show (31 : Int32) = nI 31 from rfl, pk_sub (by omega), show kB 3 = 31 from rfl]
        exact congrArg nI (by omega)
      rw [es, show (20 : Int32) = nI (kW 3) from rfl, show (625 : Int32) = nI (kM 3) from rfl, x2]
      exact cell X x1 x3
/-- 2: nothing single-staged makes all that is given hold; 1: a small model refutes; 0: neither -/
theorem refutes_t {d pg : Nat} (hr : RP b ia fi P op lf rt) (hg : gv b ia d Γ) (hd : d < 600) (hpg : pg < P) (hgl : ia (b + 98) d = nI pg) : (f_X10_refutes (b + 83) (nI d) (wr (SK b) ia fi fl qa f) = some 2 ∧ ¬ plS op lf rt P Γ) ∨ (f_X10_refutes (b + 83) (nI d) (wr (SK b) ia fi fl qa f) = some 1 ∧ plS op lf rt P Γ ∧ ∃ k, k < 4 ∧ kpF op lf rt P k Γ pg) ∨ (f_X10_refutes (b + 83) (nI d) (wr (SK b) ia fi fl qa f) = some 0 ∧ plS op lf rt P Γ ∧ ¬ ∃ k, k < 4 ∧ kpF op lf rt P k Γ pg) := by
  obtain ⟨qf, hqf⟩ := FU_1000
  have h := ref_7 (fl := fl) (qa := qa) (f := f) hr hg hd hpg hgl 91 0 FU 1 0 (by omega) (by omega) (by decide) (by decide) ⟨fun _ h => absurd h (Nat.lt_irrefl _), fun _ => rfl⟩ ⟨fun h => absurd h (by decide), fun ⟨k, s, w, _, _, _, h, _⟩ => absurd h (Nat.not_lt_zero _)⟩
  rw [kpC_all] at h
  exact h
end REFU2
