section LOOKS
variable {b : Nat} {ia fi : Nat → Nat → Int32} {fl : Nat → Nat → Int64} {qa : Nat → Nat → Option Nat} {f : mmF} {op lf rt : Nat → Nat}
theorem at_lt {k s w : Nat} (hk : k < 4) (hs : s < kS k) (hw : w < kW k) : kB k + kW k * s + w < 91 := by
  rcases k4 hk with rfl | rfl | rfl | rfl
  · rw [show kS 0 = 1 from rfl] at hs; rw [show kW 0 = 1 from rfl] at *; rw [show kB 0 = 0 from rfl]; omega
  · rw [show kS 1 = 2 from rfl] at hs; rw [show kW 1 = 3 from rfl] at *; rw [show kB 1 = 1 from rfl]; omega
  · rw [show kS 2 = 3 from rfl] at hs; rw [show kW 2 = 8 from rfl] at *; rw [show kB 2 = 7 from rfl]; omega
  · rw [show kS 3 = 3 from rfl] at hs; rw [show kW 3 = 20 from rfl] at *; rw [show kB 3 = 31 from rfl]; omega
theorem at_inj {k s w k' s' w' : Nat} (hk : k < 4) (hs : s < kS k) (hw : w < kW k) (hk' : k' < 4) (hs' : s' < kS k') (hw' : w' < kW k') (e : kB k + kW k * s + w = kB k' + kW k' * s' + w') : k = k' ∧ s = s' ∧ w = w' := by
  have a0 : kS 0 = 1 ∧ kW 0 = 1 ∧ kB 0 = 0 := ⟨rfl, rfl, rfl⟩
  have a1 : kS 1 = 2 ∧ kW 1 = 3 ∧ kB 1 = 1 := ⟨rfl, rfl, rfl⟩
  have a2 : kS 2 = 3 ∧ kW 2 = 8 ∧ kB 2 = 7 := ⟨rfl, rfl, rfl⟩
  have a3 : kS 3 = 3 ∧ kW 3 = 20 ∧ kB 3 = 31 := ⟨rfl, rfl, rfl⟩
  rcases k4 hk with rfl | rfl | rfl | rfl <;> rcases k4 hk' with rfl | rfl | rfl | rfl <;> simp only [a0.1, a0.2.1, a0.2.2, a1.1, a1.2.1, a1.2.2, a2.1, a2.2.1, a2.2.2, a3.1, a3.2.1, a3.2.2] at hs hw hs' hw' e <;> refine ⟨?_, ?_, ?_⟩ <;> omega
theorem kW_lt {k : Nat} (hk : k < 4) : 1 ≤ kW k ∧ kW k ≤ 20 ∧ 1 ≤ kS k ∧ kS k ≤ 3 ∧ kB k ≤ 31 ∧ kM k ≤ 625 := by
  rcases k4 hk with rfl | rfl | rfl | rfl <;> decide
/-- the word of a made part at one stage -/
theorem made_t {d k s w : Nat} (hd : d < 1000) (hk : k < 4) (hs : s < kS k) (hw : w < kW k) (ho : RPo (d + 1) op lf rt) (hop : ia (b + 93) d = nI (op d)) (hlf : ia (b + 94) d = nI (lf d)) (hrt : ia (b + 95) d = nI (rt d)) (h4 : 4 ≤ op d) (hx : 6 ≤ op d → cellOk (ia (b + 96)) (lf d) k s w (fun m => tQ op lf rt k m (lf d))) (hy : 6 ≤ op d → cellOk (ia (b + 96)) (rt d) k s w (fun m => tQ op lf rt k m (rt d))) (hl : op d = 9 → ∀ s', s < s' → s' < kS k → cellOk (ia (b + 96)) d k s' w (fun m => tQ op lf rt k m d)) : ∃ X, X < 2 ^ 32 ∧ f_X10_madeWord (b + 83) (nI d) (nI k) (nI s) (nI (kB k + kW k * s + w)) (wr (SK b) ia fi fl qa f) = some (nI X) ∧ ∀ j, j < 32 → 32 * w + j < kM k → X.testBit j = cmp s (tQ op lf rt k (32 * w + j) d) := by
  have ha := at_lt hk hs hw
  obtain ⟨w1, w2, w3, w4, w5, w6⟩ := kW_lt hk
  have hlfd : lf d < 1000 ∧ rt d < 1000 ∧ op d < 10 := by
    rcases ho.1 d (by omega) with h | h | h <;> omega
  have e91 : ∀ x : Nat, (91 : Int32) * nI x + nI (kB k + kW k * s + w) = nI (91 * x + (kB k + kW k * s + w)) := fun x => by rw [show (91 : Int32) = nI 91 from rfl, pk_mul, nI_add]
  have q : ∀ c : Nat, c < 10 → (nI (op d) = nI c) = (op d = c) := fun c hc => propext (nI_eq (by omega) (by omega))
  have l1 : ldA 0 (wr (SK b) ia fi fl qa f) (b + 96) (nI (91 * lf d + (kB k + kW k * s + w))) = some (ia (b + 96) (91 * lf d + (kB k + kW k * s + w))) := An_96 (by omega)
  have l2 : ldA 0 (wr (SK b) ia fi fl qa f) (b + 96) (nI (91 * rt d + (kB k + kW k * s + w))) = some (ia (b + 96) (91 * rt d + (kB k + kW k * s + w))) := An_96 (by omega)
  unfold f_X10_madeWord
  simp only [R_83_15, R_83_16, R_83_17, R_83_18, An_93 hd, An_94 hd, An_95 hd, hop, hlf, hrt, Option.bind_some, e91, l1, l2, show (9 : Int32) = nI 9 from rfl, show (4 : Int32) = nI 4 from rfl, show (5 : Int32) = nI 5 from rfl, show (7 : Int32) = nI 7 from rfl, q 9 (by decide), q 4 (by decide), q 5 (by decide), q 7 (by decide)]
  by_cases h9 : op d = 9
  · obtain ⟨o1, o2, o3, o4, o5, o6, o7, o8, o9⟩ := ho.two (Nat.lt_succ_self d) (by omega)
    obtain ⟨X, x1, x2, x3⟩ := hx (by omega)
    obtain ⟨Y, y1, y2, y3⟩ := hy (by omega)
    have hval : ∀ m, tQ op lf rt k m d = b3If (kC k) (tQ op lf rt k m (lf d)) (tQ op lf rt k m (rt d)) := fun m => by
      have e : tQ op lf rt k m d = b3Bn (kC k) (op d) (tQ op lf rt k m (lf d)) (tQ op lf rt k m (rt d)) := qv_op (by omega) o5 o7
      rw [e, h9]
      rfl
    have hif := fun m => if_cmp (s := s) hk hs (x := tQ op lf rt k m (lf d)) (y := tQ op lf rt k m (rt d)) (fun e => ⟨(tQ_01 ho k m (show lf d < d + 1 by omega)).1 e, (tQ_01 ho k m (show rt d < d + 1 by omega)).1 e⟩) (fun e => ⟨(tQ_01 ho k m (show lf d < d + 1 by omega)).2 e, (tQ_01 ho k m (show rt d < d + 1 by omega)).2 e⟩)
    have base : ∀ j, j < 32 → 32 * w + j < kM k → ((4294967295 ^^^ X) ||| Y).testBit j = (!cmp s (tQ op lf rt k (32 * w + j) (lf d)) || cmp s (tQ op lf rt k (32 * w + j) (rt d))) := fun j hj hm => by
      rw [Nat.testBit_or, x32_bit _ hj, x3 j hj hm, y3 j hj hm]
    have hXY : (4294967295 ^^^ X) ||| Y < 2 ^ 32 := or_lt (x32_lt x1) y1
    have later : ∀ s', s < s' → s' < kS k → ∃ Z, Z < 2 ^ 32 ∧ ia (b + 96) (91 * d + (kB k + kW k * s' + w)) = nI Z ∧ ∀ j, j < 32 → 32 * w + j < kM k → Z.testBit j = cmp s' (tQ op lf rt k (32 * w + j) d) := hl h9
    have en : ∀ t : Nat, (91 : Int32) * nI d + nI (kB k + kW k * s + w) + nI (t * kW k) = nI (91 * d + (kB k + kW k * (s + t) + w)) := fun t => by
      rw [e91, nI_add, Nat.mul_add, Nat.mul_comm t (kW k)]
      congr 1
      omega
    have en1 := en 1
    have en2 := en 2
    rw [Nat.one_mul] at en1
    have e2n : (2 : Int32) * nI (kW k) = nI (2 * kW k) := by rw [show (2 : Int32) = nI 2 from rfl, pk_mul]
    rw [e91] at en1 en2
    simp only [if_pos h9, wordsOf_t hk, Option.bind_some, x2, y2, not32, fa_or]
    have q3 : (nI k = (3 : Int32)) = (k = 3) := propext (nI_eq (b := 3) (by omega) (by decide))
    have q0 : (nI s = (0 : Int32)) = (s = 0) := propext (nI_eq (b := 0) (by omega) (by decide))
    simp only [q3, q0]
    have rest : ¬ (k = 3 ∧ s = 0) → ∃ X1, X1 < 2 ^ 32 ∧ f_X10_madeWord_167 (wr (SK b) ia fi fl qa f) (b + 83) (nI d) (nI k) (nI s) (nI (kB k + kW k * s + w)) (nI (4294967295 ^^^ X ||| Y)) (nI (kW k)) = some (nI X1) ∧ ∀ j, j < 32 → 32 * w + j < kM k → X1.testBit j = cmp s (tQ op lf rt k (32 * w + j) d) := by
      intro hn
      unfold f_X10_madeWord_167
      by_cases c3 : k < 3
      · rw [if_neg (show ¬ (3 : Int32) ≤ nI k from nI_ge (b := 3) c3 (by decide))]
        by_cases cs : s < k
        · have hs1 : s + 1 < kS k := by
            rcases k4 hk with rfl | rfl | rfl | rfl
            · omega
            · rw [show kS 1 = 2 from rfl]; omega
            · rw [show kS 2 = 3 from rfl]; omega
            · omega
          obtain ⟨Z, z1, z2, z3⟩ := later (s + 1) (by omega) hs1
          have := at_lt hk hs1 hw
          rw [if_neg (nI_ge cs (by omega))]
          simp only [R_83_18, Option.bind_some, e91, en1, An_96 (show 91 * d + (kB k + kW k * (s + 1) + w) < 91000 by omega), z2, fa_and]
          refine ⟨_, Nat.lt_of_le_of_lt Nat.and_le_left hXY, rfl, fun j hj hm => ?_⟩
          rw [Nat.testBit_and, base j hj hm, z3 j hj hm, hval, hif, if_neg hn, if_pos ⟨c3, cs⟩]
        · rw [if_pos (nI_le (by omega) (by omega))]
          refine ⟨_, hXY, rfl, fun j hj hm => ?_⟩
          rw [base j hj hm, hval, hif, if_neg hn, if_neg (fun h => cs h.2)]
      · rw [if_pos (show (3 : Int32) ≤ nI k from nI_le (a := 3) (by omega) (by omega))]
        refine ⟨_, hXY, rfl, fun j hj hm => ?_⟩
        rw [base j hj hm, hval, hif, if_neg hn, if_neg (fun h => c3 h.1)]
    by_cases c3 : k = 3
    · rw [if_pos c3]
      by_cases c0 : s = 0
      · rw [if_pos c0]
        have k3 : kS k = 3 := by rw [c3]; rfl
        obtain ⟨Z, z1, z2, z3⟩ := later (s + 1) (by omega) (by omega)
        obtain ⟨V, v1, v2, v3⟩ := later (s + 2) (by omega) (by omega)
        have a1 := at_lt (s := s + 1) hk (by omega) hw
        have a2 := at_lt (s := s + 2) hk (by omega) hw
        simp only [e2n, en1, en2, An_96 (show 91 * d + (kB k + kW k * (s + 1) + w) < 91000 by omega), An_96 (show 91 * d + (kB k + kW k * (s + 2) + w) < 91000 by omega), z2, v2, Option.bind_some, fa_and]
        refine ⟨_, Nat.lt_of_le_of_lt Nat.and_le_left hXY, rfl, fun j hj hm => ?_⟩
        rw [Nat.testBit_and, Nat.testBit_and, base j hj hm, z3 j hj hm, v3 j hj hm, hval, hif, if_pos ⟨c3, c0⟩, c0]
      · rw [if_neg c0]
        exact rest (fun h => c0 h.2)
    · rw [if_neg c3]
      exact rest (fun h => c3 h.1)
  · rw [if_neg h9]
    by_cases e4 : op d = 4
    · rw [if_pos e4, m1_n]
      refine ⟨_, by decide, rfl, fun j hj hm => ?_⟩
      have e : tQ op lf rt k (32 * w + j) d = b3Lf _ _ _ (op d) := qv_lf (by omega)
      rw [f32_bit hj, e, e4]
      unfold cmp b3Lf
      by_cases c0 : s = 0
      · rw [if_pos c0]; rfl
      · rw [if_neg c0]
        by_cases c1 : s = 1
        · rw [if_pos c1]; rfl
        · rw [if_neg c1]; rfl
    · rw [if_neg e4]
      by_cases e5 : op d = 5
      · rw [if_pos e5, show (0 : Int32) = nI 0 from rfl]
        refine ⟨_, by decide, rfl, fun j hj hm => ?_⟩
        have e : tQ op lf rt k (32 * w + j) d = b3Lf _ _ _ (op d) := qv_lf (by omega)
        rw [Nat.zero_testBit, e, e5]
        unfold cmp b3Lf
        by_cases c0 : s = 0
        · rw [if_pos c0]; rfl
        · rw [if_neg c0]
          by_cases c1 : s = 1
          · rw [if_pos c1]; rfl
          · rw [if_neg c1]; rfl
      · rw [if_neg e5]
        obtain ⟨o1, o2, o3, o4, o5, o6, o7, o8, o9⟩ := ho.two (Nat.lt_succ_self d) (by omega)
        obtain ⟨X, x1, x2, x3⟩ := hx (by omega)
        obtain ⟨Y, y1, y2, y3⟩ := hy (by omega)
        have hval : ∀ m, tQ op lf rt k m d = b3Bn (kC k) (op d) (tQ op lf rt k m (lf d)) (tQ op lf rt k m (rt d)) := fun m => qv_op (by omega) o5 o7
        rw [x2, y2]
        by_cases e7 : op d = 7
        · rw [if_pos e7, fa_and]
          refine ⟨_, Nat.lt_of_le_of_lt Nat.and_le_left x1, rfl, fun j hj hm => ?_⟩
          rw [Nat.testBit_and, x3 j hj hm, y3 j hj hm, hval, e7]
          unfold cmp b3Bn
          by_cases c0 : s = 0
          · simp only [if_pos c0]; rfl
          · by_cases c1 : s = 1
            · simp only [if_neg c0, if_pos c1]; rfl
            · simp only [if_neg c0, if_neg c1]; rfl
        · have e8 : op d = 8 := by omega
          rw [if_neg e7, fa_or]
          refine ⟨_, or_lt x1 y1, rfl, fun j hj hm => ?_⟩
          rw [Nat.testBit_or, x3 j hj hm, y3 j hj hm, hval, e8]
          unfold cmp b3Bn
          by_cases c0 : s = 0
          · simp only [if_pos c0]; rfl
          · by_cases c1 : s = 1
            · simp only [if_neg c0, if_pos c1]; rfl
            · simp only [if_neg c0, if_neg c1]; rfl
end LOOKS
