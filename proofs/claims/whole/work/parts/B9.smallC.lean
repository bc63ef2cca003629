/-! THE CLASS'S ROWS OF SMALL MODELS, told by values at three stages -/
section ROWS
variable {b : Nat} {ia fi : Nat → Nat → Int32} {fl : Nat → Nat → Int64} {qa : Nat → Nat → Option Nat} {f : mmF} {S : Nat} {kd lf rt : Nat → Nat}
theorem fct_bit : ∀ k, k < 4 → ∀ u, u < 16 → (fct k).testBit u = u.testBit k := by decide
theorem fLv_bit {k u : Nat} (v w : Nat) (hu : u < 16) : (fLv k).testBit u = (b3Lf u v w k).1 := by
  unfold fLv b3Lf
  by_cases h : k < 4
  · simp only [if_pos h]; exact fct_bit k h u hu
  · by_cases h4 : k = 4
    · simp only [if_neg h, if_pos h4]
      rw [show (65535 : Nat) = 2 ^ 16 - 1 from rfl, Nat.testBit_two_pow_sub_one]
      exact decide_eq_true hu
    · simp only [if_neg h, if_neg h4]; exact Nat.zero_testBit _
theorem fOp_bit {Bh : Nat → Nat} {one oth p x y u : Nat} (hu : u < 16) : (fOp kd Bh one oth p x y).testBit u = if kd p = 7 then x.testBit u && y.testBit u else if kd p = 8 then x.testBit u || y.testBit u else ((!x.testBit u || y.testBit u) && ((Bh p).testBit one && (Bh p).testBit oth)) := by
  unfold fOp
  by_cases h7 : kd p = 7
  · rw [if_pos h7, if_pos h7]; exact Nat.testBit_and _ _ _
  · rw [if_neg h7, if_neg h7]
    by_cases h8 : kd p = 8
    · rw [if_pos h8, if_pos h8]; exact Nat.testBit_or _ _ _
    · rw [if_neg h8, if_neg h8]
      by_cases hb : (Bh p).testBit one = true ∧ (Bh p).testBit oth = true
      · rw [if_pos hb, hb.1, hb.2, Nat.testBit_or, Nat.testBit_xor, show (65535 : Nat) = 2 ^ 16 - 1 from rfl, Nat.testBit_two_pow_sub_one, decide_eq_true hu]
        cases x.testBit u <;> cases y.testBit u <;> rfl
      · rw [if_neg hb, Nat.zero_testBit]
        cases h1 : (Bh p).testBit one with
        | false => cases (!x.testBit u || y.testBit u) <;> rfl
        | true =>
          cases h2 : (Bh p).testBit oth with
          | false => cases (!x.testBit u || y.testBit u) <;> rfl
          | true => exact absurd ⟨h1, h2⟩ hb
theorem tP_op {c : Bool} {u v w p : Nat} (ho : PTo S kd lf rt) (h6 : 6 ≤ p) (hp : p < S) : tP c u v w kd lf rt p = if kd p = 7 then ((tP c u v w kd lf rt (lf p)).1 && (tP c u v w kd lf rt (rt p)).1, (tP c u v w kd lf rt (lf p)).2.1 && (tP c u v w kd lf rt (rt p)).2.1, (tP c u v w kd lf rt (lf p)).2.2 && (tP c u v w kd lf rt (rt p)).2.2) else if kd p = 8 then ((tP c u v w kd lf rt (lf p)).1 || (tP c u v w kd lf rt (rt p)).1, (tP c u v w kd lf rt (lf p)).2.1 || (tP c u v w kd lf rt (rt p)).2.1, (tP c u v w kd lf rt (lf p)).2.2 || (tP c u v w kd lf rt (rt p)).2.2) else b3If c (tP c u v w kd lf rt (lf p)) (tP c u v w kd lf rt (rt p)) := by
  obtain ⟨o1, o2, o3, o4, o5⟩ := ho.2.2.2.1 p h6 hp
  by_cases e6 : kd p = 6
  · have h5 : tP c u v w kd lf rt 5 = (false, false, false) := pv_lf (by decide)
    rw [if_neg (by omega), if_neg (by omega), o5 e6, h5]
    exact pv_un h6 e6 o3
  · exact pv_bn h6 e6 o3 o4
/-- a row's bits, where the bits of what comes behind are told -/
theorem fN_bit (ho : PTo S kd lf rt) {Bh : Nat → Nat} {one oth u v w : Nat} {c : Bool} (hu : u < 16) (hB : ∀ p, 6 ≤ p → p < S → ((Bh p).testBit one && (Bh p).testBit oth) = ((tP c u v w kd lf rt p).2.1 && (tP c u v w kd lf rt p).2.2)) : ∀ p, p < S → (fN kd lf rt Bh one oth p).testBit u = (tP c u v w kd lf rt p).1 := by
  intro p
  induction p using Nat.strongRecOn with
  | _ p ih =>
    intro hp
    by_cases h6 : p < 6
    · unfold fN tP
      rw [pw_lf h6, pv_lf h6]
      exact fLv_bit v w hu
    · obtain ⟨o1, o2, o3, o4, o5⟩ := ho.2.2.2.1 p (by omega) hp
      have e : fN kd lf rt Bh one oth p = fOp kd Bh one oth p (fN kd lf rt Bh one oth (lf p)) (fN kd lf rt Bh one oth (rt p)) := pw_op (by omega) o3 o4
      have hb := hB p (by omega) hp
      rw [e, fOp_bit hu, ih _ o3 (by omega), ih _ o4 (by omega), hb]
      rw [tP_op ho (by omega) hp]
      by_cases h7 : kd p = 7
      · simp only [if_pos h7]
      · by_cases h8 : kd p = 8
        · simp only [if_neg h7, if_pos h8]
        · simp only [if_neg h7, if_neg h8, b3If, Bool.and_assoc]
theorem fN_single (ho : PTo S kd lf rt) {u : Nat} (hu : u < 16) (c : Bool) : ∀ p, p < S → (fN kd lf rt (fun _ => 65535) 0 0 p).testBit u = (tP c u u u kd lf rt p).1 := by
  intro p
  induction p using Nat.strongRecOn with
  | _ p ih =>
    intro hp
    by_cases h6 : p < 6
    · unfold fN tP
      rw [pw_lf h6, pv_lf h6]
      exact fLv_bit u u hu
    · obtain ⟨o1, o2, o3, o4, o5⟩ := ho.2.2.2.1 p (by omega) hp
      have e : fN kd lf rt (fun _ => 65535) 0 0 p = fOp kd (fun _ => 65535) 0 0 p (fN kd lf rt (fun _ => 65535) 0 0 (lf p)) (fN kd lf rt (fun _ => 65535) 0 0 (rt p)) := pw_op (by omega) o3 o4
      have hl := tP_rel (c := c) (d := c) (u' := u) (v' := u) (w' := u) (k3E c c) (fun k _ => b3Lf_e u k) ho (lf p) (by omega)
      have hr := tP_rel (c := c) (d := c) (u' := u) (v' := u) (w' := u) (k3E c c) (fun k _ => b3Lf_e u k) ho (rt p) (by omega)
      rw [e, fOp_bit hu, ih _ o3 (by omega), ih _ o4 (by omega), tP_op ho (by omega) hp]
      by_cases h7 : kd p = 7
      · simp only [if_pos h7]
      · by_cases h8 : kd p = 8
        · simp only [if_neg h7, if_pos h8]
        · simp only [if_neg h7, if_neg h8, b3If, hl.1, hl.2, hr.1, hr.2]
          cases (tP c u u u kd lf rt (lf p)).1 <;> cases (tP c u u u kd lf rt (rt p)).1 <;> cases c <;> rfl
/-- a row of the class, told by its bits -/
def rowQ (b : Nat) (ia : Nat → Nat → Int32) (r S : Nat) (Q : Nat → Nat → Bool) : Prop := ∃ Rv : Nat → Nat, ∀ p, p < S → ia (b + r) p = nI (Rv p) ∧ Rv p < 65536 ∧ ∀ u, u < 16 → (Rv p).testBit u = Q u p
theorem and16 {a v : Nat} (ha : a < 65536) (hv : v < 65536) : nI a &&& (nI v ^^^ (-1 : Int32)) = nI (a &&& (65535 ^^^ v)) := by
  have e : nI a = nI a &&& (65535 : Int32) := by
    rw [show (65535 : Int32) = nI 65535 from rfl, fa_and, show (65535 : Nat) = 2 ^ 16 - 1 from rfl, Nat.and_two_pow_sub_one_of_lt_two_pow ha]
  rw [e, Int32.and_assoc, Int32.and_comm (65535 : Int32), not16 v hv, fa_and]
theorem x16_bit (v : Nat) {u : Nat} (hu : u < 16) : (65535 ^^^ v).testBit u = !v.testBit u := by
  rw [Nat.testBit_xor, show (65535 : Nat) = 2 ^ 16 - 1 from rfl, Nat.testBit_two_pow_sub_one, decide_eq_true hu]
  cases v.testBit u <;> rfl
theorem w16_0 {X : Nat} (hX : X < 65536) : X = 0 ↔ ∀ u, u < 16 → X.testBit u = false := by
  constructor
  · intro h u _; rw [h]; exact Nat.zero_testBit u
  · intro h
    apply Nat.eq_of_testBit_eq
    intro u
    rw [Nat.zero_testBit]
    by_cases hu : u < 16
    · exact h u hu
    · exact Nat.testBit_lt_two_pow (Nat.lt_of_lt_of_le hX (show 2 ^ 16 ≤ 2 ^ u from Nat.pow_le_pow_right (by decide) (by omega)))
variable {K : Nat → Nat} {G : Nat → Nat → Nat} {W V : Nat} {Pn : Nat → Nat → Nat}
theorem whole_t (ht : TK b ia fi K G V S kd lf rt Pn 5) {p : Nat} (hp : p < 5) (hs : selP K V p) : f_X4_whole (b + 22) (nI p) (wr (SK b) ia fi fl qa f) = some (nI (Pn p (K p - 1))) ∧ Pn p (K p - 1) < S := by
  rcases ht.2.2.2.2 p hp with ⟨_, hn, hw⟩ | ⟨hn, _⟩
  · refine ⟨?_, (hn (K p - 1) (by have := hs.1; omega)).1⟩
    unfold f_X4_whole
    simp only [R_22_4, Option.bind_some, at_row L_26 (An_26 hp) hp (by decide), hw]
  · exact absurd hs hn
theorem K_r (b : Nat) {r : Nat} (hr : r = 30 ∨ r = 31 ∨ r = 32) : SK b (b + r) = some (.inl (0, 151)) := by
  rcases hr with rfl | rfl | rfl
  · exact K_30 b
  · exact K_31 b
  · exact K_32 b
theorem row_at {r d : Nat} (hr : r = 30 ∨ r = 31 ∨ r = 32) (hd : d < 151) : f_X9_at (b + r) (nI d) (wr (SK b) ia fi fl qa f) = some (ia (b + r) d) := by
  have hA : ldA 0 (wr (SK b) ia fi fl qa f) (b + r) (nI d) = some (ia (b + r) d) := by rw [wr_A (K_r b hr) (by decide) (vp_in_nI hd (by decide)), nI_clamp (by omega)]
  exact at_row (wr_len (K_r b hr) (by decide)) hA hd (by decide)
/-- what some premises leave of the first stages of a row -/
theorem c_sup_6 (ht : TK b ia fi K G V S kd lf rt Pn 5) (ho : PTo S kd lf rt) {r : Nat} (hr : r = 30 ∨ r = 31 ∨ r = 32) {Q : Nat → Nat → Bool} (hq : rowQ b ia r S Q) (hW : W < 32) (hs : ∀ i, W.testBit i = true → selP K V i) : ∀ (m i q X : Nat), i + m = 5 → m < q → X < 65536 → (∀ u, u < 16 → (X.testBit u = true ↔ ∀ j, j < i → W.testBit j = true → Q u (Pn j (K j - 1)) = true)) → ∃ X1, X1 < 65536 ∧ f_X6_supporting_6 (wr (SK b) ia fi fl qa f) q (b + 21) (b + r) (nI W) (nI X) (nI i) = some (nI X1) ∧ ∀ u, u < 16 → (X1.testBit u = true ↔ ∀ j, j < 5 → W.testBit j = true → Q u (Pn j (K j - 1)) = true) := by
  obtain ⟨Rv, hR⟩ := hq
  have hS := ho.2.1
  intro m
  induction m with
  | zero =>
    intro i q X hi hm hX hb
    obtain ⟨q, rfl⟩ : ∃ k, q = k + 1 := ⟨q - 1, by omega⟩
    have h5 : i = 5 := by omega
    subst h5
    refine ⟨X, hX, ?_, hb⟩
    rw [f_X6_supporting_6, if_pos (show (5 : Int32) ≤ nI 5 by decide)]
  | succ m ih =>
    intro i q X hi hm hX hb
    obtain ⟨q, rfl⟩ : ∃ k, q = k + 1 := ⟨q - 1, by omega⟩
    have h5 : i < 5 := by omega
    have e5 : ¬ (5 : Int32) ≤ nI i := nI_ge (b := 5) h5 (by decide)
    rw [f_X6_supporting_6, if_neg e5]
    simp only [has_t (show W < 2 ^ 31 from Nat.lt_trans hW (by decide)) (show i < 32 by omega), Option.bind_some]
    cases hw : W.testBit i with
    | false =>
      simp only [if_neg (show ¬ (false = true) by decide), i00, if_true]
      unfold f_X6_supporting_40
      rw [show (65535 : Int32) = nI 65535 from rfl, fa_and, show (65535 : Nat) = 2 ^ 16 - 1 from rfl, Nat.and_two_pow_sub_one_of_lt_two_pow hX, nI_1]
      exact ih (i + 1) q X (by omega) (by omega) hX (fun u hu => by
        rw [hb u hu]
        constructor
        · intro h j hj hwj
          by_cases e : j = i
          · subst e; rw [hw] at hwj; cases hwj
          · exact h j (by omega) hwj
        · intro h j hj hwj; exact h j (by omega) hwj)
    | true =>
      obtain ⟨w1, w2⟩ := whole_t (fl := fl) (qa := qa) (f := f) ht h5 (hs i hw)
      simp only [if_true, i10, if_false, R_21_0, ck_22, w1, Option.bind_some, row_at hr (show Pn i (K i - 1) < 151 by omega), (hR _ w2).1]
      unfold f_X6_supporting_40
      rw [fa_and, nI_1]
      exact ih (i + 1) q (X &&& Rv (Pn i (K i - 1))) (by omega) (by omega) (Nat.lt_of_le_of_lt Nat.and_le_left hX) (fun u hu => by
        rw [Nat.testBit_and, Bool.and_eq_true, hb u hu, (hR _ w2).2.2 u hu]
        constructor
        · rintro ⟨h, h'⟩ j hj hwj
          by_cases e : j = i
          · subst e; exact h'
          · exact h j (by omega) hwj
        · intro h; exact ⟨fun j hj hwj => h j (by omega) hwj, h i (by omega) hw⟩)
theorem c_sup (ht : TK b ia fi K G V S kd lf rt Pn 5) (ho : PTo S kd lf rt) {r : Nat} (hr : r = 30 ∨ r = 31 ∨ r = 32) {Q : Nat → Nat → Bool} (hq : rowQ b ia r S Q) (hW : W < 32) (hs : ∀ i, W.testBit i = true → selP K V i) : ∃ X1, X1 < 65536 ∧ f_X6_supporting (b + 21) (b + r) (nI W) (wr (SK b) ia fi fl qa f) = some (nI X1) ∧ ∀ u, u < 16 → (X1.testBit u = true ↔ ∀ j, j < 5 → W.testBit j = true → Q u (Pn j (K j - 1)) = true) := by
  obtain ⟨q, hq'⟩ := FU_1000
  exact c_sup_6 ht ho hr hq hW hs 5 0 FU 65535 (by omega) (by omega) (by decide) (fun u hu => by
    rw [show (65535 : Nat) = 2 ^ 16 - 1 from rfl, Nat.testBit_two_pow_sub_one, decide_eq_true hu]
    exact ⟨fun _ j hj => absurd hj (Nat.not_lt_zero _), fun _ => rfl⟩)
theorem c_ref (ht : TK b ia fi K G V S kd lf rt Pn 5) (ho : PTo S kd lf rt) {r : Nat} (hr : r = 30 ∨ r = 31 ∨ r = 32) {Q : Nat → Nat → Bool} (hq : rowQ b ia r S Q) (hW : W < 32) (hs : ∀ i, W.testBit i = true → selP K V i) {p : Nat} (hp : p < 5) (hsp : selP K V p) : ∃ X1, X1 < 65536 ∧ f_X6_refuting (b + 21) (b + r) (nI W) (nI p) (wr (SK b) ia fi fl qa f) = some (nI X1) ∧ ∀ u, u < 16 → (X1.testBit u = true ↔ (∀ j, j < 5 → W.testBit j = true → Q u (Pn j (K j - 1)) = true) ∧ Q u (Pn p (K p - 1)) = false) := by
  have hS := ho.2.1
  obtain ⟨X, x1, x2, x3⟩ := c_sup (fl := fl) (qa := qa) (f := f) ht ho hr hq hW hs
  obtain ⟨w1, w2⟩ := whole_t (fl := fl) (qa := qa) (f := f) ht hp hsp
  obtain ⟨Rv, hR⟩ := id hq
  refine ⟨X &&& (65535 ^^^ Rv (Pn p (K p - 1))), Nat.lt_of_le_of_lt Nat.and_le_left x1, ?_, fun u hu => ?_⟩
  · unfold f_X6_refuting
    simp only [ck_21, x2, R_21_0, ck_22, w1, Option.bind_some, row_at hr (show Pn p (K p - 1) < 151 by omega), (hR _ w2).1, and16 x1 (hR _ w2).2.1]
  · rw [Nat.testBit_and, Bool.and_eq_true, x3 u hu, x16_bit _ hu, (hR _ w2).2.2 u hu]
    cases Q u (Pn p (K p - 1)) <;> simp
end ROWS
