/-! THE CLASS'S ROWS OF SMALL MODELS -/
def pwT {α : Type} (lv : Nat → α) (op : Nat → α → α → α) (lf rt : Nat → Nat) (d0 : α) : Nat → Nat → α
  | 0 => fun _ => d0
  | i + 1 => fun j => if j = i then (if i < 6 then lv i else op i (pwT lv op lf rt d0 i (lf i)) (pwT lv op lf rt d0 i (rt i))) else pwT lv op lf rt d0 i j
def pw {α : Type} (lv : Nat → α) (op : Nat → α → α → α) (lf rt : Nat → Nat) (d0 : α) (i : Nat) : α := pwT lv op lf rt d0 (i + 1) i
section PW
variable {α : Type} {lv : Nat → α} {op : Nat → α → α → α} {lf rt : Nat → Nat} {d0 : α}
theorem pwT_lt : ∀ (i j : Nat), j < i → pwT lv op lf rt d0 i j = pw lv op lf rt d0 j
  | 0, j, h => absurd h (Nat.not_lt_zero _)
  | i + 1, j, h => by
    by_cases e : j = i
    · subst e; rfl
    · show (if j = i then _ else pwT lv op lf rt d0 i j) = _
      rw [if_neg e]
      exact pwT_lt i j (by omega)
theorem pw_eq (i : Nat) : pw lv op lf rt d0 i = if i < 6 then lv i else op i (pwT lv op lf rt d0 i (lf i)) (pwT lv op lf rt d0 i (rt i)) := if_pos rfl
theorem pw_lf {i : Nat} (h : i < 6) : pw lv op lf rt d0 i = lv i := by rw [pw_eq, if_pos h]
theorem pw_op {i : Nat} (h : 6 ≤ i) (hl : lf i < i) (hr : rt i < i) : pw lv op lf rt d0 i = op i (pw lv op lf rt d0 (lf i)) (pw lv op lf rt d0 (rt i)) := by rw [pw_eq, if_neg (by omega), pwT_lt i _ hl, pwT_lt i _ hr]
end PW
/-- a fact as a row of 16 bits; the rows of the other leaves -/
def fct (k : Nat) : Nat := if k = 0 then 43690 else if k = 1 then 52428 else if k = 2 then 61680 else 65280
def fLv (k : Nat) : Nat := if k < 4 then fct k else if k = 4 then 65535 else 0
/-- what an 'if' tells where what comes behind allows it -/
def fOp (kd Bh : Nat → Nat) (one oth : Nat) (p x y : Nat) : Nat := if kd p = 7 then x &&& y else if kd p = 8 then x ||| y else if (Bh p).testBit one = true ∧ (Bh p).testBit oth = true then (65535 ^^^ x) ||| y else 0
def fN (kd lf rt Bh : Nat → Nat) (one oth : Nat) : Nat → Nat := pw fLv (fOp kd Bh one oth) lf rt 0
theorem fLv_lt (k : Nat) : fLv k < 65536 := by
  unfold fLv fct
  by_cases h4 : k < 4
  · obtain rfl | rfl | rfl | rfl : k = 0 ∨ k = 1 ∨ k = 2 ∨ k = 3 := by omega
    all_goals decide
  · rw [if_neg h4]
    by_cases e : k = 4
    · rw [if_pos e]; decide
    · rw [if_neg e]; decide
theorem fOp_lt {kd Bh : Nat → Nat} {one oth p x y : Nat} (hx : x < 65536) (hy : y < 65536) : fOp kd Bh one oth p x y < 65536 := by
  unfold fOp
  by_cases h7 : kd p = 7
  · rw [if_pos h7]; exact Nat.lt_of_le_of_lt Nat.and_le_left hx
  · rw [if_neg h7]
    by_cases h8 : kd p = 8
    · rw [if_pos h8]; exact or_lt (n := 16) hx hy
    · rw [if_neg h8]
      by_cases hb : (Bh p).testBit one = true ∧ (Bh p).testBit oth = true
      · rw [if_pos hb]; exact or_lt (n := 16) (Nat.xor_lt_two_pow (n := 16) (by decide) hx) hy
      · rw [if_neg hb]; decide
theorem fN_lt {S : Nat} {kd lf rt : Nat → Nat} (Bh : Nat → Nat) (one oth : Nat) (ho : PTo S kd lf rt) : ∀ p, p < S → fN kd lf rt Bh one oth p < 65536 := by
  intro p
  induction p using Nat.strongRecOn with
  | _ p ih =>
    intro hp
    unfold fN
    by_cases h6 : p < 6
    · rw [pw_lf h6]; exact fLv_lt _
    · obtain ⟨o1, o2, o3, o4, o5⟩ := ho.2.2.2.1 p (by omega) hp
      rw [pw_op (by omega) o3 o4]
      exact fOp_lt (ih _ o3 (by omega)) (ih _ o4 (by omega))
theorem not16h : ∀ h, h < 256 → ∀ l, l < 256 → (nI (256 * h + l) ^^^ (-1 : Int32)) &&& (65535 : Int32) = nI (65535 ^^^ (256 * h + l)) := by decide +kernel
theorem not16 (x : Nat) (hx : x < 65536) : (nI x ^^^ (-1 : Int32)) &&& (65535 : Int32) = nI (65535 ^^^ x) := by
  have h := not16h (x / 256) (by omega) (x % 256) (by omega)
  rw [Nat.div_add_mod] at h
  exact h
section FILL
variable {b : Nat} {ia fi : Nat → Nat → Int32} {fl : Nat → Nat → Int64} {qa : Nat → Nat → Option Nat} {f : mmF} {S : Nat} {kd lf rt : Nat → Nat}
/-- the facts' rows lie below both objects -/
def KNf (b : Nat) (f : mmF) (kn : Nat) : Prop := kn < b ∧ f kn = some (.inl (9, 4, .inl knw))
theorem kn_at {kn k : Nat} (h : KNf b f kn) (hk : k < 4) : f_X9_at kn (nI k) (wr (SK b) ia fi fl qa f) = some (nI (fct k)) := by
  have hs := SK_low h.1
  have hL : lenA (wr (SK b) ia fi fl qa f) kn = some (nI 4) := by
    simp only [lenA, wr_o hs, h.2]
    rfl
  have hn := nI_clamp (n := k) (by omega)
  have h0 : ¬ (nI k < 0 ∨ 4 ≤ (nI k).toNatClampNeg) := by
    rw [hn]
    intro hx
    rcases hx with hx | hx
    · exact nI_pos (by omega) hx
    · omega
  have hA : ldA 0 (wr (SK b) ia fi fl qa f) kn (nI k) = some (nI (fct k)) := by
    simp only [ldA, wr_o hs, h.2, or_true, and_self, true_and, if_pos h0]
    rw [hn]
    obtain rfl | rfl | rfl | rfl : k = 0 ∨ k = 1 ∨ k = 2 ∨ k = 3 := by omega
    all_goals rfl
  exact at_row hL hA hk (by decide)
theorem has_t {W i : Nat} (hW : W < 2 ^ 31) (hi : i < 32) (f : mmF) : f_X9_has (nI W) (nI i) f = some (if W.testBit i = true then 1 else 0) := by
  rw [has_eq]
  cases hb : W.testBit i with
  | false => rw [if_pos ((bt_0 hW hi).mpr hb), if_neg (by decide)]
  | true =>
    have hne : ¬ ((nI W >>> (nI i &&& 31)) &&& 1) = (0 : Int32) := fun e => by
      rw [bt_0 hW hi, hb] at e
      cases e
    rw [if_neg hne, if_pos rfl]
theorem bit_q {B one oth : Nat} (hB : B < 65536) (h1 : one < 32) (h2 : oth < 32) : (((nI B >>> (nI one &&& 31)) &&& (nI B >>> (nI oth &&& 31))) &&& (1 : Int32) = 0) ↔ ¬ (B.testBit one = true ∧ B.testBit oth = true) := by
  have hB31 : B < 2 ^ 31 := Nat.lt_trans hB (by decide)
  have hq1 : B / 2 ^ one < 2 ^ 31 := Nat.lt_of_le_of_lt (Nat.div_le_self _ _) hB31
  rw [bt_shr hB31 h1, bt_shr hB31 h2, fa_and, bt_one _ (Nat.lt_trans (Nat.lt_of_le_of_lt Nat.and_le_left hq1) (by decide))]
  have e : ((B / 2 ^ one) &&& (B / 2 ^ oth)).testBit 0 = (B.testBit one && B.testBit oth) := by
    rw [Nat.testBit_and, Nat.testBit_div_two_pow, Nat.testBit_div_two_pow, Nat.zero_add, Nat.zero_add]
  rw [Nat.testBit_zero] at e
  have hm : ((B / 2 ^ one) &&& (B / 2 ^ oth)) % 2 = 0 ∨ ((B / 2 ^ one) &&& (B / 2 ^ oth)) % 2 = 1 := by omega
  rw [← Bool.and_eq_true, ← e, decide_eq_true_eq]
  rcases hm with hm | hm
  · rw [hm]; decide
  · rw [hm]; decide
/-- a row is filled, out of what comes behind -/
theorem c_fill_3 {kn r h : Nat} (hkn : KNf b f kn) (hr : r = 30 ∨ r = 31 ∨ r = 32) (hh : h = 29 ∨ h = 30 ∨ h = 31) (hrh : r ≠ h) (hm : PTm b ia fi S kd lf rt) (ho : PTo S kd lf rt) {Bh : Nat → Nat} (hB : ∀ p, p < S → ia (b + h) p = nI (Bh p) ∧ Bh p < 65536) {one oth : Nat} (h1 : one < 16) (h2 : oth < 16) : ∀ (m p q : Nat) (R : Nat → Int32), p + m = S → m < q → (∀ d, d < p → R d = nI (fN kd lf rt Bh one oth d)) → ∃ R1 : Nat → Int32, f_X6_fill_3 kn q (b + 21) (b + r) (b + h) (nI one) (nI oth) (nI p) (wr (SK b) (rw2 ia (b + r) R) fi fl qa f) = some (wr (SK b) (rw2 ia (b + r) R1) fi fl qa f) ∧ ∀ d, d < S → R1 d = nI (fN kd lf rt Bh one oth d) := by
  obtain ⟨o1, o2, o3, o4, o5⟩ := id ho
  obtain ⟨m1, m2, m3⟩ := hm
  have hKr : SK b (b + r) = some (.inl (0, 151)) := by
    rcases hr with rfl | rfl | rfl
    · exact K_30 b
    · exact K_31 b
    · exact K_32 b
  have hKh : SK b (b + h) = some (.inl (0, 151)) := by
    rcases hh with rfl | rfl | rfl
    · exact K_29 b
    · exact K_30 b
    · exact K_31 b
  have e23 : b + 23 ≠ b + r := by omega
  have e24 : b + 24 ≠ b + r := by omega
  have e25 : b + 25 ≠ b + r := by omega
  have eh : b + h ≠ b + r := by omega
  have lL : ∀ {ia fi : Nat → Nat → Int32} {fl : Nat → Nat → Int64} {qa : Nat → Nat → Option Nat}, lenA (wr (SK b) ia fi fl qa f) (b + r) = some (nI 151) := wr_len hKr (by decide)
  have lH : ∀ {ia fi : Nat → Nat → Int32} {fl : Nat → Nat → Int64} {qa : Nat → Nat → Option Nat}, lenA (wr (SK b) ia fi fl qa f) (b + h) = some (nI 151) := wr_len hKh (by decide)
  have aR : ∀ {ia fi : Nat → Nat → Int32} {fl : Nat → Nat → Int64} {qa : Nat → Nat → Option Nat} (d : Nat), d < 151 → ldA 0 (wr (SK b) ia fi fl qa f) (b + r) (nI d) = some (ia (b + r) d) := fun d hd => by
    rw [wr_A hKr (by decide) (vp_in_nI hd (by decide)), nI_clamp (by omega)]
  have aH : ∀ {ia fi : Nat → Nat → Int32} {fl : Nat → Nat → Int64} {qa : Nat → Nat → Option Nat} (d : Nat), d < 151 → ldA 0 (wr (SK b) ia fi fl qa f) (b + h) (nI d) = some (ia (b + h) d) := fun d hd => by
    rw [wr_A hKh (by decide) (vp_in_nI hd (by decide)), nI_clamp (by omega)]
  have sR : ∀ {ia fi : Nat → Nat → Int32} {fl : Nat → Nat → Int64} {qa : Nat → Nat → Option Nat} (d : Nat) (x : Int32), d < 151 → stA 0 (wr (SK b) ia fi fl qa f) (b + r) (nI d) x = some (wr (SK b) (u2 ia (b + r) d x) fi fl qa f) := fun d x hd => by
    rw [wr_sA hKr (by decide) (vp_in_nI hd (by decide)), nI_clamp (by omega)]
  have hF := fN_lt Bh one oth ho
  intro m
  induction m with
  | zero =>
    intro p q R hp hq hR
    obtain ⟨q, rfl⟩ : ∃ k, q = k + 1 := ⟨q - 1, by omega⟩
    have hpS : p = S := by omega
    subst hpS
    refine ⟨R, ?_, hR⟩
    rw [f_X6_fill_3]
    simp only [R_21_0, I_22_0, Option.bind_some, m1]
    rw [if_pos (Int32.le_refl _)]
  | succ m ih =>
    intro p q R hp hq hR
    obtain ⟨q, rfl⟩ : ∃ k, q = k + 1 := ⟨q - 1, by omega⟩
    have hpS : p < S := by omega
    have hlt : ¬ nI S ≤ nI p := nI_ge (by omega) (by omega)
    have hlt2 : ¬ nI 151 ≤ nI p := nI_ge (by omega) (by decide)
    have next : ∀ x : Int32, x = nI (fN kd lf rt Bh one oth p) → ∃ R1 : Nat → Int32, f_X6_fill_178 kn (fun a0 a1 a2 a3 a4 a5 a6 => f_X6_fill_3 kn q a0 a1 a2 a3 a4 a5 a6) (b + 21) (b + r) (b + h) (nI one) (nI oth) (nI p) (b + r) (nI p) x (wr (SK b) (rw2 ia (b + r) R) fi fl qa f) = some (wr (SK b) (rw2 ia (b + r) R1) fi fl qa f) ∧ ∀ d, d < S → R1 d = nI (fN kd lf rt Bh one oth d) := by
      intro x hx
      obtain ⟨R1, hR1, hR2⟩ := ih (p + 1) q (fun j => if j = p then x else R j) (by omega) (by omega) (fun d hd => by
        by_cases hdp : d = p
        · subst hdp; exact (if_pos rfl).trans hx
        · exact (if_neg hdp).trans (hR d (by omega)))
      refine ⟨R1, ?_, hR2⟩
      unfold f_X6_fill_178
      simp only [sR p x (by omega), Option.bind_some, u2_rw2, nI_1]
      exact hR1
    rw [f_X6_fill_3]
    simp only [R_21_0, I_22_0, Option.bind_some, m1, if_neg hlt, lL, if_neg hlt2, R_22_1, R_22_2, R_22_3, An_23 (show p < 151 by omega), An_24 (show p < 151 by omega), An_25 (show p < 151 by omega), rw2_n _ _ e23, rw2_n _ _ e24, rw2_n _ _ e25, m2 p hpS, at_row lH (aH p (by omega)) (show p < 151 by omega) (by decide), rw2_n _ _ eh, (hB p hpS).1]
    by_cases c6 : p < 6
    · obtain ⟨v1, hv1⟩ := at_any (μ := wr (SK b) (rw2 ia (b + r) R) fi fl qa f) (x := ia (b + 24) p) lL (fun d hd => ⟨_, aR d hd⟩) (by decide)
      obtain ⟨v2, hv2⟩ := at_any (μ := wr (SK b) (rw2 ia (b + r) R) fi fl qa f) (x := ia (b + 25) p) lL (fun d hd => ⟨_, aR d hd⟩) (by decide)
      have hH : fN kd lf rt Bh one oth p = fLv p := pw_lf c6
      simp only [hv1, hv2, Option.bind_some, o3 p c6]
      by_cases c4 : p < 4
      · rw [if_neg (show ¬ (4 : Int32) ≤ nI p from nI_ge (b := 4) c4 (by decide))]
        simp only [kn_at hkn c4, Option.bind_some]
        exact next _ (by rw [hH, fLv, if_pos c4])
      · rw [if_pos (show (4 : Int32) ≤ nI p from nI_le (a := 4) (by omega) (by omega))]
        by_cases d4 : p = 4
        · have ez : nI p = (4 : Int32) := by rw [d4]; rfl
          rw [if_pos ez]
          exact next _ (by rw [hH, fLv, if_neg c4, if_pos d4]; rfl)
        · have ez : ¬ nI p = (4 : Int32) := fun e => d4 ((nI_eq (b := 4) (by omega) (by decide)).mp e)
          have e5 : nI p = (5 : Int32) := by rw [show p = 5 by omega]; rfl
          rw [if_neg ez, if_pos e5]
          exact next _ (by rw [hH, fLv, if_neg c4, if_neg d4]; rfl)
    · obtain ⟨a1, a2, a3, a4, a5⟩ := o4 p (by omega) hpS
      obtain ⟨b1, b2⟩ := m3 p (by omega) hpS
      have hRl := hR (lf p) a3
      have hRr := hR (rt p) a4
      have q4 : ¬ nI (kd p) = (4 : Int32) := fun e => by
        have := (nI_eq (b := 4) (by omega) (by decide)).mp e
        omega
      have q5 : ¬ nI (kd p) = (5 : Int32) := fun e => by
        have := (nI_eq (b := 5) (by omega) (by decide)).mp e
        omega
      have q7 : (nI (kd p) = (7 : Int32)) = (kd p = 7) := propext (nI_eq (b := 7) (by omega) (by decide))
      have q8 : (nI (kd p) = (8 : Int32)) = (kd p = 8) := propext (nI_eq (b := 8) (by omega) (by decide))
      have hx := hF (lf p) (by omega)
      have hH : fN kd lf rt Bh one oth p = fOp kd Bh one oth p (fN kd lf rt Bh one oth (lf p)) (fN kd lf rt Bh one oth (rt p)) := pw_op (by omega) a3 a4
      simp only [b1, b2, at_row lL (aR (lf p) (by omega)) (show lf p < 151 by omega) (by decide), at_row lL (aR (rt p) (by omega)) (show rt p < 151 by omega) (by decide), rw2_s, hRl, hRr, Option.bind_some, if_pos (show (4 : Int32) ≤ nI (kd p) from nI_le (a := 4) (by omega) (by omega)), if_neg q4, if_neg q5]
      by_cases d7 : kd p = 7
      · rw [if_pos (q7.mpr d7)]
        exact next _ (by rw [hH, fOp, if_pos d7, fa_and])
      · rw [if_neg (fun e => d7 (q7.mp e))]
        by_cases d8 : kd p = 8
        · rw [if_pos (q8.mpr d8)]
          exact next _ (by rw [hH, fOp, if_neg d7, if_pos d8, fa_or])
        · rw [if_neg (fun e => d8 (q8.mp e))]
          simp only [has_t (show Bh p < 2 ^ 31 from Nat.lt_trans (hB p hpS).2 (by decide)) (show one < 32 by omega), has_t (show Bh p < 2 ^ 31 from Nat.lt_trans (hB p hpS).2 (by decide)) (show oth < 32 by omega), Option.bind_some]
          have no : ¬ ((Bh p).testBit one = true ∧ (Bh p).testBit oth = true) → ∃ R1 : Nat → Int32, f_X6_fill_177 kn (fun a0 a1 a2 a3 a4 a5 a6 => f_X6_fill_3 kn q a0 a1 a2 a3 a4 a5 a6) (b + 21) (b + r) (b + h) (nI one) (nI oth) (nI p) (b + r) (nI p) (wr (SK b) (rw2 ia (b + r) R) fi fl qa f) = some (wr (SK b) (rw2 ia (b + r) R1) fi fl qa f) ∧ ∀ d, d < S → R1 d = nI (fN kd lf rt Bh one oth d) := fun hbb => by
            unfold f_X6_fill_177
            exact next _ (by rw [hH, fOp, if_neg d7, if_neg d8, if_neg hbb]; rfl)
          cases hb1 : (Bh p).testBit one with
          | false =>
            simp only [if_neg (show ¬ (false = true) by decide), if_true]
            exact no (fun e => by rw [hb1] at e; cases e.1)
          | true =>
            cases hb2 : (Bh p).testBit oth with
            | false =>
              simp only [if_neg (show ¬ (false = true) by decide), if_true, if_neg (show ¬ (1 : Int32) = 0 by decide)]
              exact no (fun e => by rw [hb2] at e; cases e.2)
            | true =>
              simp only [if_true, if_neg (show ¬ (1 : Int32) = 0 by decide)]
              exact next _ (by rw [hH, fOp, if_neg d7, if_neg d8, if_pos ⟨hb1, hb2⟩, not16 _ hx, fa_or])
theorem c_fillR {kn r h : Nat} (hkn : KNf b f kn) (hr : r = 30 ∨ r = 31 ∨ r = 32) (hh : h = 29 ∨ h = 30 ∨ h = 31) (hrh : r ≠ h) (hm : PTm b ia fi S kd lf rt) (ho : PTo S kd lf rt) {Bh : Nat → Nat} (hB : ∀ p, p < S → ia (b + h) p = nI (Bh p) ∧ Bh p < 65536) {one oth : Nat} (h1 : one < 16) (h2 : oth < 16) : ∃ R1 : Nat → Int32, f_X6_fill kn (b + 21) (b + r) (b + h) (nI one) (nI oth) (wr (SK b) ia fi fl qa f) = some (wr (SK b) (rw2 ia (b + r) R1) fi fl qa f) ∧ ∀ d, d < S → R1 d = nI (fN kd lf rt Bh one oth d) := by
  obtain ⟨q, hq⟩ := FU_1000
  have hS := ho.2.1
  obtain ⟨R1, e1, e2⟩ := c_fill_3 (fl := fl) (qa := qa) hkn hr hh hrh hm ho hB h1 h2 S 0 FU (ia (b + r)) (by omega) (by omega) (fun d hd => absurd hd (Nat.not_lt_zero _))
  rw [rw2_id] at e1
  exact ⟨R1, e1, e2⟩
end FILL
