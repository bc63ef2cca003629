/-! THE CLASS: the fewest stages -/
def sub4 (u F : Nat) : Prop := ∀ k, k < 4 → u.testBit k = true → F.testBit k = true
/-- the class's own use: rows 31 and 32 -/
def eO (b : Nat) (ia ia1 : Nat → Nat → Int32) : Prop := ∀ a, a ≠ b + 31 → a ≠ b + 32 → ia1 a = ia a
def rP (K : Nat → Nat) (Pn : Nat → Nat → Nat) (W p : Nat) (kd lf rt : Nat → Nat) (c : Bool) (u v w : Nat) : Prop := (∀ j, j < 5 → W.testBit j = true → (tP c u v w kd lf rt (Pn j (K j - 1))).1 = true) ∧ (tP c u v w kd lf rt (Pn p (K p - 1))).1 = false
def sP (K : Nat → Nat) (Pn : Nat → Nat → Nat) (W : Nat) (kd lf rt : Nat → Nat) (c : Bool) (u v w : Nat) : Prop := ∀ j, j < 5 → W.testBit j = true → (tP c u v w kd lf rt (Pn j (K j - 1))).1 = true
section FEW
variable {b : Nat} {ia fi : Nat → Nat → Int32} {fl : Nat → Nat → Int64} {qa : Nat → Nat → Option Nat} {f : mmF} {S : Nat} {kd lf rt : Nat → Nat}
variable {K : Nat → Nat} {G : Nat → Nat → Nat} {W V : Nat} {Pn : Nat → Nat → Nat}
theorem eO.rf : eO b ia ia := fun _ _ _ => rfl
theorem eO.tr {ia1 ia2 : Nat → Nat → Int32} (h : eO b ia ia1) (h2 : eO b ia1 ia2) : eO b ia ia2 := fun a ha hb => (h2 a ha hb).trans (h a ha hb)
theorem eO.rw {r : Nat} (R : Nat → Int32) (hr : r = 31 ∨ r = 32) : eO b ia (rw2 ia (b + r) R) := fun a ha hb => rw2_n _ _ (by rcases hr with rfl | rfl <;> omega)
theorem TK.eO {ia1 : Nat → Nat → Int32} {m : Nat} (h : TK b ia fi K G V S kd lf rt Pn m) (e : eO b ia ia1) : TK b ia1 fi K G V S kd lf rt Pn m := h.cg (fun a h1 h2 => e a (by omega) (by omega)) rfl
theorem rowQ.eO {ia1 : Nat → Nat → Int32} {Q : Nat → Nat → Bool} (h : rowQ b ia 30 S Q) (e : eO b ia ia1) : rowQ b ia1 30 S Q := by
  obtain ⟨Rv, hR⟩ := h
  exact ⟨Rv, fun p hp => by rw [e _ (by omega) (by omega)]; exact hR p hp⟩
theorem rowQ.ne {r r1 : Nat} {R : Nat → Int32} {Q : Nat → Nat → Bool} (h : rowQ b ia r S Q) (e : r ≠ r1) : rowQ b (rw2 ia (b + r1) R) r S Q := by
  obtain ⟨Rv, hR⟩ := h
  exact ⟨Rv, fun p hp => by rw [rw2_n _ _ (show b + r ≠ b + r1 by omega)]; exact hR p hp⟩
theorem kn_ld {kn k : Nat} (h : KNf b f kn) (hk : k < 4) : ldA 0 (wr (SK b) ia fi fl qa f) kn (nI k) = some (nI (fct k)) := by
  have hs := SK_low h.1
  have hn := nI_clamp (n := k) (by omega)
  have h0 : ¬ (nI k < 0 ∨ 4 ≤ (nI k).toNatClampNeg) := by
    rw [hn]
    intro hx
    rcases hx with hx | hx
    · exact nI_pos (by omega) hx
    · omega
  simp only [ldA, wr_o hs, h.2, or_true, and_self, true_and, if_pos h0]
  rw [hn]
  obtain rfl | rfl | rfl | rfl : k = 0 ∨ k = 1 ∨ k = 2 ∨ k = 3 := by omega
  all_goals rfl
theorem fct_lt : ∀ k, k < 4 → fct k < 65536 := by decide
theorem c_below_5 {kn F : Nat} (hkn : KNf b f kn) (hF : F < 2 ^ 31) : ∀ (m i q X : Nat), i + m = 4 → m < q → X < 65536 → (∀ u, u < 16 → (X.testBit u = true ↔ ∀ k, k < i → u.testBit k = true → F.testBit k = true)) → ∃ X1, X1 < 65536 ∧ f_X6_below_5 kn (wr (SK b) ia fi fl qa f) q (nI F) (nI X) (nI i) = some (nI X1) ∧ ∀ u, u < 16 → (X1.testBit u = true ↔ sub4 u F) := by
  intro m
  induction m with
  | zero =>
    intro i q X hi hm hX hb
    obtain ⟨q, rfl⟩ : ∃ k, q = k + 1 := ⟨q - 1, by omega⟩
    have h4 : i = 4 := by omega
    subst h4
    refine ⟨X, hX, ?_, hb⟩
    rw [f_X6_below_5, if_pos (show (4 : Int32) ≤ nI 4 by decide)]
  | succ m ih =>
    intro i q X hi hm hX hb
    obtain ⟨q, rfl⟩ : ∃ k, q = k + 1 := ⟨q - 1, by omega⟩
    have h4 : i < 4 := by omega
    have e4 : ¬ (4 : Int32) ≤ nI i := nI_ge (b := 4) h4 (by decide)
    rw [f_X6_below_5, if_neg e4]
    simp only [has_t hF (show i < 32 by omega), Option.bind_some]
    cases hw : F.testBit i with
    | true =>
      simp only [if_true, i10, if_false]
      unfold f_X6_below_31
      rw [show (65535 : Int32) = nI 65535 from rfl, fa_and, show (65535 : Nat) = 2 ^ 16 - 1 from rfl, Nat.and_two_pow_sub_one_of_lt_two_pow hX, nI_1]
      exact ih (i + 1) q X (by omega) (by omega) hX (fun u hu => by
        rw [hb u hu]
        constructor
        · intro h k hk huk
          by_cases e : k = i
          · subst e; exact hw
          · exact h k (by omega) huk
        · intro h k hk huk; exact h k (by omega) huk)
    | false =>
      simp only [if_neg (show ¬ (false = true) by decide), i00, if_true, kn_ld hkn h4, Option.bind_some]
      unfold f_X6_below_31
      rw [and16 hX (fct_lt i h4), nI_1]
      exact ih (i + 1) q (X &&& (65535 ^^^ fct i)) (by omega) (by omega) (Nat.lt_of_le_of_lt Nat.and_le_left hX) (fun u hu => by
        rw [Nat.testBit_and, Bool.and_eq_true, hb u hu, x16_bit _ hu, fct_bit i h4 u hu]
        constructor
        · rintro ⟨h, h'⟩ k hk huk
          by_cases e : k = i
          · subst e; rw [huk] at h'; cases h'
          · exact h k (by omega) huk
        · intro h
          refine ⟨fun k hk huk => h k (by omega) huk, ?_⟩
          cases hq : u.testBit i with
          | false => rfl
          | true => have := h i (by omega) hq; rw [hw] at this; cases this)
theorem c_below {kn F : Nat} (hkn : KNf b f kn) (hF : F < 2 ^ 31) : ∃ X1, X1 < 65536 ∧ f_X6_below kn (nI F) (wr (SK b) ia fi fl qa f) = some (nI X1) ∧ ∀ u, u < 16 → (X1.testBit u = true ↔ sub4 u F) := by
  obtain ⟨q, hq'⟩ := FU_1000
  exact c_below_5 hkn hF 4 0 FU 65535 (by omega) (by omega) (by decide) (fun u hu => by
    rw [show (65535 : Nat) = 2 ^ 16 - 1 from rfl, Nat.testBit_two_pow_sub_one, decide_eq_true hu]
    exact ⟨fun _ j hj => absurd hj (Nat.not_lt_zero _), fun _ => rfl⟩)
theorem w16_and {X Y : Nat} (hX : X < 65536) : (nI X &&& nI Y = 0) ↔ ¬ ∃ u, u < 16 ∧ X.testBit u = true ∧ Y.testBit u = true := by
  have hl : X &&& Y < 65536 := Nat.lt_of_le_of_lt Nat.and_le_left hX
  rw [fa_and, show (nI (X &&& Y) = 0 ↔ X &&& Y = 0) from nI_eq (b := 0) (Nat.lt_trans hl (by decide)) (by decide), w16_0 hl]
  constructor
  · rintro h ⟨u, h1, h2, h3⟩
    have := h u h1
    rw [Nat.testBit_and, h2, h3] at this
    cases this
  · intro h u hu
    rw [Nat.testBit_and]
    cases h2 : X.testBit u with
    | false => rfl
    | true =>
      cases h3 : Y.testBit u with
      | false => rfl
      | true => exact absurd ⟨u, hu, h2, h3⟩ h
theorem c_before {kn : Nat} (hkn : KNf b f kn) (ht : TK b ia fi K G V S kd lf rt Pn 5) {r h : Nat} (hr : r = 31 ∨ r = 32) (hh : h = 30 ∨ h = 31) (hrh : r ≠ h) {c : Bool} {v w one oth : Nat} (h1 : one < 16) (h2 : oth < 16) {Qh : Nat → Nat → Bool} (hq : rowQ b ia h S Qh) (hQ : ∀ u, u < 16 → ∀ d, 6 ≤ d → d < S → (Qh one d && Qh oth d) = ((tP c u v w kd lf rt d).2.1 && (tP c u v w kd lf rt d).2.2)) (hW : W < 32) (hs : ∀ i, W.testBit i = true → selP K V i) {p : Nat} (hp : p < 5) (hsp : selP K V p) : ∃ R1, rowQ b (rw2 ia (b + r) R1) r S (fun u d => (tP c u v w kd lf rt d).1) ∧ ((∃ u, u < 16 ∧ sub4 u (one &&& oth) ∧ rP K Pn W p kd lf rt c u v w) ∧ f_X6_refutesBefore kn (b + 21) (b + r) (b + h) (nI one) (nI oth) (nI W) (nI p) (wr (SK b) ia fi fl qa f) = some (1, wr (SK b) (rw2 ia (b + r) R1) fi fl qa f) ∨ (¬ ∃ u, u < 16 ∧ sub4 u (one &&& oth) ∧ rP K Pn W p kd lf rt c u v w) ∧ f_X6_refutesBefore kn (b + 21) (b + r) (b + h) (nI one) (nI oth) (nI W) (nI p) (wr (SK b) ia fi fl qa f) = some (0, wr (SK b) (rw2 ia (b + r) R1) fi fl qa f)) := by
  have ho := ht.2.1
  obtain ⟨Rv, hR⟩ := id hq
  have hr3 : r = 30 ∨ r = 31 ∨ r = 32 := Or.inr hr
  obtain ⟨R1, e1, e2⟩ := c_fillR (fl := fl) (qa := qa) hkn hr3 (Or.inr hh) hrh ht.1 ho (Bh := Rv) (fun d hd => ⟨(hR d hd).1, (hR d hd).2.1⟩) h1 h2
  have hq1 : rowQ b (rw2 ia (b + r) R1) r S (fun u d => (tP c u v w kd lf rt d).1) := by
    refine ⟨fN kd lf rt Rv one oth, fun d hd => ⟨?_, fN_lt Rv one oth ho d hd, fun u hu => ?_⟩⟩
    · rw [rw2_s]; exact e2 d hd
    · refine fN_bit ho hu (fun d h6 hd => ?_) d hd
      rw [(hR d hd).2.2 one h1, (hR d hd).2.2 oth h2]
      exact hQ u hu d h6 hd
  have ht1 := ht.eO (eO.rw (ia := ia) R1 hr)
  obtain ⟨X, x1, x2, x3⟩ := c_ref (fl := fl) (qa := qa) (f := f) ht1 ho hr3 hq1 hW hs hp hsp
  obtain ⟨Y, y1, y2, y3⟩ := c_below (ia := rw2 ia (b + r) R1) (fi := fi) (fl := fl) (qa := qa) (F := one &&& oth) hkn (Nat.lt_of_le_of_lt Nat.and_le_left (Nat.lt_trans h1 (by decide)))
  have key := w16_and (X := X) (Y := Y) x1
  have keq : (∃ u, u < 16 ∧ X.testBit u = true ∧ Y.testBit u = true) ↔ ∃ u, u < 16 ∧ sub4 u (one &&& oth) ∧ rP K Pn W p kd lf rt c u v w := by
    constructor
    · rintro ⟨u, hu, a1, a2⟩; exact ⟨u, hu, (y3 u hu).mp a2, (x3 u hu).mp a1⟩
    · rintro ⟨u, hu, a1, a2⟩; exact ⟨u, hu, (x3 u hu).mpr a2, (y3 u hu).mpr a1⟩
  refine ⟨R1, hq1, ?_⟩
  unfold f_X6_refutesBefore
  simp only [ck_21, e1, Option.bind_some, x2, fa_and one oth, y2]
  rw [keq] at key
  by_cases hE : ∃ u, u < 16 ∧ sub4 u (one &&& oth) ∧ rP K Pn W p kd lf rt c u v w
  · exact Or.inl ⟨hE, by rw [if_neg (fun e => key.mp e hE)]⟩
  · exact Or.inr ⟨hE, by rw [if_pos (key.mpr hE)]⟩
end FEW
