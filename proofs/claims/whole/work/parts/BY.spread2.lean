section SPREAD2
variable {b : Nat} {ia fi : Nat → Nat → Int32} {fl : Nat → Nat → Int64} {qa : Nat → Nat → Option Nat} {f : mmF} {S : Nat} {kd lf rt : Nat → Nat}
theorem stS.ext {K K0 : Nat → Bool} {p : Nat} (ho : PTo S kd lf rt) (h6 : 6 ≤ p) (hp : p < S) (e : ∀ q, q < S → K q = K0 q) (h : stS kd lf rt K p) : stS kd lf rt K0 p := by
  obtain ⟨o1, o2, o3, o4, o5⟩ := ho.2.2.2.1 p h6 hp
  unfold stS at h ⊢
  rw [e p hp, e (lf p) (by omega), e (rt p) (by omega)] at h
  exact h
/-- a pass over the parts, so far -/
def psI (b j S : Nat) (kd lf rt : Nat → Nat) (fl0 fl : Nat → Nat → Int64) (gr : Int32) (D : Nat → Prop) : Prop := (∀ c, c ≠ lA b j 1 → fl c = fl0 c) ∧ cqS S kd lf rt (sB fl0 (lA b j 1)) (sB fl (lA b j 1)) ∧ (inS S (sB fl0 (lA b j 1)) → inS S (sB fl (lA b j 1))) ∧ ((gr = 0 ∧ (∀ q, q < 192 → sB fl (lA b j 1) q = sB fl0 (lA b j 1) q) ∧ ∀ p, 6 ≤ p → p < S → D p → stS kd lf rt (sB fl0 (lA b j 1)) p) ∨ (gr = 1 ∧ ∃ r, r < S ∧ sB fl0 (lA b j 1) r = false ∧ sB fl (lA b j 1) r = true))
theorem psI.step {j p : Nat} {fl0 : Nat → Nat → Int64} {gr : Int32} {D : Nat → Prop} (hj : j < 153) (h : LX b ia fi S kd lf rt) (h6 : 6 ≤ p) (hp : p < S) (hi : psI b j S kd lf rt fl0 fl gr D) : ∃ (x : Int32) (fl1 : Nat → Nat → Int64), f_X5_grows (b + 20) (lA b j 1) (nI p) (wr (SK b) ia fi fl qa f) = some (x, wr (SK b) ia fi fl1 qa f) ∧ psI b j S kd lf rt fl0 fl1 (gr ||| x) (fun q => D q ∨ q = p) := by
  have ho := h.2.1
  have hS := ho.2.1
  obtain ⟨i1, i2, i3, i4⟩ := hi
  rcases grows_c (qa := qa) (f := f) hj h h6 hp with ⟨a1, a2⟩ | ⟨fl1, a1, a2, a3⟩ | ⟨fl1, K1, a1, a2, a3, a4, a5⟩
  · refine ⟨0, fl, a1, i1, i2, i3, ?_⟩
    rw [Int32.or_zero]
    rcases i4 with ⟨c1, c2, c3⟩ | c
    · exact Or.inl ⟨c1, c2, fun q q6 qS hD => hD.elim (c3 q q6 qS) (fun e => by subst e; exact a2.ext ho q6 qS (fun r hr => c2 r (by omega)))⟩
    · exact Or.inr c
  · have e1 : ∀ q, q < 192 → sB fl1 (lA b j 1) q = sB fl (lA b j 1) q := a2.2
    refine ⟨0, fl1, a1, fun c hc => (a2.1 c hc).trans (i1 c hc), i2.ext (fun q hq => e1 q (by omega)), fun hin => a2.in (i3 hin), ?_⟩
    rw [Int32.or_zero]
    rcases i4 with ⟨c1, c2, c3⟩ | ⟨c1, r, r1, r2, r3⟩
    · exact Or.inl ⟨c1, fun q hq => (e1 q hq).trans (c2 q hq), fun q q6 qS hD => hD.elim (c3 q q6 qS) (fun e => by subst e; exact a3.ext ho q6 qS (fun r hr => c2 r (by omega)))⟩
    · exact Or.inr ⟨c1, r, r1, r2, by rw [e1 r (by omega)]; exact r3⟩
  · have e1 : ∀ q, q < S → sB fl1 (lA b j 1) q = K1 q := fun q hq => a2.2 q (by omega)
    refine ⟨1, fl1, a1, fun c hc => (a2.1 c hc).trans (i1 c hc), (i2.tr a3).ext e1, fun hin => a2.in (a5 (i3 hin)), Or.inr ?_⟩
    obtain ⟨r, r1, r2, r3⟩ := a4
    rcases i4 with ⟨c1, c2, c3⟩ | ⟨c1, r', r1', r2', r3'⟩
    · subst c1
      exact ⟨by decide, r, r1, by rw [← c2 r (by omega)]; exact r2, by rw [e1 r r1]; exact r3⟩
    · subst c1
      exact ⟨by decide, r', r1', r2', by rw [e1 r' r1']; exact a3.1 r' r1' r3'⟩
theorem spread_60 {j v : Nat} {fl0 : Nat → Nat → Int64} (k4 : Nat → Nat → Int32 → Int32 → mmF → Option (mmF)) (hj : j < 153) (h : LX b ia fi S kd lf rt) : ∀ (t q : Nat) (fl : Nat → Nat → Int64) (gr : Int32) (D : Nat → Prop), 5 + t < S → t < q → psI b j S kd lf rt fl0 fl gr D → ∃ (gr1 : Int32) (fl1 : Nat → Nat → Int64) (D1 : Nat → Prop), f_X5_spread_60 k4 q (b + 20) (lA b j 1) gr (nI v) (nI (5 + t)) (wr (SK b) ia fi fl qa f) = k4 (b + 20) (lA b j 1) gr1 (nI (v + 1)) (wr (SK b) ia fi fl1 qa f) ∧ psI b j S kd lf rt fl0 fl1 gr1 D1 ∧ ∀ p, D p → D1 p := by
  have hS := h.2.1.2.1
  intro t
  induction t with
  | zero =>
    intro q fl gr D ht hq hi
    obtain ⟨q, rfl⟩ : ∃ k, q = k + 1 := ⟨q - 1, by omega⟩
    refine ⟨gr, fl, D, ?_, hi, fun p hp => hp⟩
    rw [f_X5_spread_60, if_pos (show nI (5 + 0) < (6 : Int32) by decide), nI_1]
  | succ t ih =>
    intro q fl gr D ht hq hi
    obtain ⟨q, rfl⟩ : ∃ k, q = k + 1 := ⟨q - 1, by omega⟩
    obtain ⟨x, fl1, a1, a2⟩ := psI.step (qa := qa) (f := f) hj h (show 6 ≤ 5 + (t + 1) by omega) (by omega) hi
    obtain ⟨gr1, fl2, D1, b1, b2, b3⟩ := ih q fl1 (gr ||| x) _ (by omega) (by omega) a2
    refine ⟨gr1, fl2, D1, ?_, b2, fun p hp => b3 p (Or.inl hp)⟩
    rw [f_X5_spread_60, if_neg (show ¬ nI (5 + (t + 1)) < (6 : Int32) from nI_nlt (a := 5 + (t + 1)) (b := 6) (by omega) (by omega))]
    simp only [ck_20, a1, Option.bind_some]
    rw [show nI (5 + (t + 1)) + (-1 : Int32) = nI (5 + t) from pk_m1 (5 + t)]
    exact b1
theorem spread_21 {j v : Nat} {fl0 : Nat → Nat → Int64} (k4 : Nat → Nat → Int32 → Int32 → mmF → Option (mmF)) (hj : j < 153) (h : LX b ia fi S kd lf rt) : ∀ (m p q : Nat) (fl : Nat → Nat → Int64) (gr : Int32) (D : Nat → Prop), p + m = S → 6 ≤ p → m < q → psI b j S kd lf rt fl0 fl gr D → (∀ p', 6 ≤ p' → p' < p → D p') → ∃ (gr1 : Int32) (fl1 : Nat → Nat → Int64) (D1 : Nat → Prop), f_X5_spread_21 k4 q (b + 20) (lA b j 1) gr (nI v) (nI p) (wr (SK b) ia fi fl qa f) = k4 (b + 20) (lA b j 1) gr1 (nI (v + 1)) (wr (SK b) ia fi fl1 qa f) ∧ psI b j S kd lf rt fl0 fl1 gr1 D1 ∧ ∀ p', 6 ≤ p' → p' < S → D1 p' := by
  obtain ⟨qf, hqf⟩ := FU_1000
  have hS := h.2.1.2.1
  intro m
  induction m with
  | zero =>
    intro p q fl gr D hp h6 hq hi hD
    obtain ⟨q, rfl⟩ : ∃ k, q = k + 1 := ⟨q - 1, by omega⟩
    have e : p = S := by omega
    subst e
    obtain ⟨gr1, fl1, D1, b1, b2, b3⟩ := spread_60 (v := v) (qa := qa) (f := f) k4 hj h (p - 6) FU fl gr D (by omega) (by omega) hi
    refine ⟨gr1, fl1, D1, ?_, b2, fun p' h1 h2 => b3 p' (hD p' h1 h2)⟩
    rw [f_X5_spread_21]
    simp only [R_20_1, I_22_0, h.1.1, Option.bind_some, if_pos (Int32.le_refl _)]
    rw [show (1 : Int32) = nI 1 from rfl, pk_sub (show 1 ≤ p by omega), show p - 1 = 5 + (p - 6) by omega]
    exact b1
  | succ m ih =>
    intro p q fl gr D hp h6 hq hi hD
    obtain ⟨q, rfl⟩ : ∃ k, q = k + 1 := ⟨q - 1, by omega⟩
    obtain ⟨x, fl1, a1, a2⟩ := psI.step (qa := qa) (f := f) hj h h6 (show p < S by omega) hi
    obtain ⟨gr1, fl2, D1, b1, b2, b3⟩ := ih (p + 1) q fl1 (gr ||| x) _ (by omega) (by omega) (by omega) a2 (fun p' h1 h2 => by
      by_cases e : p' = p
      · exact Or.inr e
      · exact Or.inl (hD p' h1 (by omega)))
    refine ⟨gr1, fl2, D1, ?_, b2, b3⟩
    rw [f_X5_spread_21]
    simp only [R_20_1, I_22_0, h.1.1, Option.bind_some, if_neg (nI_ge (show p < S by omega) (show S < 2 ^ 31 by omega)), ck_20, a1, nI_1]
    exact b1
theorem spread_4 {j : Nat} (hj : j < 153) (h : LX b ia fi S kd lf rt) : ∀ (n v q : Nat) (fl : Nat → Nat → Int64), S - cnS (sB fl (lA b j 1)) S ≤ n → n + 2 ≤ q → v + 1 ≤ cnS (sB fl (lA b j 1)) S → ∃ fl1, f_X5_spread_4 q (b + 20) (lA b j 1) 1 (nI v) (wr (SK b) ia fi fl qa f) = some (wr (SK b) ia fi fl1 qa f) ∧ (∀ c, c ≠ lA b j 1 → fl1 c = fl c) ∧ cqS S kd lf rt (sB fl (lA b j 1)) (sB fl1 (lA b j 1)) ∧ (inS S (sB fl (lA b j 1)) → inS S (sB fl1 (lA b j 1))) ∧ ∀ p, 6 ≤ p → p < S → stS kd lf rt (sB fl1 (lA b j 1)) p := by
  obtain ⟨qf, hqf⟩ := FU_1000
  have hS := h.2.1.2.1
  have hS6 := h.2.1.1
  intro n
  induction n with
  | zero =>
    intro v q fl hn hq hv
    obtain ⟨q, rfl⟩ : ∃ k, q = k + 2 := ⟨q - 2, by omega⟩
    have hle := cnS_le (sB fl (lA b j 1)) S
    obtain ⟨gr1, fl1, D1, b1, b2, b3⟩ := spread_21 (v := v) (fl0 := fl) (qa := qa) (f := f) (fun a0 a1 a2 a3 a4 => f_X5_spread_4 (q + 1) a0 a1 a2 a3 a4) hj h (S - 6) 6 FU fl 0 (fun _ => False) (by omega) (Nat.le_refl _) (by omega) ⟨fun _ _ => rfl, cqS.rf, id, Or.inl ⟨rfl, fun _ _ => rfl, fun _ _ _ h => h.elim⟩⟩ (fun p' h1 h2 => by omega)
    rw [show nI 6 = (6 : Int32) from rfl] at b1
    obtain ⟨i1, i2, i3, i4⟩ := b2
    refine ⟨fl1, ?_, i1, i2, i3, ?_⟩
    · rcases i4 with ⟨c1, c2, c3⟩ | ⟨c1, r, r1, r2, r3⟩
      · subst c1
        rw [f_X5_spread_4, if_neg (by decide), if_neg (show ¬ (151 : Int32) < nI v from nI_nlt (a := 151) (b := v) (by omega) (by decide)), b1, f_X5_spread_4, if_pos rfl]
      · have := cnS_lt S i2.1 ⟨r, r1, r2, r3⟩
        have := cnS_le (sB fl1 (lA b j 1)) S
        omega
    · rcases i4 with ⟨c1, c2, c3⟩ | ⟨c1, r, r1, r2, r3⟩
      · exact fun p h6 hp => (c3 p h6 hp (b3 p h6 hp)).ext h.2.1 h6 hp (fun q hq => (c2 q (by omega)).symm)
      · have := cnS_lt S i2.1 ⟨r, r1, r2, r3⟩
        have := cnS_le (sB fl1 (lA b j 1)) S
        omega
  | succ n ih =>
    intro v q fl hn hq hv
    obtain ⟨q, rfl⟩ : ∃ k, q = k + 2 := ⟨q - 2, by omega⟩
    have hle := cnS_le (sB fl (lA b j 1)) S
    obtain ⟨gr1, fl1, D1, b1, b2, b3⟩ := spread_21 (v := v) (fl0 := fl) (qa := qa) (f := f) (fun a0 a1 a2 a3 a4 => f_X5_spread_4 (q + 1) a0 a1 a2 a3 a4) hj h (S - 6) 6 FU fl 0 (fun _ => False) (by omega) (Nat.le_refl _) (by omega) ⟨fun _ _ => rfl, cqS.rf, id, Or.inl ⟨rfl, fun _ _ => rfl, fun _ _ _ h => h.elim⟩⟩ (fun p' h1 h2 => by omega)
    rw [show nI 6 = (6 : Int32) from rfl] at b1
    obtain ⟨i1, i2, i3, i4⟩ := b2
    rcases i4 with ⟨c1, c2, c3⟩ | ⟨c1, r, r1, r2, r3⟩
    · refine ⟨fl1, ?_, i1, i2, i3, fun p h6 hp => (c3 p h6 hp (b3 p h6 hp)).ext h.2.1 h6 hp (fun q hq => (c2 q (by omega)).symm)⟩
      subst c1
      rw [f_X5_spread_4, if_neg (by decide), if_neg (show ¬ (151 : Int32) < nI v from nI_nlt (a := 151) (b := v) (by omega) (by decide)), b1, f_X5_spread_4, if_pos rfl]
    · have hlt := cnS_lt S i2.1 ⟨r, r1, r2, r3⟩
      obtain ⟨fl2, d1, d2, d3, d4, d5⟩ := ih (v + 1) (q + 1) fl1 (by omega) (by omega) (by omega)
      subst c1
      refine ⟨fl2, ?_, fun c hc => (d2 c hc).trans (i1 c hc), i2.tr d3, fun hin => d4 (i3 hin), d5⟩
      rw [f_X5_spread_4, if_neg (by decide), if_neg (show ¬ (151 : Int32) < nI v from nI_nlt (a := 151) (b := v) (by omega) (by decide)), b1]
      exact d1
theorem spread_c {j : Nat} (hj : j < 153) (h : LX b ia fi S kd lf rt) (h4 : 1 ≤ cnS (sB fl (lA b j 1)) S) : ∃ fl1, f_X5_spread (b + 20) (lA b j 1) (wr (SK b) ia fi fl qa f) = some (wr (SK b) ia fi fl1 qa f) ∧ (∀ c, c ≠ lA b j 1 → fl1 c = fl c) ∧ cqS S kd lf rt (sB fl (lA b j 1)) (sB fl1 (lA b j 1)) ∧ (inS S (sB fl (lA b j 1)) → inS S (sB fl1 (lA b j 1))) ∧ ∀ p, 6 ≤ p → p < S → stS kd lf rt (sB fl1 (lA b j 1)) p := by
  obtain ⟨qf, hqf⟩ := FU_1000
  have hS := h.2.1.2.1
  exact spread_4 hj h (S - cnS (sB fl (lA b j 1)) S) 0 FU fl (Nat.le_refl _) (by omega) (by omega)
end SPREAD2
