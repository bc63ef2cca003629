section SPREAD2
variable {b : Nat} {ia fi ia0 fi0 : Nat → Nat → Int32} {fl : Nat → Nat → Int64} {qa : Nat → Nat → Option Nat} {f : mmF} {S : Nat} {kd lf rt : Nat → Nat} {z0 : Nat} {O0 : Nat → Nat}
/-- a pass over the parts, so far -/
def psI (b S : Nat) (kd lf rt : Nat → Nat) (ia0 fi0 : Nat → Nat → Int32) (z0 : Nat) (O0 : Nat → Nat) (ia fi : Nat → Nat → Int32) (z : Nat) (O : Nat → Nat) (gr : Int32) (D : Nat → Prop) : Prop := (∀ c, c ≠ b + 35 → c ≠ b + 36 → c ≠ b + 38 → ia c = ia0 c) ∧ (∀ c i, c ≠ b + 33 → fi c i = fi0 c i) ∧ TX b z0 z O0 O ia0 ia ∧ TRL b ia fi S z O ∧ INF b S kd lf rt ia O z0 z ∧ cqS S kd lf rt (sB (ia0 (b + 35)) 0) (sB (ia (b + 35)) 0) ∧ ((gr = 0 ∧ ia = ia0 ∧ fi = fi0 ∧ ∀ p, 6 ≤ p → p < S → D p → stS kd lf rt (sB (ia0 (b + 35)) 0) p) ∨ (gr = 1 ∧ z0 < z))
theorem psI.lx {z : Nat} {O : Nat → Nat} {gr : Int32} {D : Nat → Prop} (hi : psI b S kd lf rt ia0 fi0 z0 O0 ia fi z O gr D) (h : LX b ia0 fi0 S kd lf rt) : LX b ia fi S kd lf rt := (trL (j := 0) hi.1 hi.2.1).lx h
theorem psI.step {p z : Nat} {O : Nat → Nat} {gr : Int32} {D : Nat → Prop} (h : LX b ia0 fi0 S kd lf rt) (h6 : 6 ≤ p) (hp : p < S) (hi : psI b S kd lf rt ia0 fi0 z0 O0 ia fi z O gr D) : ∃ (x : Int32) (ia1 fi1 : Nat → Nat → Int32) (z1 : Nat) (O1 : Nat → Nat), f_X2_grows (b + 33) (nI p) (wr (SK b) ia fi fl qa f) = some (x, wr (SK b) ia1 fi1 fl qa f) ∧ psI b S kd lf rt ia0 fi0 z0 O0 ia1 fi1 z1 O1 (gr ||| x) (fun q => D q ∨ q = p) := by
  have hx := hi.lx h
  have hS := h.2.1.2.1
  obtain ⟨i1, i2, i3, i4, i5, i6, i7⟩ := hi
  rcases grows_c (fl := fl) (qa := qa) (f := f) hx i4 h6 hp with ⟨a1, a2⟩ | ⟨ia1, fi1, z1, O1, a1, a2, a3, a4, a5, a6, a7, a8⟩
  · refine ⟨0, ia, fi, z, O, a1, i1, i2, i3, i4, i5, i6, ?_⟩
    rw [Int32.or_zero]
    rcases i7 with ⟨c1, c2, c3, c4⟩ | c
    · refine Or.inl ⟨c1, c2, c3, fun q q6 qS hD => hD.elim (c4 q q6 qS) (fun e => ?_)⟩
      subst e
      rw [← c2]
      exact a2
    · exact Or.inr c
  · refine ⟨1, ia1, fi1, z1, O1, a1, fun c h1 h2 h3 => (a2 c h1 h2 h3).trans (i1 c h1 h2 h3), fun c i hc => (a3 c i hc).trans (i2 c i hc), i3.tr a4, a5, (i5.tx a4 (by omega)).app a6, i6.tr a7, Or.inr ?_⟩
    have hz := i3.1
    rcases i7 with ⟨c1, _⟩ | ⟨c1, c2⟩
    · subst c1; exact ⟨by decide, by omega⟩
    · subst c1; exact ⟨by decide, by omega⟩
theorem psI.dn {p z : Nat} {O : Nat → Nat} {D : Nat → Prop} (h : LX b ia0 fi0 S kd lf rt) (h6 : 6 ≤ p) (hp : p < S) (hi : psI b S kd lf rt ia0 fi0 z0 O0 ia fi z O 1 D) : ∃ (x : Int32) (ia1 fi1 : Nat → Nat → Int32) (z1 : Nat) (O1 : Nat → Nat), f_X2_grows (b + 33) (nI p) (wr (SK b) ia fi fl qa f) = some (x, wr (SK b) ia1 fi1 fl qa f) ∧ psI b S kd lf rt ia0 fi0 z0 O0 ia1 fi1 z1 O1 1 D := by
  have hx := hi.lx h
  have hS := h.2.1.2.1
  rcases grows_c (fl := fl) (qa := qa) (f := f) hx hi.2.2.2.1 h6 hp with ⟨a1, a2⟩ | ⟨ia1, fi1, z1, O1, a1, a2, a3, a4, a5, a6, a7, a8⟩
  · exact ⟨0, ia, fi, z, O, a1, hi⟩
  · obtain ⟨i1, i2, i3, i4, i5, i6, i7⟩ := hi
    refine ⟨1, ia1, fi1, z1, O1, a1, fun c h1 h2 h3 => (a2 c h1 h2 h3).trans (i1 c h1 h2 h3), fun c i hc => (a3 c i hc).trans (i2 c i hc), i3.tr a4, a5, (i5.tx a4 (by omega)).app a6, i6.tr a7, Or.inr ⟨rfl, ?_⟩⟩
    have hz := i3.1
    omega
theorem spread_55 {v : Nat} (k4 : Nat → Int32 → Int32 → mmF → Option (mmF)) (h : LX b ia0 fi0 S kd lf rt) : ∀ (t q : Nat) (ia fi : Nat → Nat → Int32) (z : Nat) (O : Nat → Nat) (D : Nat → Prop), 5 + t < S → t < q → psI b S kd lf rt ia0 fi0 z0 O0 ia fi z O 1 D → ∃ (ia1 fi1 : Nat → Nat → Int32) (z1 : Nat) (O1 : Nat → Nat), f_X2_spread_55 k4 q (b + 33) 1 (nI v) (nI (5 + t)) (wr (SK b) ia fi fl qa f) = k4 (b + 33) 1 (nI (v + 1)) (wr (SK b) ia1 fi1 fl qa f) ∧ psI b S kd lf rt ia0 fi0 z0 O0 ia1 fi1 z1 O1 1 D := by
  have hS := h.2.1.2.1
  intro t
  induction t with
  | zero =>
    intro q ia fi z O D ht hq hi
    obtain ⟨q, rfl⟩ : ∃ k, q = k + 1 := ⟨q - 1, by omega⟩
    refine ⟨ia, fi, z, O, ?_, hi⟩
    rw [f_X2_spread_55, if_neg (show ¬ (1 : Int32) = 0 by decide), if_pos (show nI (5 + 0) < (6 : Int32) by decide)]
    unfold f_X2_spread_77
    rw [nI_1]
  | succ t ih =>
    intro q ia fi z O D ht hq hi
    obtain ⟨q, rfl⟩ : ∃ k, q = k + 1 := ⟨q - 1, by omega⟩
    obtain ⟨x, ia1, fi1, z1, O1, a1, a2⟩ := psI.dn (fl := fl) (qa := qa) (f := f) h (show 6 ≤ 5 + (t + 1) by omega) (by omega) hi
    obtain ⟨ia2, fi2, z2, O2, b1, b2⟩ := ih q ia1 fi1 z1 O1 D (by omega) (by omega) a2
    refine ⟨ia2, fi2, z2, O2, ?_, b2⟩
    rw [f_X2_spread_55, if_neg (show ¬ (1 : Int32) = 0 by decide), if_neg (show ¬ nI (5 + (t + 1)) < (6 : Int32) from nI_nlt (a := 5 + (t + 1)) (b := 6) (by omega) (by omega))]
    simp only [ck_33, a1, Option.bind_some]
    rw [show nI (5 + (t + 1)) + (-1 : Int32) = nI (5 + t) from pk_m1 (5 + t)]
    exact b1
theorem spread_20 {v : Nat} (k4 : Nat → Int32 → Int32 → mmF → Option (mmF)) (h : LX b ia0 fi0 S kd lf rt) : ∀ (m p q : Nat) (ia fi : Nat → Nat → Int32) (z : Nat) (O : Nat → Nat) (gr : Int32) (D : Nat → Prop), p + m = S → 6 ≤ p → m < q → psI b S kd lf rt ia0 fi0 z0 O0 ia fi z O gr D → (∀ p', 6 ≤ p' → p' < p → D p') → ∃ (gr1 : Int32) (ia1 fi1 : Nat → Nat → Int32) (z1 : Nat) (O1 : Nat → Nat) (D1 : Nat → Prop), f_X2_spread_20 k4 q (b + 33) gr (nI v) (nI p) (wr (SK b) ia fi fl qa f) = k4 (b + 33) gr1 (nI (v + 1)) (wr (SK b) ia1 fi1 fl qa f) ∧ psI b S kd lf rt ia0 fi0 z0 O0 ia1 fi1 z1 O1 gr1 D1 ∧ ∀ p', 6 ≤ p' → p' < S → D1 p' := by
  obtain ⟨qf, hqf⟩ := FU_1000
  have hS := h.2.1.2.1
  intro m
  induction m with
  | zero =>
    intro p q ia fi z O gr D hp h6 hq hi hD
    obtain ⟨q, rfl⟩ : ∃ k, q = k + 1 := ⟨q - 1, by omega⟩
    have e : p = S := by omega
    subst e
    have hx := hi.lx h
    have hsz : nI p - (1 : Int32) = nI (5 + (p - 6)) := by
      rw [show (1 : Int32) = nI 1 from rfl, pk_sub (show 1 ≤ p by omega), show p - 1 = 5 + (p - 6) by omega]
    by_cases c : gr = 0
    · subst c
      refine ⟨0, ia, fi, z, O, D, ?_, hi, hD⟩
      obtain ⟨k, hk⟩ : ∃ k, FU = k + 1 := ⟨FU - 1, by omega⟩
      rw [f_X2_spread_20]
      simp only [R_33_2, I_22_0, hx.1.1, Option.bind_some, if_pos (Int32.le_refl _), hk]
      rw [f_X2_spread_55, if_pos rfl]
      unfold f_X2_spread_77
      rw [nI_1]
    · have c1 : gr = 1 := by
        rcases hi.2.2.2.2.2.2 with ⟨d, _⟩ | ⟨d, _⟩
        · exact absurd d c
        · exact d
      subst c1
      obtain ⟨ia1, fi1, z1, O1, b1, b2⟩ := spread_55 (v := v) (fl := fl) (qa := qa) (f := f) k4 h (p - 6) FU ia fi z O D (by omega) (by omega) hi
      refine ⟨1, ia1, fi1, z1, O1, D, ?_, b2, hD⟩
      rw [f_X2_spread_20]
      simp only [R_33_2, I_22_0, hx.1.1, Option.bind_some, if_pos (Int32.le_refl _), hsz]
      exact b1
  | succ m ih =>
    intro p q ia fi z O gr D hp h6 hq hi hD
    obtain ⟨q, rfl⟩ : ∃ k, q = k + 1 := ⟨q - 1, by omega⟩
    have hx := hi.lx h
    obtain ⟨x, ia1, fi1, z1, O1, a1, a2⟩ := psI.step (fl := fl) (qa := qa) (f := f) h h6 (show p < S by omega) hi
    obtain ⟨gr1, ia2, fi2, z2, O2, D1, b1, b2, b3⟩ := ih (p + 1) q ia1 fi1 z1 O1 (gr ||| x) _ (by omega) (by omega) (by omega) a2 (fun p' h1 h2 => by
      by_cases e : p' = p
      · exact Or.inr e
      · exact Or.inl (hD p' h1 (by omega)))
    refine ⟨gr1, ia2, fi2, z2, O2, D1, ?_, b2, b3⟩
    rw [f_X2_spread_20]
    simp only [R_33_2, I_22_0, hx.1.1, Option.bind_some, if_neg (nI_ge (show p < S by omega) (show S < 2 ^ 31 by omega)), ck_33, a1, nI_1]
    exact b1
theorem spread_4 : ∀ (n v q : Nat) (ia fi : Nat → Nat → Int32) (z : Nat) (O : Nat → Nat), S - z ≤ n → n + 2 ≤ q → v + 1 ≤ z → LX b ia fi S kd lf rt → TRL b ia fi S z O → ∃ (ia1 fi1 : Nat → Nat → Int32) (z1 : Nat) (O1 : Nat → Nat), f_X2_spread_4 q (b + 33) 1 (nI v) (wr (SK b) ia fi fl qa f) = some (wr (SK b) ia1 fi1 fl qa f) ∧ (∀ c, c ≠ b + 35 → c ≠ b + 36 → c ≠ b + 38 → ia1 c = ia c) ∧ (∀ c i, c ≠ b + 33 → fi1 c i = fi c i) ∧ TX b z z1 O O1 ia ia1 ∧ TRL b ia1 fi1 S z1 O1 ∧ INF b S kd lf rt ia1 O1 z z1 ∧ cqS S kd lf rt (sB (ia (b + 35)) 0) (sB (ia1 (b + 35)) 0) ∧ ∀ p, 6 ≤ p → p < S → stS kd lf rt (sB (ia1 (b + 35)) 0) p := by
  obtain ⟨qf, hqf⟩ := FU_1000
  intro n
  induction n with
  | zero =>
    intro v q ia fi z O hn hq hv h t
    obtain ⟨q, rfl⟩ : ∃ k, q = k + 2 := ⟨q - 2, by omega⟩
    have hS := h.2.1.2.1
    have hS6 := h.2.1.1
    have hz := t.le
    obtain ⟨gr1, ia1, fi1, z1, O1, D1, b1, b2, b3⟩ := spread_20 (v := v) (fl := fl) (qa := qa) (f := f) (fun a0 a1 a2 a3 => f_X2_spread_4 (q + 1) a0 a1 a2 a3) h (S - 6) 6 FU ia fi z O 0 (fun _ => False) (by omega) (Nat.le_refl _) (by omega) ⟨fun _ _ _ _ => rfl, fun _ _ _ => rfl, TX.rf, t, fun i h1 h2 => by omega, cqS.rf, Or.inl ⟨rfl, rfl, rfl, fun _ _ _ h => h.elim⟩⟩ (fun p' h1 h2 => by omega)
    rw [show nI 6 = (6 : Int32) from rfl] at b1
    obtain ⟨i1, i2, i3, i4, i5, i6, i7⟩ := b2
    rcases i7 with ⟨c1, c2, c3, c4⟩ | ⟨c1, c2⟩
    · refine ⟨ia1, fi1, z1, O1, ?_, i1, i2, i3, i4, i5, i6, fun p h6 hp => by rw [c2]; exact c4 p h6 hp (b3 p h6 hp)⟩
      subst c1
      rw [f_X2_spread_4, if_neg (show ¬ (1 : Int32) = 0 by decide), if_neg (show ¬ (151 : Int32) < nI v from nI_nlt (a := 151) (b := v) (by omega) (by decide)), b1, f_X2_spread_4, if_pos rfl]
    · have := i4.le
      omega
  | succ n ih =>
    intro v q ia fi z O hn hq hv h t
    obtain ⟨q, rfl⟩ : ∃ k, q = k + 2 := ⟨q - 2, by omega⟩
    have hS := h.2.1.2.1
    have hS6 := h.2.1.1
    have hz := t.le
    obtain ⟨gr1, ia1, fi1, z1, O1, D1, b1, b2, b3⟩ := spread_20 (v := v) (fl := fl) (qa := qa) (f := f) (fun a0 a1 a2 a3 => f_X2_spread_4 (q + 1) a0 a1 a2 a3) h (S - 6) 6 FU ia fi z O 0 (fun _ => False) (by omega) (Nat.le_refl _) (by omega) ⟨fun _ _ _ _ => rfl, fun _ _ _ => rfl, TX.rf, t, fun i h1 h2 => by omega, cqS.rf, Or.inl ⟨rfl, rfl, rfl, fun _ _ _ h => h.elim⟩⟩ (fun p' h1 h2 => by omega)
    rw [show nI 6 = (6 : Int32) from rfl] at b1
    have hx := b2.lx h
    obtain ⟨i1, i2, i3, i4, i5, i6, i7⟩ := b2
    rcases i7 with ⟨c1, c2, c3, c4⟩ | ⟨c1, c2⟩
    · refine ⟨ia1, fi1, z1, O1, ?_, i1, i2, i3, i4, i5, i6, fun p h6 hp => by rw [c2]; exact c4 p h6 hp (b3 p h6 hp)⟩
      subst c1
      rw [f_X2_spread_4, if_neg (show ¬ (1 : Int32) = 0 by decide), if_neg (show ¬ (151 : Int32) < nI v from nI_nlt (a := 151) (b := v) (by omega) (by decide)), b1, f_X2_spread_4, if_pos rfl]
    · subst c1
      obtain ⟨ia2, fi2, z2, O2, d1, d2, d3, d4, d5, d6, d7, d8⟩ := ih (v + 1) (q + 1) ia1 fi1 z1 O1 (by omega) (by omega) (by omega) hx i4
      refine ⟨ia2, fi2, z2, O2, ?_, fun c h1 h2 h3 => (d2 c h1 h2 h3).trans (i1 c h1 h2 h3), fun c i hc => (d3 c i hc).trans (i2 c i hc), i3.tr d4, d5, (i5.tx d4 (by omega)).app d6, i6.tr d7, d8⟩
      rw [f_X2_spread_4, if_neg (show ¬ (1 : Int32) = 0 by decide), if_neg (show ¬ (151 : Int32) < nI v from nI_nlt (a := 151) (b := v) (by omega) (by decide)), b1]
      exact d1
theorem spread_c {z : Nat} {O : Nat → Nat} (h : LX b ia fi S kd lf rt) (t : TRL b ia fi S z O) (h1 : 1 ≤ z) : ∃ (ia1 fi1 : Nat → Nat → Int32) (z1 : Nat) (O1 : Nat → Nat), f_X2_spread (b + 33) (wr (SK b) ia fi fl qa f) = some (wr (SK b) ia1 fi1 fl qa f) ∧ (∀ c, c ≠ b + 35 → c ≠ b + 36 → c ≠ b + 38 → ia1 c = ia c) ∧ (∀ c i, c ≠ b + 33 → fi1 c i = fi c i) ∧ TX b z z1 O O1 ia ia1 ∧ TRL b ia1 fi1 S z1 O1 ∧ INF b S kd lf rt ia1 O1 z z1 ∧ cqS S kd lf rt (sB (ia (b + 35)) 0) (sB (ia1 (b + 35)) 0) ∧ ∀ p, 6 ≤ p → p < S → stS kd lf rt (sB (ia1 (b + 35)) 0) p := by
  obtain ⟨qf, hqf⟩ := FU_1000
  have hS := h.2.1.2.1
  exact spread_4 (S - z) 0 FU ia fi z O (Nat.le_refl _) (by omega) (by omega) h t
end SPREAD2
