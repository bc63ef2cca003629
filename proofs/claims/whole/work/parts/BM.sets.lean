/-! THE REFERENCE'S FRAMES: what is given, as bits -/
def gv (b : Nat) (ia : Nat → Nat → Int32) (d : Nat) (Γ : Nat → Bool) : Prop := ∀ w, w < 32 → ∃ X, X < 2 ^ 32 ∧ ia (b + 97) (32 * d + w) = nI X ∧ ∀ j, j < 32 → X.testBit j = Γ (32 * w + j)
def upB (Γ : Nat → Bool) (p : Nat) (x : Bool) : Nat → Bool := fun q => if q = p then x else Γ q
section GIV
variable {b : Nat} {ia fi : Nat → Nat → Int32} {fl : Nat → Nat → Int64} {qa : Nat → Nat → Option Nat} {f : mmF} {op lf rt : Nat → Nat} {P : Nat}
theorem ush_k : ∀ s, s < 32 → (((nI s).toUInt32 &&& Int32.toUInt32 31).toBitVec % 32).toNat = s := by decide +kernel
theorem ush_t {X s : Nat} (hX : X < 2 ^ 32) (hs : s < 32) : mm_ushr (nI X) (nI s) = nI (X / 2 ^ s) := pk_ushrN hX (nI s) s (ush_k s hs)
theorem ix_g {d p : Nat} (hp : p < 1024) : (32 : Int32) * nI d + nI p / (32 : Int32) = nI (32 * d + p / 32) ∧ nI p - nI p / (32 : Int32) * (32 : Int32) = nI (p % 32) := by
  refine ⟨?_, ?_⟩
  · rw [show (32 : Int32) = nI 32 from rfl, pk_mul, pk_div (by omega) (by decide) (by decide), nI_add]
  · rw [show (32 : Int32) = nI 32 from rfl, pk_rem (by omega) (by decide) (by decide)]
theorem has_g {d p : Nat} {Γ : Nat → Bool} (h : gv b ia d Γ) (hd : d < 600) (hp : p < 1024) : f_X10_has (b + 83) (nI d) (nI p) (wr (SK b) ia fi fl qa f) = some (if Γ p = true then 1 else 0) := by
  obtain ⟨e1, e2⟩ := ix_g (d := d) hp
  obtain ⟨X, x1, x2, x3⟩ := h (p / 32) (by omega)
  have hm : p % 32 < 32 := Nat.mod_lt _ (by decide)
  have hx := x3 (p % 32) hm
  rw [Nat.div_add_mod] at hx
  unfold f_X10_has
  simp only [R_83_20, e1, e2, An_97 (show 32 * d + p / 32 < 19200 by omega), x2, Option.bind_some, ush_t x1 hm, bt_one _ (show X / 2 ^ (p % 32) < 2 ^ 32 from Nat.lt_of_le_of_lt (Nat.div_le_self _ _) x1)]
  rw [Nat.testBit_eq_decide_div_mod_eq] at hx
  have h2 : X / 2 ^ (p % 32) % 2 = 0 ∨ X / 2 ^ (p % 32) % 2 = 1 := by omega
  rcases h2 with h2 | h2
  · rw [h2] at hx ⊢
    rw [← hx]
    rfl
  · rw [h2] at hx ⊢
    rw [← hx]
    rfl
theorem gv_up {d p : Nat} {Γ : Nat → Bool} {x : Bool} {X Y : Nat} (h : gv b ia d Γ) (hX : ia (b + 97) (32 * d + p / 32) = nI X) (hp : p < 1024) (hY : Y < 2 ^ 32) (hb : ∀ j, j < 32 → Y.testBit j = if j = p % 32 then x else Γ (32 * (p / 32) + j)) : gv b (u2 ia (b + 97) (32 * d + p / 32) (nI Y)) d (upB Γ p x) := by
  intro w hw
  by_cases e : w = p / 32
  · subst e
    refine ⟨Y, hY, u2_s _ _ _ _, fun j hj => ?_⟩
    rw [hb j hj]
    unfold upB
    by_cases ej : j = p % 32
    · rw [if_pos ej, if_pos (by omega)]
    · rw [if_neg ej, if_neg (by omega)]
  · obtain ⟨Z, z1, z2, z3⟩ := h w hw
    refine ⟨Z, z1, (u2_i _ _ (by omega)).trans z2, fun j hj => ?_⟩
    rw [z3 j hj]
    exact (if_neg (by omega)).symm
theorem gets_g {d p : Nat} {Γ : Nat → Bool} (h : gv b ia d Γ) (hd : d < 600) (hp : p < 1024) : ∃ x, f_X10_gets (b + 83) (nI d) (nI p) (wr (SK b) ia fi fl qa f) = some (wr (SK b) (u2 ia (b + 97) (32 * d + p / 32) x) fi fl qa f) ∧ gv b (u2 ia (b + 97) (32 * d + p / 32) x) d (upB Γ p true) := by
  obtain ⟨e1, e2⟩ := ix_g (d := d) hp
  obtain ⟨X, x1, x2, x3⟩ := h (p / 32) (by omega)
  have hm : p % 32 < 32 := Nat.mod_lt _ (by decide)
  refine ⟨nI (X ||| 2 ^ (p % 32)), ?_, gv_up h x2 hp (or_lt x1 (Nat.pow_lt_pow_right (by decide) hm)) (fun j hj => ?_)⟩
  · unfold f_X10_gets
    simp only [R_83_20, e1, e2, An_97 (show 32 * d + p / 32 < 19200 by omega), x2, Option.bind_some, bt_shl hm, fa_or, sAn_97 (show 32 * d + p / 32 < 19200 by omega)]
  · rw [Nat.testBit_or, Nat.testBit_two_pow, x3 j hj]
    by_cases e : j = p % 32
    · rw [if_pos e, decide_eq_true e.symm, Bool.or_true]
    · rw [if_neg e, decide_eq_false (fun h => e h.symm), Bool.or_false]
theorem loses_g {d p : Nat} {Γ : Nat → Bool} (h : gv b ia d Γ) (hd : d < 600) (hp : p < 1024) : ∃ x, f_X10_loses (b + 83) (nI d) (nI p) (wr (SK b) ia fi fl qa f) = some (wr (SK b) (u2 ia (b + 97) (32 * d + p / 32) x) fi fl qa f) ∧ gv b (u2 ia (b + 97) (32 * d + p / 32) x) d (upB Γ p false) := by
  obtain ⟨e1, e2⟩ := ix_g (d := d) hp
  obtain ⟨X, x1, x2, x3⟩ := h (p / 32) (by omega)
  have hm : p % 32 < 32 := Nat.mod_lt _ (by decide)
  refine ⟨nI (X &&& (4294967295 ^^^ 2 ^ (p % 32))), ?_, gv_up h x2 hp (Nat.lt_of_le_of_lt Nat.and_le_left x1) (fun j hj => ?_)⟩
  · unfold f_X10_loses
    simp only [R_83_20, e1, e2, An_97 (show 32 * d + p / 32 < 19200 by omega), x2, Option.bind_some, bt_shl hm, not32, fa_and, sAn_97 (show 32 * d + p / 32 < 19200 by omega)]
  · rw [Nat.testBit_and, x32_bit _ hj, Nat.testBit_two_pow, x3 j hj]
    by_cases e : j = p % 32
    · rw [if_pos e, decide_eq_true e.symm, Bool.not_true, Bool.and_false]
    · rw [if_neg e, decide_eq_false (fun h => e h.symm), Bool.not_false, Bool.and_true]
theorem gv.cg {ia1 : Nat → Nat → Int32} {d : Nat} {Γ : Nat → Bool} (h : gv b ia d Γ) (e : ∀ w, w < 32 → ia1 (b + 97) (32 * d + w) = ia (b + 97) (32 * d + w)) : gv b ia1 d Γ := fun w hw => by
  obtain ⟨X, x1, x2, x3⟩ := h w hw
  exact ⟨X, x1, (e w hw).trans x2, x3⟩
/-- the reference's own use, above the stack of readings -/
def hE (b : Nat) (ia fi ia1 fi1 : Nat → Nat → Int32) : Prop := (∀ a, a < b + 92 ∨ b + 102 ≤ a → ia1 a = ia a) ∧ ∀ a j, a ≠ b + 83 ∨ j ≠ 19 → fi1 a j = fi a j
theorem hE.rf : hE b ia fi ia fi := ⟨fun _ _ => rfl, fun _ _ _ => rfl⟩
theorem hE.tr {ia1 fi1 ia2 fi2 : Nat → Nat → Int32} (h : hE b ia fi ia1 fi1) (h2 : hE b ia1 fi1 ia2 fi2) : hE b ia fi ia2 fi2 := ⟨fun a ha => (h2.1 a ha).trans (h.1 a ha), fun a j ha => (h2.2 a j ha).trans (h.2 a j ha)⟩
theorem sE.h {ia1 fi1 : Nat → Nat → Int32} (h : sE b ia fi ia1 fi1) : hE b ia fi ia1 fi1 := ⟨fun a ha => h.1 a (by omega), h.2⟩
theorem hE.u {a i : Nat} (x : Int32) (h : b + 92 ≤ a ∧ a < b + 102) : hE b ia fi (u2 ia a i x) fi := ⟨fun c hc => u2_row _ _ (by omega), fun _ _ _ => rfl⟩
theorem MR.hE {Ω : mO} {ia1 fi1 : Nat → Nat → Int32} (h : MR b ia fi Ω) (e : hE b ia fi ia1 fi1) : MR b ia1 fi1 Ω ∧ lowE b ia fi ia1 fi1 := h.scr (fun a ha => e.1 a (by omega)) (fun a j ha => e.2 a j (by omega))
theorem clears_t : ∃ (ia1 fi1 : Nat → Nat → Int32) (op lf rt : Nat → Nat), f_X10_clears (b + 83) (wr (SK b) ia fi fl qa f) = some (wr (SK b) ia1 fi1 fl qa f) ∧ RP b ia1 fi1 2 op lf rt ∧ pE b ia fi ia1 fi1 := by
  have r0 : RP b ia (u2 fi (b + 83) 19 (nI 0)) 0 (fun _ => 0) (fun _ => 0) (fun _ => 0) := ⟨by decide, ⟨u2_s _ _ _ _, fun k hk => absurd hk (Nat.not_lt_zero _)⟩, ⟨fun k hk => absurd hk (Nat.not_lt_zero _), fun p q hp => absurd hp (Nat.not_lt_zero _)⟩, fun d k s w hd => absurd hd (Nat.not_lt_zero _)⟩
  obtain ⟨ia1, fi1, P1, op1, lf1, rt1, r, a1, a2, a3, a4, ⟨a5, a6, a7, a8⟩, a9, a10⟩ := part_t (fl := fl) (qa := qa) (f := f) (o := 4) (x := 0) (y := 0) r0 (Or.inl ⟨by decide, rfl, rfl, rfl⟩) (by decide)
  have e1 : P1 = 1 := by omega
  subst e1
  obtain ⟨ia2, fi2, P2, op2, lf2, rt2, r', b1, b2, b3, b4, ⟨b5, b6, b7, b8⟩, b9, b10⟩ := part_t (fl := fl) (qa := qa) (f := f) (o := 5) (x := 0) (y := 0) a2 (Or.inl ⟨by decide, rfl, rfl, rfl⟩) (by decide)
  have e2 : P2 = 2 := by
    rcases b10 with h | h
    · exfalso
      have h0 : r' = 0 := by omega
      have := b2.2.2.1.1 0 (by omega)
      rw [h0] at b6
      rcases this with h1 | h1 | h1 <;> omega
    · exact h.1
  subst e2
  refine ⟨ia2, fi2, op2, lf2, rt2, ?_, b2, ⟨fun a ha => (b9.1 a ha).trans (a9.1 a ha), fun a j ha => ((b9.2 a j ha).trans (a9.2 a j ha)).trans (by
    rcases ha with ha | ha
    · exact u2_a _ _ ha
    · exact u2_i _ _ ha)⟩⟩
  unfold f_X10_clears
  simp only [show (0 : Int32) = nI 0 from rfl, show (4 : Int32) = nI 4 from rfl, show (5 : Int32) = nI 5 from rfl, sI_83_19, ck_83, a1, b1, Option.bind_some]
end GIV
