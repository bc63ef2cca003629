/-! THE CLASS: the parts of some places' claims; where a part holds -/
def selP (K : Nat → Nat) (W p : Nat) : Prop := 0 < K p ∧ W.testBit p = true
noncomputable def ULp (K : Nat → Nat) (G : Nat → Nat → Nat) (W : Nat) : Nat → Nat
  | 0 => 0
  | p + 1 => @ite Nat (selP K W p) (Classical.propDecidable _) (uLf (G p) (ULp K G W p) (K p)) (ULp K G W p)
/-- every part is a part of a claim -/
def SJ (K : Nat → Nat) (_G : Nat → Nat → Nat) (W S : Nat) (Pn : Nat → Nat → Nat) (m : Nat) : Prop := ∀ r, 6 ≤ r → r < S → ∃ p j, p < m ∧ selP K W p ∧ j < K p ∧ Pn p j = r
/-- the parts of some places, as taken -/
def TK (b : Nat) (ia fi : Nat → Nat → Int32) (K : Nat → Nat) (G : Nat → Nat → Nat) (W S : Nat) (kd lf rt : Nat → Nat) (Pn : Nat → Nat → Nat) (m : Nat) : Prop := PTm b ia fi S kd lf rt ∧ PTo S kd lf rt ∧ (S ≤ 6 + 29 * m ∧ SJ K G W S Pn m) ∧ fi (b + 22) 5 = nI (ULp K G W m) ∧ ∀ p, p < m → (selP K W p ∧ NP (G p) S kd lf rt (Pn p) (K p) ∧ ia (b + 26) p = nI (Pn p (K p - 1))) ∨ (¬ selP K W p ∧ ia (b + 26) p = nI 4)
section TAKE
variable {b : Nat} {ia fi : Nat → Nat → Int32} {fl : Nat → Nat → Int64} {qa : Nat → Nat → Option Nat} {f : mmF} {K : Nat → Nat} {G : Nat → Nat → Nat}
theorem take_lp (hsh : CSh b qa f (b + 1) K G) (hV : ∀ p, p < 5 → 0 < K p → VC (K p) (G p)) {W : Nat} (hW : W < 32) : ∀ (m p q : Nat) (ia fi : Nat → Nat → Int32) (S : Nat) (kd lf rt : Nat → Nat) (Pn : Nat → Nat → Nat), p + m = 5 → m < q → TK b ia fi K G W S kd lf rt Pn p → ∃ (ia1 fi1 : Nat → Nat → Int32) (S1 : Nat) (kd1 lf1 rt1 : Nat → Nat) (Pn1 : Nat → Nat → Nat), f_X4_take_13 q (b + 22) (b + 4) (nI W) (nI p) (wr (SK b) ia fi fl qa f) = some (wr (SK b) ia1 fi1 fl qa f) ∧ TK b ia1 fi1 K G W S1 kd1 lf1 rt1 Pn1 5 ∧ (∀ a : Nat, a < b + 23 ∨ b + 28 ≤ a → ia1 a = ia a) ∧ ∀ a : Nat, a ≠ b + 22 → fi1 a = fi a := by
  obtain ⟨qf, hqf⟩ := FU_1000
  intro m
  induction m with
  | zero =>
    intro p q ia fi S kd lf rt Pn hp hq hT
    obtain ⟨q, rfl⟩ : ∃ k, q = k + 1 := ⟨q - 1, by omega⟩
    have hp5 : p = 5 := by omega
    subst hp5
    refine ⟨ia, fi, S, kd, lf, rt, Pn, ?_, hT, fun a _ => rfl, fun a _ => rfl⟩
    rw [f_X4_take_13, if_pos (show (5 : Int32) ≤ nI 5 by decide)]
  | succ m ih =>
    intro p q ia fi S kd lf rt Pn hp hq hT
    obtain ⟨q, rfl⟩ : ∃ k, q = k + 1 := ⟨q - 1, by omega⟩
    have hp5 : p < 5 := by omega
    have e5 : ¬ (5 : Int32) ≤ nI p := nI_ge (b := 5) hp5 (by decide)
    have e5' : ¬ nI 5 ≤ nI p := nI_ge (b := 5) hp5 (by decide)
    obtain ⟨t1, t2, t3, t4, t5⟩ := hT
    have hUL : ULp K G W (p + 1) = @ite Nat (selP K W p) (Classical.propDecidable _) (uLf (G p) (ULp K G W p) (K p)) (ULp K G W p) := rfl
    -- a place that is not asked for
    have no : ¬ selP K W p → ∃ (ia1 fi1 : Nat → Nat → Int32) (S1 : Nat) (kd1 lf1 rt1 : Nat → Nat) (Pn1 : Nat → Nat → Nat), f_X4_take_56 (fun a0 a1 a2 a3 a4 => f_X4_take_13 q a0 a1 a2 a3 a4) (b + 22) (b + 4) (nI W) (nI p) (b + 26) (nI p) (wr (SK b) ia fi fl qa f) = some (wr (SK b) ia1 fi1 fl qa f) ∧ TK b ia1 fi1 K G W S1 kd1 lf1 rt1 Pn1 5 ∧ (∀ a : Nat, a < b + 23 ∨ b + 28 ≤ a → ia1 a = ia a) ∧ ∀ a : Nat, a ≠ b + 22 → fi1 a = fi a := by
      intro hsel
      obtain ⟨ia1, fi1, S1, kd1, lf1, rt1, Pn1, z1, z2, z3, z4⟩ := ih (p + 1) q (u2 ia (b + 26) p 4) fi S kd lf rt Pn (by omega) (by omega) ⟨⟨t1.1, fun j hj => by rw [u2_a _ _ (by omega)]; exact t1.2.1 j hj, fun j h6 hj => by rw [u2_a _ _ (by omega), u2_a _ _ (by omega)]; exact t1.2.2 j h6 hj⟩, t2, ⟨by omega, fun r h1 h2 => by
          obtain ⟨p', j', a1, a2, a3, a4⟩ := t3.2 r h1 h2
          exact ⟨p', j', by omega, a2, a3, a4⟩⟩, by rw [hUL, if_neg hsel]; exact t4, fun j hj => by
        by_cases hjp : j = p
        · subst hjp
          exact Or.inr ⟨hsel, u2_s _ _ _ _⟩
        · rw [u2_i _ _ hjp]
          exact t5 j (by omega)⟩
      refine ⟨ia1, fi1, S1, kd1, lf1, rt1, Pn1, ?_, z2, fun a ha => by rw [z3 a ha, u2_row _ _ (by omega)], z4⟩
      unfold f_X4_take_56 f_X4_take_57
      simp only [sAn_26 hp5, Option.bind_some, nI_1]
      exact z1
    rw [f_X4_take_13, if_neg e5]
    simp only [L_4, Option.bind_some, if_neg e5', Q_4 hp5, R_22_4]
    rcases hsh p hp5 with ⟨h0, h1⟩ | ⟨h0, c, h1, hc⟩
    · rw [show qa (b + 4) p = none from h1]
      simp only [qc]
      exact no (fun hs => by have := hs.1; omega)
    · rw [show qa (b + 4) p = some c from h1]
      simp only [qc, has_eq, Option.bind_some]
      cases hb : W.testBit p with
      | false =>
        rw [if_pos ((bt_0 (Nat.lt_trans hW (by decide)) (by omega)).mpr hb), if_pos rfl]
        exact no (fun hs => by have := hs.2; rw [hb] at this; cases this)
      | true =>
        have hne : ¬ ((nI W >>> (nI p &&& 31)) &&& 1) = (0 : Int32) := fun e => by
          rw [bt_0 (Nat.lt_trans hW (by decide)) (by omega), hb] at e
          cases e
        rw [if_neg hne, if_neg (by decide)]
        have hsel : selP K W p := ⟨h0, hb⟩
        have hv := hV p hp5 h0
        obtain ⟨ia1, fi1, S1, kd1, lf1, rt1, Pn1, y1, y2, y3, y4, y5, y6, y7, y8, y9⟩ := add_lp (fl := fl) (qa := qa) hc hv (S0 := S) (U0 := ULp K G W p) (by have := t3.1; omega) (K p) 0 FU ia fi S kd lf rt (fun _ => 0) (by omega) (by have := hv.2.1; omega) t1 t2 (fun j hj => absurd hj (by omega)) (Or.inl ⟨rfl, rfl⟩) (fun r h1 h2 => absurd h2 (by omega)) t4 (fun d hd => absurd hd (Nat.not_lt_zero _))
        have y1' : f_X4_add (b + 22) c (wr (SK b) ia fi fl qa f) = some (nI (Pn1 (K p - 1)), wr (SK b) ia1 fi1 fl qa f) := y1
        obtain ⟨ia2, fi2, S2, kd2, lf2, rt2, Pn2, z1, z2, z3, z4⟩ := ih (p + 1) q (u2 ia1 (b + 26) p (nI (Pn1 (K p - 1)))) fi1 S1 kd1 lf1 rt1 (rw2 Pn p Pn1) (by omega) (by omega) ⟨⟨y2.1, fun j hj => by rw [u2_a _ _ (by omega)]; exact y2.2.1 j hj, fun j h6 hj => by rw [u2_a _ _ (by omega), u2_a _ _ (by omega)]; exact y2.2.2 j h6 hj⟩, y3, ⟨by have := hv.2.1; have := t3.1; omega, fun r h1 h2 => by
          by_cases hrS : r < S
          · obtain ⟨p', j', a1, a2, a3, a4⟩ := t3.2 r h1 hrS
            exact ⟨p', j', by omega, a2, a3, by rw [rw2_n _ _ (by omega)]; exact a4⟩
          · obtain ⟨j, a1, a2⟩ := y6.2 r (by omega) h2
            exact ⟨p, j, by omega, hsel, a1, by rw [rw2_s]; exact a2⟩⟩, by rw [hUL, if_pos hsel]; exact y7, fun j hj => by
          by_cases hjp : j = p
          · subst hjp
            refine Or.inl ⟨hsel, ?_, ?_⟩
            · rw [rw2_s]; exact y5
            · rw [rw2_s, u2_s]
          · rw [u2_i _ _ hjp, y8 _ (by omega), rw2_n _ _ hjp]
            rcases t5 j (by omega) with ⟨s1, s2, s3⟩ | s1
            · exact Or.inl ⟨s1, s2.ex y4, s3⟩
            · exact Or.inr s1⟩
        refine ⟨ia2, fi2, S2, kd2, lf2, rt2, Pn2, ?_, z2, fun a ha => by rw [z3 a ha, u2_row _ _ (by omega), y8 a (by omega)], fun a ha => by rw [z4 a ha, y9 a ha]⟩
        simp only [ck_22, y1', Option.bind_some]
        unfold f_X4_take_57
        simp only [sAn_26 hp5, Option.bind_some, nI_1]
        exact z1
theorem take_ok (hsh : CSh b qa f (b + 1) K G) (hV : ∀ p, p < 5 → 0 < K p → VC (K p) (G p)) (hc : ∀ i, i < 6 → ia (b + 23) i = nI i) {W : Nat} (hW : W < 32) : ∃ (ia1 fi1 : Nat → Nat → Int32) (S1 : Nat) (kd1 lf1 rt1 : Nat → Nat) (Pn1 : Nat → Nat → Nat), f_X4_take (b + 22) (b + 4) (nI W) (wr (SK b) ia fi fl qa f) = some (wr (SK b) ia1 fi1 fl qa f) ∧ TK b ia1 fi1 K G W S1 kd1 lf1 rt1 Pn1 5 ∧ (∀ a : Nat, a < b + 23 ∨ b + 28 ≤ a → ia1 a = ia a) ∧ ∀ a : Nat, a ≠ b + 22 → fi1 a = fi a := by
  obtain ⟨qf, hqf⟩ := FU_1000
  obtain ⟨ia1, fi1, S1, kd1, lf1, rt1, Pn1, z1, z2, z3, z4⟩ := take_lp (fl := fl) hsh hV hW 5 0 FU ia (u2 (u2 fi (b + 22) 0 6) (b + 22) 5 0) 6 (fun p => p) (fun _ => 0) (fun _ => 0) (fun _ _ => 0) (by omega) (by omega) ⟨⟨by rw [u2_i _ _ (by decide), u2_s]; rfl, fun j hj => hc j hj, fun j h6 hj => absurd hj (by omega)⟩, ⟨by decide, by decide, fun j hj => rfl, fun j h6 hj => absurd hj (by omega), fun j j2 h6 hj => absurd hj (by omega)⟩, ⟨by decide, fun r h1 h2 => absurd h2 (by omega)⟩, by rw [u2_s]; rfl, fun j hj => absurd hj (by omega)⟩
  refine ⟨ia1, fi1, S1, kd1, lf1, rt1, Pn1, ?_, z2, z3, fun a ha => by rw [z4 a ha, u2_row _ _ ha, u2_row _ _ ha]⟩
  unfold f_X4_take
  simp only [sI_22_0, sI_22_5, Option.bind_some]
  exact z1
end TAKE
