/-! THE CLASS LOOKS AT CLAIMS: parts, single stages, nothing found yet -/
def LKA (b : Nat) (ia fi : Nat → Nat → Int32) (K : Nat → Nat) (G : Nat → Nat → Nat) (W S : Nat) (kd lf rt : Nat → Nat) (Pn : Nat → Nat → Nat) : Prop := TK b ia fi K G W S kd lf rt Pn 5 ∧ (∀ p, p < S → ia (b + 30) p = nI (fN kd lf rt (fun _ => 65535) 0 0 p)) ∧ fi (b + 47) 0 = nI 0 ∧ fi (b + 47) 3 = nI 0 ∧ fi (b + 51) 0 = nI 0 ∧ fi (b + 51) 3 = nI 0
section LOOK
variable {b : Nat} {ia fi : Nat → Nat → Int32} {fl : Nat → Nat → Int64} {qa : Nat → Nat → Option Nat} {f : mmF} {Ω : mO}
theorem TK.cg {ia1 fi1 : Nat → Nat → Int32} {K : Nat → Nat} {G : Nat → Nat → Nat} {W S m : Nat} {kd lf rt : Nat → Nat} {Pn : Nat → Nat → Nat} (h : TK b ia fi K G W S kd lf rt Pn m) (e : ∀ a : Nat, b + 23 ≤ a → a ≤ b + 26 → ia1 a = ia a) (e2 : fi1 (b + 22) = fi (b + 22)) : TK b ia1 fi1 K G W S kd lf rt Pn m := by
  obtain ⟨⟨h1, h2, h3⟩, h4, h5, h6, h7⟩ := h
  refine ⟨⟨by rw [e2]; exact h1, fun p hp => by rw [e _ (by omega) (by omega)]; exact h2 p hp, fun p h6 hp => by rw [e _ (by omega) (by omega), e _ (by omega) (by omega)]; exact h3 p h6 hp⟩, h4, h5, by rw [e2]; exact h6, fun p hp => ?_⟩
  rw [e _ (by omega) (by omega)]
  exact h7 p hp
theorem C_look (h : CR b ia fi qa f Ω) (w : WO Ω) {kn W : Nat} (hkn : KNf b f kn) (hW : W < 32) : ∃ (ia1 fi1 : Nat → Nat → Int32) (S : Nat) (kd lf rt : Nat → Nat) (Pn : Nat → Nat → Nat), f_X9_lookAt kn b (nI W) (wr (SK b) ia fi fl qa f) = some (wr (SK b) ia1 fi1 fl qa f) ∧ LKA b ia1 fi1 Ω.1.2.2.2.1 Ω.1.2.2.2.2 W S kd lf rt Pn ∧ CR b ia1 fi1 qa f Ω ∧ highE b ia fi ia1 fi1 := by
  have hb1 : isSt b (b + 1) := Or.inl rfl
  obtain ⟨ia1, fi1, S, kd, lf, rt, Pn, z1, z2, z3, z4⟩ := C_take (fl := fl) h w hW
  have h29 : ∀ p, p < S → ia1 (b + 29) p = nI 65535 ∧ (65535 : Nat) < 65536 := fun p hp => ⟨z3.2.2.2.2.2.2.2.2.2 p (by have := z2.2.1.2.1; omega), by decide⟩
  obtain ⟨R1, y1, y2⟩ := c_fillR (fl := fl) (qa := qa) (r := 30) (h := 29) (Bh := fun _ => 65535) (one := 0) (oth := 0) hkn (Or.inl rfl) (Or.inl rfl) (by decide) z2.1 z2.2.1 h29 (by decide) (by decide)
  have hS := z3.scr2 (ia1 := rw2 ia1 (b + 30) R1) (fi1 := u2 (u2 (u2 (u2 fi1 (b + 47) 0 0) (b + 47) 3 0) (b + 51) 0 0) (b + 51) 3 0) (fun a ha => rw2_n _ _ (by omega)) (fun i hi => by rw [rw2_n _ _ (by omega)]) (fun a j ha => by rw [u2_a _ _ (by omega), u2_a _ _ (by omega), u2_a _ _ (by omega), u2_a _ _ (by omega)])
  refine ⟨rw2 ia1 (b + 30) R1, u2 (u2 (u2 (u2 fi1 (b + 47) 0 0) (b + 47) 3 0) (b + 51) 0 0) (b + 51) 3 0, S, kd, lf, rt, Pn, ?_, ⟨z2.cg (fun a h1 h2 => rw2_n _ _ (by omega)) (by rw [u2_row _ _ (by omega), u2_row _ _ (by omega), u2_row _ _ (by omega), u2_row _ _ (by omega)]), fun p hp => by rw [rw2_s]; exact y2 p hp, ?_, ?_, ?_, ?_⟩, hS.1, z4.tr hS.2⟩
  · have e3 : ldR (wr (SK b) ia fi fl qa f) (b + 1) 7 3 = some (b + 4) := S_R3 hb1
    have y1' : f_X6_fill kn (b + 21) (b + 30) (b + 29) 0 0 (wr (SK b) ia1 fi1 fl qa f) = some (wr (SK b) (rw2 ia1 (b + 30) R1) fi1 fl qa f) := y1
    unfold f_X9_lookAt f_X6_fillSingle f_X5_startAnew f_X1_clear
    simp only [R_0_8, R_0_0, e3, ck_22, z1, Option.bind_some, R_0_7, ck_21, R_21_1, R_21_2, y1', R_0_6, ck_20, R_20_8, ck_47, sI_47_0, sI_47_3, R_20_9, ck_51, sI_51_0, sI_51_3]
  · rw [u2_a _ _ (by omega), u2_a _ _ (by omega), u2_i _ _ (by decide), u2_s]; rfl
  · rw [u2_a _ _ (by omega), u2_a _ _ (by omega), u2_s]; rfl
  · rw [u2_i _ _ (by decide), u2_s]; rfl
  · rw [u2_s]; rfl
theorem LKA.with {ia1 : Nat → Nat → Int32} {K : Nat → Nat} {G : Nat → Nat → Nat} {W S : Nat} {kd lf rt : Nat → Nat} {Pn : Nat → Nat → Nat} (h : LKA b ia fi K G W S kd lf rt Pn) (e : ∀ a : Nat, a ≠ b + 7 → ia1 a = ia a) : LKA b ia1 fi K G W S kd lf rt Pn :=
  ⟨h.1.cg (fun a h1 h2 => e a (by omega)) rfl, fun p hp => by rw [e _ (by omega)]; exact h.2.1 p hp, h.2.2⟩
end LOOK
