/-! THE REFERENCE'S SEARCH: the next frame, the next part of a kind -/
section LEADS
variable {b : Nat} {ia fi : Nat → Nat → Int32} {fl : Nat → Nat → Int64} {qa : Nat → Nat → Option Nat} {f : mmF} {op lf rt : Nat → Nat} {P : Nat}
/-- frame d + 1 begins: given as frame d, goal x -/
def leadR (b d : Nat) (x : Int32) (i : Nat) (ia ia1 : Nat → Nat → Int32) : Prop := (∀ w, i ≤ w → w < 32 → ia1 (b + 97) (32 * d + 32 + w) = ia (b + 97) (32 * d + w)) ∧ (∀ j, (j < 32 * d + 32 + i ∨ 32 * d + 64 ≤ j) → ia1 (b + 97) j = ia (b + 97) j) ∧ (ia1 (b + 98) (d + 1) = x ∧ ia1 (b + 99) (d + 1) = 0) ∧ (∀ j, j ≠ d + 1 → ia1 (b + 98) j = ia (b + 98) j ∧ ia1 (b + 99) j = ia (b + 99) j) ∧ ∀ a, a ≠ b + 97 → a ≠ b + 98 → a ≠ b + 99 → ia1 a = ia a
theorem leads_2 {d : Nat} {x : Int32} (hd : d + 1 < 600) : ∀ (m i q : Nat) (ia : Nat → Nat → Int32), i + m = 32 → m < q → ∃ ia1 : Nat → Nat → Int32, f_X10_leadsOn_2 q (b + 83) (nI d) x (nI i) (wr (SK b) ia fi fl qa f) = some (wr (SK b) ia1 fi fl qa f) ∧ leadR b d x i ia ia1 := by
  intro m
  induction m with
  | zero =>
    intro i q ia hi hq
    obtain ⟨q, rfl⟩ : ∃ k, q = k + 1 := ⟨q - 1, by omega⟩
    have hi : i = 32 := by omega
    subst hi
    rw [f_X10_leadsOn_2, if_pos (show (32 : Int32) ≤ nI 32 by decide)]
    simp only [R_83_21, R_83_22, nI_1, sAn_98 hd, sAn_99 hd, Option.bind_some]
    refine ⟨_, rfl, fun w h1 h2 => absurd h1 (by omega), fun j _ => ?_, ⟨?_, u2_s _ _ _ _⟩, fun j hj => ⟨?_, ?_⟩, fun a h1 h2 h3 => ?_⟩
    · rw [u2_a _ _ (by omega), u2_a _ _ (by omega)]
    · rw [u2_a _ _ (by omega)]; exact u2_s _ _ _ _
    · rw [u2_a _ _ (by omega), u2_i _ _ hj]
    · rw [u2_i _ _ hj, u2_a _ _ (by omega)]
    · rw [u2_row _ _ h3, u2_row _ _ h2]
  | succ m ih =>
    intro i q ia hi hq
    obtain ⟨q, rfl⟩ : ∃ k, q = k + 1 := ⟨q - 1, by omega⟩
    have e1 : (32 : Int32) * nI d + nI i = nI (32 * d + i) := by rw [show (32 : Int32) = nI 32 from rfl, pk_mul, nI_add]
    have e2 : (32 : Int32) * nI d + (32 : Int32) + nI i = nI (32 * d + 32 + i) := by rw [show (32 : Int32) = nI 32 from rfl, pk_mul, nI_add, nI_add]
    rw [f_X10_leadsOn_2, if_neg (show ¬ (32 : Int32) ≤ nI i from nI_ge (a := i) (b := 32) (by omega) (by decide))]
    simp only [R_83_20, e1, e2, An_97 (show 32 * d + i < 19200 by omega), sAn_97 (show 32 * d + 32 + i < 19200 by omega), nI_1, Option.bind_some]
    obtain ⟨ia1, a1, a2, a3, a4, a5, a6⟩ := ih (i + 1) q (u2 ia (b + 97) (32 * d + 32 + i) (ia (b + 97) (32 * d + i))) (by omega) (by omega)
    refine ⟨ia1, a1, fun w h1 h2 => ?_, fun j hj => ?_, a4, fun j hj => ⟨?_, ?_⟩, fun a h1 h2 h3 => ?_⟩
    · by_cases e : w = i
      · subst e
        rw [a3 _ (by omega)]; exact u2_s _ _ _ _
      · rw [a2 w (by omega) h2, u2_i _ _ (by omega)]
    · rw [a3 j (by omega), u2_i _ _ (by omega)]
    · rw [(a5 j hj).1, u2_a _ _ (by omega)]
    · rw [(a5 j hj).2, u2_a _ _ (by omega)]
    · rw [a6 a h1 h2 h3, u2_row _ _ h1]
theorem leads_t {d : Nat} {x : Int32} (hd : d + 1 < 600) : ∃ ia1 : Nat → Nat → Int32, f_X10_leadsOn (b + 83) (nI d) x (wr (SK b) ia fi fl qa f) = some (wr (SK b) ia1 fi fl qa f) ∧ leadR b d x 0 ia ia1 := by
  obtain ⟨q, hq⟩ := FU_1000
  obtain ⟨ia1, a1, a2⟩ := leads_2 (b := b) (fi := fi) (fl := fl) (qa := qa) (f := f) (x := x) hd 32 0 FU ia (by omega) (by omega)
  exact ⟨ia1, a1, a2⟩
theorem leadR.nxt {d : Nat} {x : Int32} {ia1 : Nat → Nat → Int32} {Γ : Nat → Bool} (h : leadR b d x 0 ia ia1) (g : gv b ia d Γ) : gv b ia1 (d + 1) Γ := fun w hw => by
  obtain ⟨X, x1, x2, x3⟩ := g w hw
  refine ⟨X, x1, ?_, x3⟩
  rw [show 32 * (d + 1) + w = 32 * d + 32 + w by omega, h.1 w (Nat.zero_le _) hw]
  exact x2
theorem leadR.old {d e : Nat} {x : Int32} {ia1 : Nat → Nat → Int32} {Γ : Nat → Bool} (h : leadR b d x 0 ia ia1) (he : e ≤ d) (g : gv b ia e Γ) : gv b ia1 e Γ := g.cg (fun w hw => h.2.1 _ (by omega))
/-- the parts' table stays -/
theorem RP.fr {ia1 : Nat → Nat → Int32} (h : RP b ia fi P op lf rt) (e : ∀ a, b + 93 ≤ a → a < b + 97 → ia1 a = ia a) : RP b ia1 fi P op lf rt := by
  obtain ⟨h1, ⟨h2, h3⟩, h4, h5⟩ := h
  refine ⟨h1, ⟨h2, fun k hk => ?_⟩, h4, fun d k s w hd hk hs hw => ?_⟩
  · rw [e (b + 93) (by omega) (by omega), e (b + 94) (by omega) (by omega), e (b + 95) (by omega) (by omega)]
    exact h3 k hk
  · rw [e (b + 96) (by omega) (by omega)]
    exact h5 d k s w hd hk hs hw
theorem leadR.rp {d : Nat} {x : Int32} {ia1 : Nat → Nat → Int32} {i : Nat} (h : leadR b d x i ia ia1) (r : RP b ia fi P op lf rt) : RP b ia1 fi P op lf rt := r.fr (fun a h1 h2 => h.2.2.2.2 a (by omega) (by omega) (by omega))
theorem leadR.keeps {d : Nat} {x : Int32} {ia1 : Nat → Nat → Int32} {i : Nat} (h : leadR b d x i ia ia1) : hE b ia fi ia1 fi := ⟨fun a ha => h.2.2.2.2 a (by omega) (by omega) (by omega), fun _ _ _ => rfl⟩
end LEADS
