/-! THE CLASS'S TRIALS -/
/-- what must not hold goes on to parts -/
def dcl (kd lf rt : Nat → Nat) (K D : Nat → Bool) (p : Nat) : Prop := (K p = true → (kd p = 9 ∨ kd p = 6) → K (rt p) = false → D (lf p) = true) ∧ (K p = false → D p = true → ¬ (kd p = 9 ∨ kd p = 6) → D (lf p) = true ∧ D (rt p) = true) ∧ (K p = false → D p = true → (kd p = 9 ∨ kd p = 6) → K (lf p) = true → D (rt p) = true)
/-- a part to be tried -/
def triB (kd lf : Nat → Nat) (K D : Nat → Bool) (p : Nat) : Prop := D p = true ∧ (kd p = 9 ∨ kd p = 6) ∧ K p = false ∧ K (lf p) = false
section TRIAL
variable {b : Nat} {ia fi : Nat → Nat → Int32} {fl : Nat → Nat → Int64} {qa : Nat → Nat → Option Nat} {f : mmF} {S : Nat} {kd lf rt : Nat → Nat}
theorem dcl.up {K D D1 : Nat → Bool} {p : Nat} (h : dcl kd lf rt K D p) (e : D1 p = D p) (m : ∀ q, D q = true → D1 q = true) : dcl kd lf rt K D1 p := ⟨fun a1 a2 a3 => m _ (h.1 a1 a2 a3), fun a1 a2 a3 => ⟨m _ (h.2.1 a1 (e ▸ a2) a3).1, m _ (h.2.1 a1 (e ▸ a2) a3).2⟩, fun a1 a2 a3 a4 => m _ (h.2.2 a1 (e ▸ a2) a3 a4)⟩
/-- what must not hold, with all that is no part -/
def dB (ia : Nat → Nat → Int32) (b j : Nat) : Nat → Bool := fun r => sB (ia (b + 43)) j r || decide (192 ≤ r)
theorem dB_s {j r : Nat} (h : r < 192) : dB ia b j r = sB (ia (b + 43)) j r := by
  unfold dB
  rw [decide_eq_false (by omega), Bool.or_false]
theorem doubt_28 {j : Nat} (hj : j < 153) : ∀ (t q : Nat) (ia : Nat → Nat → Int32), LX b ia fi S kd lf rt → 5 + t < S → t < q → (∀ p, 5 + t < p → p < S → dcl kd lf rt (sB (ia (b + 35)) 0) (dB ia b j) p) → ∃ ia1, f_X5_doubt_28 q (b + 20) (nI j) (nI (5 + t)) (wr (SK b) ia fi fl qa f) = some (wr (SK b) ia1 fi fl qa f) ∧ sEw ia ia1 (b + 43) j (sB (ia1 (b + 43)) j) ∧ (∀ q, q < 192 → sB (ia (b + 43)) j q = true → sB (ia1 (b + 43)) j q = true) ∧ ∀ p, 6 ≤ p → p < S → dcl kd lf rt (sB (ia (b + 35)) 0) (dB ia1 b j) p := by
  intro t
  induction t with
  | zero =>
    intro q ia h ht hq hd
    obtain ⟨q, rfl⟩ : ∃ k, q = k + 1 := ⟨q - 1, by omega⟩
    refine ⟨ia, ?_, sEw.rf j, fun _ _ h => h, fun p h6 hp => hd p (by omega) hp⟩
    rw [f_X5_doubt_28, if_pos (show nI (5 + 0) < (6 : Int32) by decide)]
  | succ t ih =>
    intro q ia h ht hq hd
    obtain ⟨q, rfl⟩ : ∃ k, q = k + 1 := ⟨q - 1, by omega⟩
    have ho := h.2.1
    have hS := ho.2.1
    have h6 : 6 ≤ 5 + (t + 1) := by omega
    obtain ⟨o1, o2, o3, o4, o5⟩ := ho.2.2.2.1 (5 + (t + 1)) h6 ht
    have hm := h.1.2.2 (5 + (t + 1)) h6 ht
    have h151 : 5 + (t + 1) < 151 := by omega
    -- go on, with a set of doubts that grew below
    have next : ∀ ia1 : Nat → Nat → Int32, sEw ia ia1 (b + 43) j (sB (ia1 (b + 43)) j) → (∀ r, r < 192 → sB (ia (b + 43)) j r = true → sB (ia1 (b + 43)) j r = true) → (∀ r, 5 + (t + 1) ≤ r → r < 192 → sB (ia1 (b + 43)) j r = sB (ia (b + 43)) j r) → dcl kd lf rt (sB (ia (b + 35)) 0) (dB ia1 b j) (5 + (t + 1)) → ∃ ia2, f_X5_doubt_171 (fun a0 a1 a2 a3 => f_X5_doubt_28 q a0 a1 a2 a3) (b + 20) (nI j) (nI (5 + (t + 1))) (wr (SK b) ia1 fi fl qa f) = some (wr (SK b) ia2 fi fl qa f) ∧ sEw ia ia2 (b + 43) j (sB (ia2 (b + 43)) j) ∧ (∀ q, q < 192 → sB (ia (b + 43)) j q = true → sB (ia2 (b + 43)) j q = true) ∧ ∀ p, 6 ≤ p → p < S → dcl kd lf rt (sB (ia (b + 35)) 0) (dB ia2 b j) p := by
      intro ia1 e1 e2 e3 e4
      have eK : ia1 (b + 35) = ia (b + 35) := e1.1 _ (by omega)
      obtain ⟨ia2, a1, a2, a3, a4⟩ := ih q ia1 ((e1.L (j := j) (fi := fi) (Or.inr (Or.inl rfl)) (Nat.le_refl j)).lx h) (by omega) (by omega) (fun p hp hpS => by
        rw [eK]
        by_cases e : p = 5 + (t + 1)
        · subst e; exact e4
        · refine (hd p (by omega) hpS).up ?_ (fun r hr => ?_)
          · rw [dB_s (by omega), dB_s (by omega), e3 p (by omega) (by omega)]
          · by_cases hr2 : r < 192
            · rw [dB_s hr2] at hr ⊢
              exact e2 r hr2 hr
            · unfold dB
              rw [decide_eq_true (show 192 ≤ r by omega), Bool.or_true])
      rw [eK] at a4
      refine ⟨ia2, ?_, e1.tr a2, fun r hr hk => a3 r hr (e2 r hr hk), a4⟩
      unfold f_X5_doubt_171
      rw [show nI (5 + (t + 1)) + (-1 : Int32) = nI (5 + t) from pk_m1 (5 + t)]
      exact a1
    have keep := next ia (sEw.rf j) (fun _ _ h => h) (fun _ _ _ => rfl)
    have set1' : ∀ (ia : Nat → Nat → Int32) (r : Nat), r < 5 + (t + 1) → ∃ ia1, f_X3_add (b + 42) (nI j) (nI r) (wr (SK b) ia fi fl qa f) = some (wr (SK b) ia1 fi fl qa f) ∧ sEw ia ia1 (b + 43) j (upB (sB (ia (b + 43)) j) r true) := fun ia r hr => add_s (PS_D b) hj (show r < 192 by omega)
    have D0 : ∀ r, r < S → sB (ia (b + 43)) j r = false → ¬ dB ia b j r = true := fun r hr h0 h1 => by
      rw [dB_s (by omega), h0] at h1
      cases h1
    rw [f_X5_doubt_28, if_neg (show ¬ nI (5 + (t + 1)) < (6 : Int32) from nI_nlt (a := 5 + (t + 1)) (b := 6) (by omega) (by omega))]
    simp only [R_20_1, R_22_2, R_22_3, An_24 h151, An_25 h151, hm.1, hm.2, R_20_2, ck_33, k_has (show 5 + (t + 1) < 192 by omega), R_20_5, ps_ck (PS_D b), has_s (PS_D b) hj (show 5 + (t + 1) < 192 by omega), ck_22, isIf_c h ht, k_has (show lf (5 + (t + 1)) < 192 by omega), k_has (show rt (5 + (t + 1)) < 192 by omega), Option.bind_some, b01]
    cases hp : sB (ia (b + 35)) 0 (5 + (t + 1)) with
    | false =>
      rw [if_pos (rfl : false = false)]
      cases hD : sB (ia (b + 43)) j (5 + (t + 1)) with
      | false =>
        rw [if_pos (rfl : false = false)]
        exact keep ⟨fun h => (by rw [hp] at h; cases h), fun _ h => absurd h (D0 _ ht hD), fun _ h => absurd h (D0 _ ht hD)⟩
      | true =>
        rw [if_neg (show ¬ true = false by decide)]
        by_cases cif : kd (5 + (t + 1)) = 9 ∨ kd (5 + (t + 1)) = 6
        · rw [if_pos cif, if_neg (show ¬ (1 : Int32) = 0 by decide)]
          cases hl : sB (ia (b + 35)) 0 (lf (5 + (t + 1))) with
          | false =>
            rw [if_pos (rfl : false = false)]
            exact keep ⟨fun h => (by rw [hp] at h; cases h), fun _ _ h => absurd cif h, fun _ _ _ h => (by rw [hl] at h; cases h)⟩
          | true =>
            rw [if_neg (show ¬ true = false by decide)]
            obtain ⟨ia1, a1, a2⟩ := set1' ia (rt (5 + (t + 1))) o4
            simp only [a1, Option.bind_some]
            refine next ia1 (a2.ext (fun q hq => (a2.2.2 q hq).symm)) (fun r hr hk => by rw [a2.2.2 r hr]; exact upB_le hk) (fun r h1 h2 => by rw [a2.2.2 r h2]; unfold upB; rw [if_neg (by omega)]) ⟨fun h => (by rw [hp] at h; cases h), fun _ _ h => absurd cif h, fun _ _ _ _ => ?_⟩
            rw [dB_s (by omega), a2.2.2 _ (by omega)]
            exact upB_s _ _ _
        · rw [if_neg cif, if_pos rfl]
          obtain ⟨ia1, a1, a2⟩ := set1' ia (lf (5 + (t + 1))) o3
          obtain ⟨ia2, b1, b2⟩ := set1' ia1 (rt (5 + (t + 1))) o4
          simp only [a1, b1, R_20_5, ps_ck (PS_D b), Option.bind_some]
          refine next ia2 (a2.tr (b2.ext (fun q hq => (b2.2.2 q hq).symm))) (fun r hr hk => by rw [b2.2.2 r hr]; exact upB_le (by rw [a2.2.2 r hr]; exact upB_le hk)) (fun r h1 h2 => by rw [b2.2.2 r h2]; unfold upB; rw [if_neg (by omega), a2.2.2 r h2]; unfold upB; rw [if_neg (by omega)]) ⟨fun h => (by rw [hp] at h; cases h), fun _ _ _ => ⟨?_, ?_⟩, fun _ _ h => absurd h cif⟩
          · rw [dB_s (by omega), b2.2.2 _ (by omega)]
            exact upB_le (by rw [a2.2.2 _ (by omega)]; exact upB_s _ _ _)
          · rw [dB_s (by omega), b2.2.2 _ (by omega)]
            exact upB_s _ _ _
    | true =>
      rw [if_neg (show ¬ true = false by decide)]
      by_cases cif : kd (5 + (t + 1)) = 9 ∨ kd (5 + (t + 1)) = 6
      · rw [if_pos cif, if_neg (show ¬ (1 : Int32) = 0 by decide)]
        cases hr : sB (ia (b + 35)) 0 (rt (5 + (t + 1))) with
        | true =>
          rw [if_neg (show ¬ true = false by decide)]
          exact keep ⟨fun _ _ h => (by rw [hr] at h; cases h), fun h => (by rw [hp] at h; cases h), fun h => (by rw [hp] at h; cases h)⟩
        | false =>
          rw [if_pos (rfl : false = false)]
          obtain ⟨ia1, a1, a2⟩ := set1' ia (lf (5 + (t + 1))) o3
          simp only [a1, Option.bind_some]
          refine next ia1 (a2.ext (fun q hq => (a2.2.2 q hq).symm)) (fun r hr hk => by rw [a2.2.2 r hr]; exact upB_le hk) (fun r h1 h2 => by rw [a2.2.2 r h2]; unfold upB; rw [if_neg (by omega)]) ⟨fun _ _ _ => ?_, fun h => (by rw [hp] at h; cases h), fun h => (by rw [hp] at h; cases h)⟩
          rw [dB_s (by omega), a2.2.2 _ (by omega)]
          exact upB_s _ _ _
      · rw [if_neg cif, if_pos rfl]
        exact keep ⟨fun _ h => absurd h cif, fun h => (by rw [hp] at h; cases h), fun h => (by rw [hp] at h; cases h)⟩
theorem doubt_c {j g : Nat} (hj : j < 153) (h : LX b ia fi S kd lf rt) (hg : g < S) : ∃ ia1, f_X5_doubt (b + 20) (nI j) (nI g) (wr (SK b) ia fi fl qa f) = some (wr (SK b) ia1 fi fl qa f) ∧ sEw ia ia1 (b + 43) j (sB (ia1 (b + 43)) j) ∧ sB (ia1 (b + 43)) j g = true ∧ ∀ p, 6 ≤ p → p < S → dcl kd lf rt (sB (ia (b + 35)) 0) (dB ia1 b j) p := by
  obtain ⟨qf, hqf⟩ := FU_1000
  have hS := h.2.1.2.1
  have hS6 := h.2.1.1
  obtain ⟨ia1, a1, a2⟩ := fill_s (ia := ia) (fi := fi) (fl := fl) (qa := qa) (f := f) (PS_D b) hj (0 : Int32)
  obtain ⟨ia2, b1, b2⟩ := add_s (ia := ia1) (fi := fi) (fl := fl) (qa := qa) (f := f) (PS_D b) hj (show g < 192 by omega)
  have eK : ia2 (b + 35) = ia (b + 35) := (b2.1 _ (by omega)).trans (a2.1 _ (by omega))
  have hx := ((b2.L (j := j) (fi := fi) (Or.inr (Or.inl rfl)) (Nat.le_refl j)).lx ((a2.L (j := j) (fi := fi) (Or.inr (Or.inl rfl)) (Nat.le_refl j)).lx h))
  obtain ⟨ia3, c1, c2, c3, c4⟩ := doubt_28 (fl := fl) (qa := qa) (f := f) hj (S - 6) FU ia2 hx (by omega) (by omega) (fun p h1 h2 => by omega)
  rw [eK] at c4
  refine ⟨ia3, ?_, (a2.tr b2).tr c2, c3 g (by omega) (by rw [b2.2.2 g (by omega)]; exact upB_s _ _ _), c4⟩
  unfold f_X5_doubt
  simp only [R_20_5, ps_ck (PS_D b), a1, b1, R_20_1, I_22_0, h.1.1, Option.bind_some]
  rw [show (1 : Int32) = nI 1 from rfl, pk_sub (show 1 ≤ S by omega), show S - 1 = 5 + (S - 6) by omega]
  exact c1
theorem next_10 {j : Nat} (hj : j < 153) (h : LX b ia fi S kd lf rt) : ∀ (t q : Nat), 5 + t < S → t < q → (∀ p, 5 + t < p → p < S → ¬ triB kd lf (sB (ia (b + 35)) 0) (sB (ia (b + 43)) j) p) → (∃ p, 6 ≤ p ∧ p < S ∧ triB kd lf (sB (ia (b + 35)) 0) (sB (ia (b + 43)) j) p ∧ f_X5_nextTrial_10 (wr (SK b) ia fi fl qa f) q (b + 20) (nI j) (nI (5 + t)) = some (nI p)) ∨ ((∀ p, 6 ≤ p → p < S → ¬ triB kd lf (sB (ia (b + 35)) 0) (sB (ia (b + 43)) j) p) ∧ f_X5_nextTrial_10 (wr (SK b) ia fi fl qa f) q (b + 20) (nI j) (nI (5 + t)) = some (-2)) := by
  have ho := h.2.1
  have hS := ho.2.1
  intro t
  induction t with
  | zero =>
    intro q ht hq hn
    obtain ⟨q, rfl⟩ : ∃ k, q = k + 1 := ⟨q - 1, by omega⟩
    refine Or.inr ⟨fun p h6 hp => hn p (by omega) hp, ?_⟩
    rw [f_X5_nextTrial_10, if_pos (show nI (5 + 0) < (6 : Int32) by decide)]
  | succ t ih =>
    intro q ht hq hn
    obtain ⟨q, rfl⟩ : ∃ k, q = k + 1 := ⟨q - 1, by omega⟩
    have h6 : 6 ≤ 5 + (t + 1) := by omega
    obtain ⟨o1, o2, o3, o4, o5⟩ := ho.2.2.2.1 (5 + (t + 1)) h6 ht
    have hm := h.1.2.2 (5 + (t + 1)) h6 ht
    have next : ¬ triB kd lf (sB (ia (b + 35)) 0) (sB (ia (b + 43)) j) (5 + (t + 1)) → (∃ p, 6 ≤ p ∧ p < S ∧ triB kd lf (sB (ia (b + 35)) 0) (sB (ia (b + 43)) j) p ∧ f_X5_nextTrial_71 (fun a0 a1 a2 => f_X5_nextTrial_10 (wr (SK b) ia fi fl qa f) q a0 a1 a2) (wr (SK b) ia fi fl qa f) (b + 20) (nI j) (nI (5 + (t + 1))) = some (nI p)) ∨ ((∀ p, 6 ≤ p → p < S → ¬ triB kd lf (sB (ia (b + 35)) 0) (sB (ia (b + 43)) j) p) ∧ f_X5_nextTrial_71 (fun a0 a1 a2 => f_X5_nextTrial_10 (wr (SK b) ia fi fl qa f) q a0 a1 a2) (wr (SK b) ia fi fl qa f) (b + 20) (nI j) (nI (5 + (t + 1))) = some (-2)) := by
      intro h0
      unfold f_X5_nextTrial_71
      rw [show nI (5 + (t + 1)) + (-1 : Int32) = nI (5 + t) from pk_m1 (5 + t)]
      exact ih q (by omega) (by omega) (fun p h1 h2 => by
        by_cases e : p = 5 + (t + 1)
        · subst e; exact h0
        · exact hn p (by omega) h2)
    rw [f_X5_nextTrial_10, if_neg (show ¬ nI (5 + (t + 1)) < (6 : Int32) from nI_nlt (a := 5 + (t + 1)) (b := 6) (by omega) (by omega))]
    simp only [R_20_5, ps_ck (PS_D b), has_s (PS_D b) hj (show 5 + (t + 1) < 192 by omega), R_20_1, ck_22, isIf_c h ht, R_20_2, ck_33, k_has (show 5 + (t + 1) < 192 by omega), R_22_2, An_24 (show 5 + (t + 1) < 151 by omega), hm.1, k_has (show lf (5 + (t + 1)) < 192 by omega), Option.bind_some, b01]
    cases hD : sB (ia (b + 43)) j (5 + (t + 1)) with
    | false =>
      rw [if_pos (rfl : false = false)]
      exact next (fun h => by have h2 := h.1; rw [hD] at h2; cases h2)
    | true =>
      rw [if_neg (show ¬ true = false by decide)]
      by_cases cif : kd (5 + (t + 1)) = 9 ∨ kd (5 + (t + 1)) = 6
      · rw [if_pos cif, if_neg (show ¬ (1 : Int32) = 0 by decide)]
        cases hp : sB (ia (b + 35)) 0 (5 + (t + 1)) with
        | true =>
          rw [if_neg (show ¬ true = false by decide)]
          exact next (fun h => by have h2 := h.2.2.1; rw [hp] at h2; cases h2)
        | false =>
          rw [if_pos (rfl : false = false)]
          cases hl : sB (ia (b + 35)) 0 (lf (5 + (t + 1))) with
          | true =>
            rw [if_neg (show ¬ true = false by decide)]
            exact next (fun h => by have h2 := h.2.2.2; rw [hl] at h2; cases h2)
          | false =>
            rw [if_pos (rfl : false = false)]
            exact Or.inl ⟨_, h6, ht, ⟨hD, cif, hp, hl⟩, rfl⟩
      · rw [if_neg cif, if_pos rfl]
        exact next (fun h => cif h.2.1)
theorem next_c {j : Nat} (hj : j < 153) (h : LX b ia fi S kd lf rt) : (∃ p, 6 ≤ p ∧ p < S ∧ triB kd lf (sB (ia (b + 35)) 0) (sB (ia (b + 43)) j) p ∧ f_X5_nextTrial (b + 20) (nI j) (wr (SK b) ia fi fl qa f) = some (nI p)) ∨ ((∀ p, 6 ≤ p → p < S → ¬ triB kd lf (sB (ia (b + 35)) 0) (sB (ia (b + 43)) j) p) ∧ f_X5_nextTrial (b + 20) (nI j) (wr (SK b) ia fi fl qa f) = some (-2)) := by
  obtain ⟨qf, hqf⟩ := FU_1000
  have hS := h.2.1.2.1
  have hS6 := h.2.1.1
  have hn := next_10 (fl := fl) (qa := qa) (f := f) hj h (S - 6) FU (by omega) (by omega) (fun p h1 h2 => by omega)
  unfold f_X5_nextTrial
  simp only [R_20_1, I_22_0, h.1.1, Option.bind_some]
  rw [show (1 : Int32) = nI 1 from rfl, pk_sub (show 1 ≤ S by omega), show S - 1 = 5 + (S - 6) by omega]
  exact hn
end TRIAL
