/-! THE CLASS'S TRIALS -/
/-- what must not hold goes on to parts -/
def dcl (kd lf rt : Nat → Nat) (K D : Nat → Bool) (p : Nat) : Prop := (K p = true → (kd p = 9 ∨ kd p = 6) → K (rt p) = false → D (lf p) = true) ∧ (K p = false → D p = true → ¬ (kd p = 9 ∨ kd p = 6) → D (lf p) = true ∧ D (rt p) = true) ∧ (K p = false → D p = true → (kd p = 9 ∨ kd p = 6) → K (lf p) = true → D (rt p) = true)
/-- a part to be tried -/
def triB (kd lf : Nat → Nat) (K D : Nat → Bool) (p : Nat) : Prop := D p = true ∧ (kd p = 9 ∨ kd p = 6) ∧ K p = false ∧ K (lf p) = false
section TRIAL
variable {b : Nat} {ia fi : Nat → Nat → Int32} {fl : Nat → Nat → Int64} {qa : Nat → Nat → Option Nat} {f : mmF} {S : Nat} {kd lf rt : Nat → Nat}
theorem dcl.up {K D D1 : Nat → Bool} {p : Nat} (h : dcl kd lf rt K D p) (e : D1 p = D p) (m : ∀ q, D q = true → D1 q = true) : dcl kd lf rt K D1 p := ⟨fun a1 a2 a3 => m _ (h.1 a1 a2 a3), fun a1 a2 a3 => ⟨m _ (h.2.1 a1 (e ▸ a2) a3).1, m _ (h.2.1 a1 (e ▸ a2) a3).2⟩, fun a1 a2 a3 a4 => m _ (h.2.2 a1 (e ▸ a2) a3 a4)⟩
theorem lA_ne {b j i i' : Nat} (h : i ≠ i') : lA b j i ≠ lA b j i' := by unfold lA; omega
theorem doubt_27 {j : Nat} (hj : j < 153) (h : LX b ia fi S kd lf rt) : ∀ (t q : Nat) (fl : Nat → Nat → Int64), 5 + t < S → t < q → (∀ p, 5 + t < p → p < S → dcl kd lf rt (sB fl (lA b j 1)) (fun r => sB fl (lA b j 3) r || decide (192 ≤ r)) p) → ∃ fl1, f_X5_doubt_27 q (b + 20) (lV b j) (lA b j 3) (nI (5 + t)) (wr (SK b) ia fi fl qa f) = some (wr (SK b) ia fi fl1 qa f) ∧ (∀ c, c ≠ lA b j 3 → fl1 c = fl c) ∧ (∀ q, q < 192 → sB fl (lA b j 3) q = true → sB fl1 (lA b j 3) q = true) ∧ ∀ p, 6 ≤ p → p < S → dcl kd lf rt (sB fl (lA b j 1)) (fun r => sB fl1 (lA b j 3) r || decide (192 ≤ r)) p := by
  have ho := h.2.1
  have hS := ho.2.1
  have hK1 := K_lA (b := b) hj (Nat.le_refl 1) (show 1 ≤ 4 by decide)
  have hK3 := K_lA (b := b) hj (show 1 ≤ 3 by decide) (show 3 ≤ 4 by decide)
  intro t
  induction t with
  | zero =>
    intro q fl ht hq hd
    obtain ⟨q, rfl⟩ : ∃ k, q = k + 1 := ⟨q - 1, by omega⟩
    refine ⟨fl, ?_, fun _ _ => rfl, fun _ _ h => h, fun p h6 hp => hd p (by omega) hp⟩
    rw [f_X5_doubt_27, if_pos (show nI (5 + 0) < (6 : Int32) by decide)]
  | succ t ih =>
    intro q fl ht hq hd
    obtain ⟨q, rfl⟩ : ∃ k, q = k + 1 := ⟨q - 1, by omega⟩
    have h6 : 6 ≤ 5 + (t + 1) := by omega
    obtain ⟨o1, o2, o3, o4, o5⟩ := ho.2.2.2.1 (5 + (t + 1)) h6 ht
    have hm := h.1.2.2 (5 + (t + 1)) h6 ht
    have h151 : 5 + (t + 1) < 151 := by omega
    -- go on, with a set of doubts that grew below
    have next : ∀ fl1 : Nat → Nat → Int64, (∀ c, c ≠ lA b j 3 → fl1 c = fl c) → (∀ r, r < 192 → sB fl (lA b j 3) r = true → sB fl1 (lA b j 3) r = true) → (∀ r, 5 + (t + 1) ≤ r → r < 192 → sB fl1 (lA b j 3) r = sB fl (lA b j 3) r) → dcl kd lf rt (sB fl (lA b j 1)) (fun r => sB fl1 (lA b j 3) r || decide (192 ≤ r)) (5 + (t + 1)) → ∃ fl2, f_X5_doubt_161 (fun a0 a1 a2 a3 a4 => f_X5_doubt_27 q a0 a1 a2 a3 a4) (b + 20) (lV b j) (lA b j 3) (nI (5 + (t + 1))) (wr (SK b) ia fi fl1 qa f) = some (wr (SK b) ia fi fl2 qa f) ∧ (∀ c, c ≠ lA b j 3 → fl2 c = fl c) ∧ (∀ q, q < 192 → sB fl (lA b j 3) q = true → sB fl2 (lA b j 3) q = true) ∧ ∀ p, 6 ≤ p → p < S → dcl kd lf rt (sB fl (lA b j 1)) (fun r => sB fl2 (lA b j 3) r || decide (192 ≤ r)) p := by
      intro fl1 e1 e2 e3 e4
      have eK : sB fl1 (lA b j 1) = sB fl (lA b j 1) := by
        funext r
        unfold sB
        rw [e1 _ (lA_ne (by decide))]
      obtain ⟨fl2, a1, a2, a3, a4⟩ := ih q fl1 (by omega) (by omega) (fun p hp hpS => by
        rw [eK]
        by_cases e : p = 5 + (t + 1)
        · subst e; exact e4
        · refine (hd p (by omega) hpS).up ?_ (fun r hr => ?_)
          · rw [e3 p (by omega) (by omega)]
          · rw [Bool.or_eq_true] at hr ⊢
            by_cases hr2 : r < 192
            · rcases hr with hr | hr
              · exact Or.inl (e2 r hr2 hr)
              · exact Or.inr hr
            · exact Or.inr (decide_eq_true (by omega)))
      rw [eK] at a4
      refine ⟨fl2, ?_, fun c hc => (a2 c hc).trans (e1 c hc), fun r hr hk => a3 r hr (e2 r hr hk), a4⟩
      unfold f_X5_doubt_161
      rw [show nI (5 + (t + 1)) + (-1 : Int32) = nI (5 + t) from pk_m1 (5 + t)]
      exact a1
    have D192 : ∀ (fl : Nat → Nat → Int64) (r : Nat), r < S → (sB fl (lA b j 3) r || decide (192 ≤ r)) = sB fl (lA b j 3) r := fun fl r hr => by rw [decide_eq_false (by omega), Bool.or_false]
    have keep := next fl (fun _ _ => rfl) (fun _ _ h => h) (fun _ _ _ => rfl)
    have set1 : ∀ (fl : Nat → Nat → Int64) (r : Nat), r < 5 + (t + 1) → ∃ fl1, f_X3_set (lA b j 3) (nI r) (1 : Int32) (wr (SK b) ia fi fl qa f) = some (wr (SK b) ia fi fl1 qa f) ∧ (∀ c, c ≠ lA b j 3 → fl1 c = fl c) ∧ (∀ s, s < 192 → sB fl1 (lA b j 3) s = upB (sB fl (lA b j 3)) r true s) := fun fl r hr => by
      obtain ⟨fl1, a1, a2⟩ := set_s (ia := ia) (fi := fi) (fl := fl) (qa := qa) (f := f) hK3 (show r < 192 by omega) (1 : Int32)
      rw [if_neg (show ¬ (1 : Int32) = 0 by decide)] at a2
      exact ⟨fl1, a1, a2.1, a2.2⟩
    rw [f_X5_doubt_27, if_neg (show ¬ nI (5 + (t + 1)) < (6 : Int32) from nI_nlt (a := 5 + (t + 1)) (b := 6) (by omega) (by omega))]
    simp only [R_20_1, R_22_2, R_22_3, An_24 h151, An_25 h151, hm.1, hm.2, R_lv hj (show 0 < 4 by decide), Nat.zero_add, ps_ck hK1, ps_ck hK3, ck_22, isIf_c h ht, has_s hK1 (show 5 + (t + 1) < 192 by omega), has_s hK3 (show 5 + (t + 1) < 192 by omega), has_s hK1 (show lf (5 + (t + 1)) < 192 by omega), has_s hK1 (show rt (5 + (t + 1)) < 192 by omega), Option.bind_some, b01]
    cases hp : sB fl (lA b j 1) (5 + (t + 1)) with
    | false =>
      rw [if_pos (rfl : false = false)]
      cases hD : sB fl (lA b j 3) (5 + (t + 1)) with
      | false =>
        rw [if_pos (rfl : false = false)]
        exact keep ⟨fun h => (by rw [hp] at h; cases h), fun _ h => (by have h2 : (sB fl (lA b j 3) (5 + (t + 1)) || decide (192 ≤ 5 + (t + 1))) = true := h; rw [D192 fl _ ht, hD] at h2; cases h2), fun _ h => (by have h2 : (sB fl (lA b j 3) (5 + (t + 1)) || decide (192 ≤ 5 + (t + 1))) = true := h; rw [D192 fl _ ht, hD] at h2; cases h2)⟩
      | true =>
        rw [if_neg (show ¬ true = false by decide)]
        by_cases cif : kd (5 + (t + 1)) = 9 ∨ kd (5 + (t + 1)) = 6
        · rw [if_pos cif, if_neg (show ¬ (1 : Int32) = 0 by decide)]
          cases hl : sB fl (lA b j 1) (lf (5 + (t + 1))) with
          | false =>
            rw [if_pos (rfl : false = false)]
            exact keep ⟨fun h => (by rw [hp] at h; cases h), fun _ _ h => absurd cif h, fun _ _ _ h => (by rw [hl] at h; cases h)⟩
          | true =>
            rw [if_neg (show ¬ true = false by decide)]
            obtain ⟨fl1, a1, a2, a3⟩ := set1 fl (rt (5 + (t + 1))) o4
            simp only [a1, Option.bind_some]
            refine next fl1 a2 (fun r hr hk => by rw [a3 r hr]; exact upB_le hk) (fun r h1 h2 => by rw [a3 r h2]; unfold upB; rw [if_neg (by omega)]) ⟨fun h => (by rw [hp] at h; cases h), fun _ _ h => absurd cif h, fun _ _ _ _ => ?_⟩
            show (sB fl1 (lA b j 3) (rt (5 + (t + 1))) || _) = true
            rw [a3 _ (by omega), upB_s, Bool.true_or]
        · rw [if_neg cif, if_pos rfl]
          obtain ⟨fl1, a1, a2, a3⟩ := set1 fl (lf (5 + (t + 1))) o3
          obtain ⟨fl2, b1, b2, b3⟩ := set1 fl1 (rt (5 + (t + 1))) o4
          simp only [a1, b1, ps_ck hK3, Option.bind_some]
          refine next fl2 (fun c hc => (b2 c hc).trans (a2 c hc)) (fun r hr hk => by rw [b3 r hr]; exact upB_le (by rw [a3 r hr]; exact upB_le hk)) (fun r h1 h2 => by rw [b3 r h2]; unfold upB; rw [if_neg (by omega), a3 r h2]; unfold upB; rw [if_neg (by omega)]) ⟨fun h => (by rw [hp] at h; cases h), fun _ _ _ => ⟨?_, ?_⟩, fun _ _ h => absurd h cif⟩
          · show (sB fl2 (lA b j 3) (lf (5 + (t + 1))) || _) = true
            rw [b3 _ (by omega), upB_le (by rw [a3 _ (by omega)]; exact upB_s _ _ _), Bool.true_or]
          · show (sB fl2 (lA b j 3) (rt (5 + (t + 1))) || _) = true
            rw [b3 _ (by omega), upB_s, Bool.true_or]
    | true =>
      rw [if_neg (show ¬ true = false by decide)]
      by_cases cif : kd (5 + (t + 1)) = 9 ∨ kd (5 + (t + 1)) = 6
      · rw [if_pos cif, if_neg (show ¬ (1 : Int32) = 0 by decide)]
        cases hr : sB fl (lA b j 1) (rt (5 + (t + 1))) with
        | true =>
          rw [if_neg (show ¬ true = false by decide)]
          exact keep ⟨fun _ _ h => (by rw [hr] at h; cases h), fun h => (by rw [hp] at h; cases h), fun h => (by rw [hp] at h; cases h)⟩
        | false =>
          rw [if_pos (rfl : false = false)]
          obtain ⟨fl1, a1, a2, a3⟩ := set1 fl (lf (5 + (t + 1))) o3
          simp only [a1, Option.bind_some]
          refine next fl1 a2 (fun r hr hk => by rw [a3 r hr]; exact upB_le hk) (fun r h1 h2 => by rw [a3 r h2]; unfold upB; rw [if_neg (by omega)]) ⟨fun _ _ _ => ?_, fun h => (by rw [hp] at h; cases h), fun h => (by rw [hp] at h; cases h)⟩
          show (sB fl1 (lA b j 3) (lf (5 + (t + 1))) || _) = true
          rw [a3 _ (by omega), upB_s, Bool.true_or]
      · rw [if_neg cif, if_pos rfl]
        exact keep ⟨fun _ h => absurd h cif, fun h => (by rw [hp] at h; cases h), fun h => (by rw [hp] at h; cases h)⟩
theorem doubt_c {j g : Nat} (hj : j < 153) (h : LX b ia fi S kd lf rt) (hg : g < S) : ∃ fl1, f_X5_doubt (b + 20) (lV b j) (nI g) (wr (SK b) ia fi fl qa f) = some (wr (SK b) ia fi fl1 qa f) ∧ (∀ c, c ≠ lA b j 3 → fl1 c = fl c) ∧ sB fl1 (lA b j 3) g = true ∧ ∀ p, 6 ≤ p → p < S → dcl kd lf rt (sB fl (lA b j 1)) (fun r => sB fl1 (lA b j 3) r || decide (192 ≤ r)) p := by
  obtain ⟨qf, hqf⟩ := FU_1000
  have hS := h.2.1.2.1
  have hS6 := h.2.1.1
  have hK3 := K_lA (b := b) hj (show 1 ≤ 3 by decide) (show 3 ≤ 4 by decide)
  obtain ⟨fl1, a1, a2⟩ := fill_s (ia := ia) (fi := fi) (fl := fl) (qa := qa) (f := f) hK3 (0 : Int32)
  obtain ⟨fl2, b1, b2⟩ := set_s (ia := ia) (fi := fi) (fl := fl1) (qa := qa) (f := f) hK3 (show g < 192 by omega) (1 : Int32)
  rw [if_neg (show ¬ (1 : Int32) = 0 by decide)] at b2
  have eK : sB fl2 (lA b j 1) = sB fl (lA b j 1) := by
    funext r
    unfold sB
    rw [b2.1 _ (lA_ne (by decide)), a2.1 _ (lA_ne (by decide))]
  obtain ⟨fl3, c1, c2, c3, c4⟩ := doubt_27 (qa := qa) (f := f) hj h (S - 6) FU fl2 (by omega) (by omega) (fun p h1 h2 => by omega)
  rw [eK] at c4
  refine ⟨fl3, ?_, fun c hc => (c2 c hc).trans ((b2.1 c hc).trans (a2.1 c hc)), c3 g (by omega) (by rw [b2.2 g (by omega)]; exact upB_s _ _ _), c4⟩
  unfold f_X5_doubt
  simp only [R_lv hj (show 2 < 4 by decide), ps_ck hK3, a1, b1, R_20_1, I_22_0, h.1.1, Option.bind_some]
  rw [show (1 : Int32) = nI 1 from rfl, pk_sub (show 1 ≤ S by omega), show S - 1 = 5 + (S - 6) by omega]
  exact c1
theorem next_10 {j : Nat} (hj : j < 153) (h : LX b ia fi S kd lf rt) : ∀ (t q : Nat), 5 + t < S → t < q → (∀ p, 5 + t < p → p < S → ¬ triB kd lf (sB fl (lA b j 1)) (sB fl (lA b j 3)) p) → (∃ p, 6 ≤ p ∧ p < S ∧ triB kd lf (sB fl (lA b j 1)) (sB fl (lA b j 3)) p ∧ f_X5_nextTrial_10 (wr (SK b) ia fi fl qa f) q (b + 20) (lV b j) (nI (5 + t)) = some (nI p)) ∨ ((∀ p, 6 ≤ p → p < S → ¬ triB kd lf (sB fl (lA b j 1)) (sB fl (lA b j 3)) p) ∧ f_X5_nextTrial_10 (wr (SK b) ia fi fl qa f) q (b + 20) (lV b j) (nI (5 + t)) = some (-2)) := by
  have ho := h.2.1
  have hS := ho.2.1
  have hK1 := K_lA (b := b) hj (Nat.le_refl 1) (show 1 ≤ 4 by decide)
  have hK3 := K_lA (b := b) hj (show 1 ≤ 3 by decide) (show 3 ≤ 4 by decide)
  intro t
  induction t with
  | zero =>
    intro q ht hq hn
    obtain ⟨q, rfl⟩ : ∃ k, q = k + 1 := ⟨q - 1, by omega⟩
    refine Or.inr ⟨fun p h6 hp => hn p (by omega) hp, ?_⟩
    rw [f_X5_nextTrial_10, if_pos (show nI (5 + 0) < (6 : Int32) by decide)]
  | succ t ih =>
    intro q ht hq hn
    obtain ⟨q, rfl⟩ : ∃ k, q = k + 1 := ⟨q - 1, by omega⟩
    have h6 : 6 ≤ 5 + (t + 1) := by omega
    obtain ⟨o1, o2, o3, o4, o5⟩ := ho.2.2.2.1 (5 + (t + 1)) h6 ht
    have hm := h.1.2.2 (5 + (t + 1)) h6 ht
    have next : ¬ triB kd lf (sB fl (lA b j 1)) (sB fl (lA b j 3)) (5 + (t + 1)) → (∃ p, 6 ≤ p ∧ p < S ∧ triB kd lf (sB fl (lA b j 1)) (sB fl (lA b j 3)) p ∧ f_X5_nextTrial_70 (fun a0 a1 a2 => f_X5_nextTrial_10 (wr (SK b) ia fi fl qa f) q a0 a1 a2) (wr (SK b) ia fi fl qa f) (b + 20) (lV b j) (nI (5 + (t + 1))) = some (nI p)) ∨ ((∀ p, 6 ≤ p → p < S → ¬ triB kd lf (sB fl (lA b j 1)) (sB fl (lA b j 3)) p) ∧ f_X5_nextTrial_70 (fun a0 a1 a2 => f_X5_nextTrial_10 (wr (SK b) ia fi fl qa f) q a0 a1 a2) (wr (SK b) ia fi fl qa f) (b + 20) (lV b j) (nI (5 + (t + 1))) = some (-2)) := by
      intro h0
      unfold f_X5_nextTrial_70
      rw [show nI (5 + (t + 1)) + (-1 : Int32) = nI (5 + t) from pk_m1 (5 + t)]
      exact ih q (by omega) (by omega) (fun p h1 h2 => by
        by_cases e : p = 5 + (t + 1)
        · subst e; exact h0
        · exact hn p (by omega) h2)
    rw [f_X5_nextTrial_10, if_neg (show ¬ nI (5 + (t + 1)) < (6 : Int32) from nI_nlt (a := 5 + (t + 1)) (b := 6) (by omega) (by omega))]
    simp only [R_lv hj (show 2 < 4 by decide), R_lv hj (show 0 < 4 by decide), Nat.zero_add, ps_ck hK1, ps_ck hK3, R_20_1, ck_22, isIf_c h ht, R_22_2, An_24 (show 5 + (t + 1) < 151 by omega), hm.1, has_s hK1 (show 5 + (t + 1) < 192 by omega), has_s hK3 (show 5 + (t + 1) < 192 by omega), has_s hK1 (show lf (5 + (t + 1)) < 192 by omega), Option.bind_some, b01]
    cases hD : sB fl (lA b j 3) (5 + (t + 1)) with
    | false =>
      rw [if_pos (rfl : false = false)]
      exact next (fun h => by have h2 := h.1; rw [hD] at h2; cases h2)
    | true =>
      rw [if_neg (show ¬ true = false by decide)]
      by_cases cif : kd (5 + (t + 1)) = 9 ∨ kd (5 + (t + 1)) = 6
      · rw [if_pos cif, if_neg (show ¬ (1 : Int32) = 0 by decide)]
        cases hp : sB fl (lA b j 1) (5 + (t + 1)) with
        | true =>
          rw [if_neg (show ¬ true = false by decide)]
          exact next (fun h => by have h2 := h.2.2.1; rw [hp] at h2; cases h2)
        | false =>
          rw [if_pos (rfl : false = false)]
          cases hl : sB fl (lA b j 1) (lf (5 + (t + 1))) with
          | true =>
            rw [if_neg (show ¬ true = false by decide)]
            exact next (fun h => by have h2 := h.2.2.2; rw [hl] at h2; cases h2)
          | false =>
            rw [if_pos (rfl : false = false)]
            exact Or.inl ⟨_, h6, ht, ⟨hD, cif, hp, hl⟩, rfl⟩
      · rw [if_neg cif, if_pos rfl]
        exact next (fun h => cif h.2.1)
theorem next_c {j : Nat} (hj : j < 153) (h : LX b ia fi S kd lf rt) : (∃ p, 6 ≤ p ∧ p < S ∧ triB kd lf (sB fl (lA b j 1)) (sB fl (lA b j 3)) p ∧ f_X5_nextTrial (b + 20) (lV b j) (wr (SK b) ia fi fl qa f) = some (nI p)) ∨ ((∀ p, 6 ≤ p → p < S → ¬ triB kd lf (sB fl (lA b j 1)) (sB fl (lA b j 3)) p) ∧ f_X5_nextTrial (b + 20) (lV b j) (wr (SK b) ia fi fl qa f) = some (-2)) := by
  obtain ⟨qf, hqf⟩ := FU_1000
  have hS := h.2.1.2.1
  have hS6 := h.2.1.1
  have hn := next_10 (fl := fl) (qa := qa) (f := f) hj h (S - 6) FU (by omega) (by omega) (fun p h1 h2 => by omega)
  unfold f_X5_nextTrial
  simp only [R_20_1, I_22_0, h.1.1, Option.bind_some]
  rw [show (1 : Int32) = nI 1 from rfl, pk_sub (show 1 ≤ S by omega), show S - 1 = 5 + (S - 6) by omega]
  exact hn
end TRIAL
