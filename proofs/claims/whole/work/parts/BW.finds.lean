/-! THE CLASS'S FINDINGS -/
/-- findings of one of both objects: so many, the next one, what each is -/
def FD (b o : Nat) (fi : Nat → Nat → Int32) (Q : Nat → Prop) : Prop := ∃ n x, n ≤ 128 ∧ x ≤ n ∧ fi (b + o) 0 = nI n ∧ fi (b + o) 3 = nI x ∧ ∀ i, i < n → Q i
def MI (b : Nat) (fi : Nat → Nat → Int32) (fl : Nat → Nat → Int64) (S : Nat) (kd lf rt : Nat → Nat) : Prop := FD b 34 fi (fun i => RSet S kd lf rt (sB fl (b + (37 + i))))
def PI (b : Nat) (ia fi : Nat → Nat → Int32) (fl : Nat → Nat → Int64) (S : Nat) (kd lf rt : Nat → Nat) : Prop := FD b 165 fi (fun i => ∃ g, g < S ∧ ia (b + 167) i = nI g ∧ Prv S kd lf rt (sB fl (b + (168 + i))) g ∧ inS S (sB fl (b + (168 + i))))
def QF (b : Nat) (qa : Nat → Nat → Option Nat) : Prop := (∀ j, j < 153 → qa (b + 33) j = some (b + (296 + 5 * j))) ∧ (∀ j, j < 128 → qa (b + 35) j = some (b + (37 + j))) ∧ ∀ j, j < 128 → qa (b + 166) j = some (b + (168 + j))
section FINDS
variable {b : Nat} {ia fi : Nat → Nat → Int32} {fl : Nat → Nat → Int64} {qa : Nat → Nat → Option Nat} {f : mmF} {S : Nat} {kd lf rt : Nat → Nat}
theorem K_m {i : Nat} (h : i < 128) : SK b (b + (37 + i)) = some pset := by
  rw [SK_at, tb, if_neg (by omega), if_pos (by omega)]
theorem Prv.mono {K K1 : Nat → Bool} {g : Nat} (h : Prv S kd lf rt K g) (e : ∀ p, p < S → K p = true → K1 p = true) : Prv S kd lf rt K1 g := fun W R V w hk hw => h W R V w hk (fun p hp hkp => hw p hp (e p hp hkp))
theorem hasmet_2 {j g n : Nat} (hj : j < 153) (hg : g < S) (hS : S ≤ 151) (hq : QF b qa) (hn : n ≤ 128) (h0 : fi (b + 34) 0 = nI n) (hM : ∀ i, i < n → RSet S kd lf rt (sB fl (b + (37 + i)))) : ∀ (m i q : Nat), i + m = n → m < q → f_X5_hasMet_2 q (b + 20) (lV b j) (nI g) (nI i) (wr (SK b) ia fi fl qa f) = some (0, wr (SK b) ia fi fl qa f) ∨ ∃ fl1, f_X5_hasMet_2 q (b + 20) (lV b j) (nI g) (nI i) (wr (SK b) ia fi fl qa f) = some (1, wr (SK b) ia fi fl1 qa f) ∧ (∀ c, c ≠ lA b j 4 → fl1 c = fl c) ∧ RSet S kd lf rt (sB fl1 (lA b j 4)) ∧ (∀ p, p < S → sB fl (lA b j 1) p = true → sB fl1 (lA b j 4) p = true) ∧ sB fl1 (lA b j 4) g = false := by
  intro m
  induction m with
  | zero =>
    intro i q hi hm
    obtain ⟨q, rfl⟩ : ∃ k, q = k + 1 := ⟨q - 1, by omega⟩
    have e : i = n := by omega
    subst e
    refine Or.inl ?_
    rw [f_X5_hasMet_2]
    simp only [R_20_3, I_34_0, h0, Option.bind_some, if_pos (Int32.le_refl _)]
  | succ m ih =>
    intro i q hi hm
    obtain ⟨q, rfl⟩ : ∃ k, q = k + 1 := ⟨q - 1, by omega⟩
    have hin : i < n := by omega
    have hK := K_lA (b := b) hj (Nat.le_refl 1) (show 1 ≤ 4 by decide)
    have hK4 := K_lA (b := b) hj (show 1 ≤ 4 by decide) (Nat.le_refl 4)
    have hKm := K_m (b := b) (i := i) (by omega)
    have hne : b + (37 + i) ≠ lA b j 4 := by unfold lA; omega
    have e128 : ¬ (128 : Int32) ≤ nI i := nI_ge (b := 128) (by omega) (by decide)
    have next := ih (i + 1) q (by omega) (by omega)
    rw [f_X5_hasMet_2]
    simp only [R_20_3, I_34_0, h0, Option.bind_some, if_neg (nI_ge hin (show n < 2 ^ 31 by omega)), if_neg e128, R_lv hj (show 0 < 4 by decide), Nat.zero_add, R_34_1, N_35 (show i < 128 by omega) (hq.2.1 i (by omega)), ps_ck hK]
    rcases within_s (ia := ia) (fi := fi) (fl := fl) (qa := qa) (f := f) hK hKm with ⟨a1, a2⟩ | ⟨a1, a2⟩
    · simp only [a2, Option.bind_some, i10, if_false, ps_ck hKm, has_s hKm (show g < 192 by omega)]
      cases hb : sB fl (b + (37 + i)) g with
      | false =>
        obtain ⟨fl1, t1, t2⟩ := take_s (ia := ia) (fi := fi) (fl := fl) (qa := qa) (f := f) hK4 hKm hne
        simp only [if_neg (show ¬ (false = true) by decide), if_true, R_lv hj (show 3 < 4 by decide), ps_ck hK4, t1, Option.bind_some]
        have hE : ∀ p, p < S → sB fl1 (lA b j 4) p = sB fl (b + (37 + i)) p := fun p hp => t2.2 p (by omega)
        refine Or.inr ⟨fl1, rfl, t2.1, ?_, fun p hp hk => ?_, ?_⟩
        · obtain ⟨W, R, V, w, hk, hw⟩ := hM i hin
          exact ⟨W, R, V, w, hk, fun p hp => by rw [hE p hp]; exact hw p hp⟩
        · rw [hE p hp]; exact a1 p (by omega) hk
        · rw [hE g hg]; exact hb
      | true =>
        simp only [if_true, i10, if_false]
        unfold f_X5_hasMet_73
        rw [nI_1]
        exact next
    · simp only [a2, Option.bind_some, if_true]
      unfold f_X5_hasMet_73
      rw [nI_1]
      exact next
theorem hasmet_c {j g : Nat} (hj : j < 153) (hg : g < S) (hS : S ≤ 151) (hq : QF b qa) (hM : MI b fi fl S kd lf rt) : f_X5_hasMet (b + 20) (lV b j) (nI g) (wr (SK b) ia fi fl qa f) = some (0, wr (SK b) ia fi fl qa f) ∨ ∃ fl1, f_X5_hasMet (b + 20) (lV b j) (nI g) (wr (SK b) ia fi fl qa f) = some (1, wr (SK b) ia fi fl1 qa f) ∧ (∀ c, c ≠ lA b j 4 → fl1 c = fl c) ∧ RSet S kd lf rt (sB fl1 (lA b j 4)) ∧ (∀ p, p < S → sB fl (lA b j 1) p = true → sB fl1 (lA b j 4) p = true) ∧ sB fl1 (lA b j 4) g = false := by
  obtain ⟨qf, hqf⟩ := FU_1000
  obtain ⟨n, x, h1, h2, h3, h4, h5⟩ := hM
  exact hasmet_2 hj hg hS hq h1 h3 h5 n 0 FU (by omega) (by omega)
theorem hasproved_2 {j g n : Nat} (hj : j < 153) (hg : g < S) (hS : S ≤ 151) (hq : QF b qa) (hn : n ≤ 128) (h0 : fi (b + 165) 0 = nI n) (hM : ∀ i, i < n → ∃ g, g < S ∧ ia (b + 167) i = nI g ∧ Prv S kd lf rt (sB fl (b + (168 + i))) g ∧ inS S (sB fl (b + (168 + i)))) : ∀ (m i q : Nat), i + m = n → m < q → f_X5_hasProved_2 (wr (SK b) ia fi fl qa f) q (b + 20) (lV b j) (nI g) (nI i) = some 0 ∨ (f_X5_hasProved_2 (wr (SK b) ia fi fl qa f) q (b + 20) (lV b j) (nI g) (nI i) = some 1 ∧ Prv S kd lf rt (sB fl (lA b j 1)) g) := by
  intro m
  induction m with
  | zero =>
    intro i q hi hm
    obtain ⟨q, rfl⟩ : ∃ k, q = k + 1 := ⟨q - 1, by omega⟩
    have e : i = n := by omega
    subst e
    refine Or.inl ?_
    rw [f_X5_hasProved_2]
    simp only [R_20_4, I_165_0, h0, Option.bind_some, if_pos (Int32.le_refl _)]
  | succ m ih =>
    intro i q hi hm
    obtain ⟨q, rfl⟩ : ∃ k, q = k + 1 := ⟨q - 1, by omega⟩
    have hin : i < n := by omega
    have hK := K_lA (b := b) hj (Nat.le_refl 1) (show 1 ≤ 4 by decide)
    have hKp := K_proved (b := b) (j := i) (by omega)
    have e128 : ¬ (128 : Int32) ≤ nI i := nI_ge (b := 128) (by omega) (by decide)
    have next := ih (i + 1) q (by omega) (by omega)
    obtain ⟨g1, g2, g3, g4, g5⟩ := hM i hin
    have qg : (nI g1 = nI g) = (g1 = g) := propext (nI_eq (by omega) (by omega))
    rw [f_X5_hasProved_2]
    simp only [R_20_4, I_165_0, h0, Option.bind_some, if_neg (nI_ge hin (show n < 2 ^ 31 by omega)), if_neg e128, R_165_2, An_167 (show i < 128 by omega), g3, qg]
    by_cases c : g1 = g
    · rw [if_pos c]
      simp only [R_165_1, N_166 (show i < 128 by omega) (hq.2.2 i (by omega)), R_lv hj (show 0 < 4 by decide), Nat.zero_add, ps_ck hKp, Option.bind_some]
      rcases within_s (ia := ia) (fi := fi) (fl := fl) (qa := qa) (f := f) hKp hK with ⟨a1, a2⟩ | ⟨a1, a2⟩
      · simp only [a2, Option.bind_some, i10, if_false]
        subst c
        exact Or.inr ⟨trivial, g4.mono (fun p hp => a1 p (by omega))⟩
      · simp only [a2, Option.bind_some, if_true]
        unfold f_X5_hasProved_54
        rw [nI_1]
        exact next
    · rw [if_neg c]
      unfold f_X5_hasProved_54
      rw [nI_1]
      exact next
theorem hasproved_c {j g : Nat} (hj : j < 153) (hg : g < S) (hS : S ≤ 151) (hq : QF b qa) (hM : PI b ia fi fl S kd lf rt) : f_X5_hasProved (b + 20) (lV b j) (nI g) (wr (SK b) ia fi fl qa f) = some 0 ∨ (f_X5_hasProved (b + 20) (lV b j) (nI g) (wr (SK b) ia fi fl qa f) = some 1 ∧ Prv S kd lf rt (sB fl (lA b j 1)) g) := by
  obtain ⟨qf, hqf⟩ := FU_1000
  obtain ⟨n, x, h1, h2, h3, h4, h5⟩ := hM
  exact hasproved_2 hj hg hS hq h1 h3 h5 n 0 FU (by omega) (by omega)
/-- a finding is added -/
theorem add_m {a g n x : Nat} (hK : SK b a = some pset) (ha : b + 296 ≤ a) (hq : QF b qa) (hn : n ≤ 128) (hx : x ≤ n) (h0 : fi (b + 34) 0 = nI n) (h3 : fi (b + 34) 3 = nI x) : ∃ (ia1 fi1 : Nat → Nat → Int32) (fl1 : Nat → Nat → Int64) (n1 y : Nat), f_X1_add (b + 34) a (nI g) (wr (SK b) ia fi fl qa f) = some (wr (SK b) ia1 fi1 fl1 qa f) ∧ y < 128 ∧ sE1 fl fl1 (b + (37 + y)) (sB fl a) ∧ n1 ≤ 128 ∧ y + 1 ≤ n1 ∧ fi1 (b + 34) 0 = nI n1 ∧ fi1 (b + 34) 3 = nI (y + 1) ∧ (∀ i, i < n1 → i ≠ y → i < n) ∧ (∀ c, c ≠ b + 36 → ia1 c = ia c) ∧ (∀ c i, c ≠ b + 34 → fi1 c i = fi c i) ∧ ia1 (b + 36) y = nI g ∧ ∀ i, i ≠ y → ia1 (b + 36) i = ia (b + 36) i := by
  have main : ∀ (fi : Nat → Nat → Int32) (y : Nat), y < 128 → y ≤ n → fi (b + 34) 0 = nI n → fi (b + 34) 3 = nI y → ∃ (ia1 fi1 : Nat → Nat → Int32) (fl1 : Nat → Nat → Int64) (n1 : Nat), f_X1_add_22 (b + 34) a (nI g) (wr (SK b) ia fi fl qa f) = some (wr (SK b) ia1 fi1 fl1 qa f) ∧ sE1 fl fl1 (b + (37 + y)) (sB fl a) ∧ n1 ≤ 128 ∧ y + 1 ≤ n1 ∧ fi1 (b + 34) 0 = nI n1 ∧ fi1 (b + 34) 3 = nI (y + 1) ∧ (∀ i, i < n1 → i ≠ y → i < n) ∧ (∀ c, c ≠ b + 36 → ia1 c = ia c) ∧ (∀ c i, c ≠ b + 34 → fi1 c i = fi c i) ∧ ia1 (b + 36) y = nI g ∧ ∀ i, i ≠ y → ia1 (b + 36) i = ia (b + 36) i := by
    intro fi y hy hyn e0 e3
    have hKy := K_m (b := b) (i := y) hy
    obtain ⟨fl1, t1, t2⟩ := take_s (ia := ia) (fi := fi) (fl := fl) (qa := qa) (f := f) hKy hK (by omega)
    have hlt : (nI n < nI (y + 1)) = (n < y + 1) := propext (nI_ltI (by omega) (by omega))
    unfold f_X1_add_22
    simp only [R_34_1, I_34_3, e3, N_35 hy (hq.2.1 y hy), ps_ck hKy, t1, Option.bind_some, R_34_2, sAn_36 hy, nI_1, sI_34_3, I_34_0, u2_i _ _ (show (0 : Nat) ≠ 3 by decide), e0, u2_s, sI_34_0, hlt]
    refine ⟨_, _, fl1, if n < y + 1 then y + 1 else n, rfl, t2, by split <;> omega, by split <;> omega, ?_, ?_, fun i hi hne => ?_, fun c hc => u2_row _ _ hc, fun c i hc => by rw [u2_a _ _ hc, u2_a _ _ hc], u2_s _ _ _ _, fun i hi => u2_i _ _ hi⟩
    · rw [u2_s]
      by_cases c : n < y + 1
      · rw [if_pos c, if_pos c]
      · rw [if_neg c, if_neg c]
    · rw [u2_i _ _ (by decide), u2_s]
    · by_cases c : n < y + 1
      · rw [if_pos c] at hi; omega
      · rw [if_neg c] at hi; exact hi
  unfold f_X1_add
  simp only [I_34_3, h3, Option.bind_some, if_neg (nI_pos (show x < 2 ^ 31 by omega))]
  by_cases c : x < 128
  · rw [if_pos (show nI x < (128 : Int32) from nI_lt (b := 128) c (by decide))]
    obtain ⟨ia1, fi1, fl1, n1, z⟩ := main fi x c hx h0 h3
    exact ⟨ia1, fi1, fl1, n1, x, z.1, c, z.2⟩
  · rw [if_neg (show ¬ nI x < (128 : Int32) from nI_nlt (a := x) (b := 128) (by omega) (by omega))]
    unfold f_X1_add_17
    simp only [sI_34_3, Option.bind_some]
    obtain ⟨ia1, fi1, fl1, n1, z1, z2, z3, z4, z5, z6, z7, z8, z9, z10⟩ := main (u2 fi (b + 34) 3 0) 0 (by decide) (Nat.zero_le _) (by rw [u2_i _ _ (by decide)]; exact h0) (u2_s _ _ _ _)
    exact ⟨ia1, fi1, fl1, n1, 0, z1, by decide, z2, z3, z4, z5, z6, z7, z8, fun c i hc => by rw [z9 c i hc, u2_a _ _ hc], z10⟩
theorem add_p {a g n x : Nat} (hK : SK b a = some pset) (ha : b + 296 ≤ a) (hq : QF b qa) (hn : n ≤ 128) (hx : x ≤ n) (h0 : fi (b + 165) 0 = nI n) (h3 : fi (b + 165) 3 = nI x) : ∃ (ia1 fi1 : Nat → Nat → Int32) (fl1 : Nat → Nat → Int64) (n1 y : Nat), f_X1_add (b + 165) a (nI g) (wr (SK b) ia fi fl qa f) = some (wr (SK b) ia1 fi1 fl1 qa f) ∧ y < 128 ∧ sE1 fl fl1 (b + (168 + y)) (sB fl a) ∧ n1 ≤ 128 ∧ y + 1 ≤ n1 ∧ fi1 (b + 165) 0 = nI n1 ∧ fi1 (b + 165) 3 = nI (y + 1) ∧ (∀ i, i < n1 → i ≠ y → i < n) ∧ (∀ c, c ≠ b + 167 → ia1 c = ia c) ∧ (∀ c i, c ≠ b + 165 → fi1 c i = fi c i) ∧ ia1 (b + 167) y = nI g ∧ ∀ i, i ≠ y → ia1 (b + 167) i = ia (b + 167) i := by
  have main : ∀ (fi : Nat → Nat → Int32) (y : Nat), y < 128 → y ≤ n → fi (b + 165) 0 = nI n → fi (b + 165) 3 = nI y → ∃ (ia1 fi1 : Nat → Nat → Int32) (fl1 : Nat → Nat → Int64) (n1 : Nat), f_X1_add_22 (b + 165) a (nI g) (wr (SK b) ia fi fl qa f) = some (wr (SK b) ia1 fi1 fl1 qa f) ∧ sE1 fl fl1 (b + (168 + y)) (sB fl a) ∧ n1 ≤ 128 ∧ y + 1 ≤ n1 ∧ fi1 (b + 165) 0 = nI n1 ∧ fi1 (b + 165) 3 = nI (y + 1) ∧ (∀ i, i < n1 → i ≠ y → i < n) ∧ (∀ c, c ≠ b + 167 → ia1 c = ia c) ∧ (∀ c i, c ≠ b + 165 → fi1 c i = fi c i) ∧ ia1 (b + 167) y = nI g ∧ ∀ i, i ≠ y → ia1 (b + 167) i = ia (b + 167) i := by
    intro fi y hy hyn e0 e3
    have hKy := K_proved (b := b) (j := y) hy
    obtain ⟨fl1, t1, t2⟩ := take_s (ia := ia) (fi := fi) (fl := fl) (qa := qa) (f := f) hKy hK (by omega)
    have hlt : (nI n < nI (y + 1)) = (n < y + 1) := propext (nI_ltI (by omega) (by omega))
    unfold f_X1_add_22
    simp only [R_165_1, I_165_3, e3, N_166 hy (hq.2.2 y hy), ps_ck hKy, t1, Option.bind_some, R_165_2, sAn_167 hy, nI_1, sI_165_3, I_165_0, u2_i _ _ (show (0 : Nat) ≠ 3 by decide), e0, u2_s, sI_165_0, hlt]
    refine ⟨_, _, fl1, if n < y + 1 then y + 1 else n, rfl, t2, by split <;> omega, by split <;> omega, ?_, ?_, fun i hi hne => ?_, fun c hc => u2_row _ _ hc, fun c i hc => by rw [u2_a _ _ hc, u2_a _ _ hc], u2_s _ _ _ _, fun i hi => u2_i _ _ hi⟩
    · rw [u2_s]
      by_cases c : n < y + 1
      · rw [if_pos c, if_pos c]
      · rw [if_neg c, if_neg c]
    · rw [u2_i _ _ (by decide), u2_s]
    · by_cases c : n < y + 1
      · rw [if_pos c] at hi; omega
      · rw [if_neg c] at hi; exact hi
  unfold f_X1_add
  simp only [I_165_3, h3, Option.bind_some, if_neg (nI_pos (show x < 2 ^ 31 by omega))]
  by_cases c : x < 128
  · rw [if_pos (show nI x < (128 : Int32) from nI_lt (b := 128) c (by decide))]
    obtain ⟨ia1, fi1, fl1, n1, z⟩ := main fi x c hx h0 h3
    exact ⟨ia1, fi1, fl1, n1, x, z.1, c, z.2⟩
  · rw [if_neg (show ¬ nI x < (128 : Int32) from nI_nlt (a := x) (b := 128) (by omega) (by omega))]
    unfold f_X1_add_17
    simp only [sI_165_3, Option.bind_some]
    obtain ⟨ia1, fi1, fl1, n1, z1, z2, z3, z4, z5, z6, z7, z8, z9, z10⟩ := main (u2 fi (b + 165) 3 0) 0 (by decide) (Nat.zero_le _) (by rw [u2_i _ _ (by decide)]; exact h0) (u2_s _ _ _ _)
    exact ⟨ia1, fi1, fl1, n1, 0, z1, by decide, z2, z3, z4, z5, z6, z7, z8, fun c i hc => by rw [z9 c i hc, u2_a _ _ hc], z10⟩
end FINDS
