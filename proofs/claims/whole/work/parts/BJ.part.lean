/-! THE REFERENCE'S PARTS: find one, or make it -/
def RPm (b : Nat) (ia fi : Nat → Nat → Int32) (P : Nat) (op lf rt : Nat → Nat) : Prop := fi (b + 83) 19 = nI P ∧ ∀ k, k < P → ia (b + 93) k = nI (op k) ∧ ia (b + 94) k = nI (lf k) ∧ ia (b + 95) k = nI (rt k)
def RPc (b : Nat) (ia : Nat → Nat → Int32) (P : Nat) (op lf rt : Nat → Nat) : Prop := ∀ d k s w, d < P → k < 4 → s < kS k → w < kW k → cellOk (ia (b + 96)) d k s w (fun m => tQ op lf rt k m d)
def RP (b : Nat) (ia fi : Nat → Nat → Int32) (P : Nat) (op lf rt : Nat → Nat) : Prop := P ≤ 1000 ∧ RPm b ia fi P op lf rt ∧ RPo P op lf rt ∧ RPc b ia P op lf rt
/-- what can be a part that is made of parts below P -/
def pOk (P o x y : Nat) : Prop := (P < 2 ∧ o = 4 + P ∧ x = 0 ∧ y = 0) ∨ (2 ≤ P ∧ o < 4 ∧ x = 0 ∧ y = 0) ∨ (2 ≤ P ∧ 7 ≤ o ∧ o < 10 ∧ 2 ≤ x ∧ x < P ∧ 1 ≤ y ∧ y < P ∧ x ≠ y ∧ (y = 1 → o = 9))
def REx (P : Nat) (op lf rt : Nat → Nat) (P1 : Nat) (op1 lf1 rt1 : Nat → Nat) : Prop := P ≤ P1 ∧ ∀ k, k < P → op1 k = op k ∧ lf1 k = lf k ∧ rt1 k = rt k
/-- only the parts' arrays differ -/
def pE (b : Nat) (ia fi ia1 fi1 : Nat → Nat → Int32) : Prop := (∀ a, a < b + 93 ∨ b + 97 ≤ a → ia1 a = ia a) ∧ ∀ a j, a ≠ b + 83 ∨ j ≠ 19 → fi1 a j = fi a j
section PART
variable {b : Nat} {ia fi : Nat → Nat → Int32} {fl : Nat → Nat → Int64} {qa : Nat → Nat → Option Nat} {f : mmF} {op lf rt : Nat → Nat} {P : Nat}
theorem REx.rf : REx P op lf rt P op lf rt := ⟨Nat.le_refl _, fun _ _ => ⟨rfl, rfl, rfl⟩⟩
theorem REx.tr {P1 P2 : Nat} {op1 lf1 rt1 op2 lf2 rt2 : Nat → Nat} (h : REx P op lf rt P1 op1 lf1 rt1) (h2 : REx P1 op1 lf1 rt1 P2 op2 lf2 rt2) : REx P op lf rt P2 op2 lf2 rt2 := ⟨Nat.le_trans h.1 h2.1, fun k hk => by
  have a := h.2 k hk
  have c := h2.2 k (Nat.lt_of_lt_of_le hk h.1)
  exact ⟨c.1.trans a.1, c.2.1.trans a.2.1, c.2.2.trans a.2.2⟩⟩
theorem pE.rf : pE b ia fi ia fi := ⟨fun _ _ => rfl, fun _ _ _ => rfl⟩
theorem pE.tr {ia1 fi1 ia2 fi2 : Nat → Nat → Int32} (h : pE b ia fi ia1 fi1) (h2 : pE b ia1 fi1 ia2 fi2) : pE b ia fi ia2 fi2 := ⟨fun a ha => (h2.1 a ha).trans (h.1 a ha), fun a j ha => (h2.2 a j ha).trans (h.2 a j ha)⟩
theorem tQ_ext {P1 : Nat} {op1 lf1 rt1 : Nat → Nat} (ho : RPo P op lf rt) (e : REx P op lf rt P1 op1 lf1 rt1) (k m : Nat) {p : Nat} (hp : p < P) : tQ op1 lf1 rt1 k m p = tQ op lf rt k m p := qv_ext ho e.2 p hp
theorem looks_2 {d : Nat} (hd : d < 1000) (ho : RPo (d + 1) op lf rt) (hop : ia (b + 93) d = nI (op d)) (hlf : ia (b + 94) d = nI (lf d)) (hrt : ia (b + 95) d = nI (rt d)) : ∀ (n k q : Nat) (R : Nat → Int32), k + n = 4 → n < q → pcs R op lf rt d → dnC op lf rt d R k 0 (kS k) → ∃ R1, f_X10_looksAt_2 q (b + 83) (nI d) (nI k) (wr (SK b) (rw2 ia (b + 96) R) fi fl qa f) = some (wr (SK b) (rw2 ia (b + 96) R1) fi fl qa f) ∧ frC d R R1 ∧ dnC op lf rt d R1 4 0 (kS 4) := by
  obtain ⟨qf, hqf⟩ := FU_1000
  have hbn : 6 ≤ op d → lf d ≠ d ∧ rt d ≠ d := fun h6 => by
    obtain ⟨o1, o2, o3, o4, o5, o6, o7, o8, o9⟩ := ho.two (Nat.lt_succ_self d) h6
    omega
  intro n
  induction n with
  | zero =>
    intro k q R hk hq hp hdn
    obtain ⟨q, rfl⟩ : ∃ k, q = k + 1 := ⟨q - 1, by omega⟩
    have e : k = 4 := by omega
    subst e
    refine ⟨R, ?_, frC.rf, hdn⟩
    rw [f_X10_looksAt_2, if_pos (show (4 : Int32) ≤ nI 4 by decide)]
  | succ n ih =>
    intro k q R hk hq hp hdn
    obtain ⟨q, rfl⟩ : ∃ k, q = k + 1 := ⟨q - 1, by omega⟩
    have hk4 : k < 4 := by omega
    obtain ⟨w1, w2, w3, w4, w5, w6⟩ := kW_lt hk4
    obtain ⟨R1, r1, r2, r3⟩ := looks_29 (fi := fi) (fl := fl) (qa := qa) (f := f) hd hk4 ho hop hlf hrt (fun a0 a1 a2 a3 => f_X10_looksAt_2 q a0 a1 a2 a3) (kW k) 0 FU R (by omega) (by omega) hp hdn
    obtain ⟨R2, j1, j2, j3⟩ := ih (k + 1) q R1 (by omega) (by omega) (fun h6 k' s' w' a1 a2 a3 => ⟨(hp h6 k' s' w' a1 a2 a3).1.fr a1 a2 a3 (hbn h6).1 r2, (hp h6 k' s' w' a1 a2 a3).2.fr a1 a2 a3 (hbn h6).2 r2⟩) r3
    refine ⟨R2, ?_, r2.tr j2, j3⟩
    rw [f_X10_looksAt_2, if_neg (show ¬ (4 : Int32) ≤ nI k from nI_ge (b := 4) hk4 (by decide))]
    simp only [wordsOf_t hk4, Option.bind_some]
    unfold f_X10_looksAt_24
    by_cases h3 : k < 3
    · have eS : nI k + 1 = nI (kS k) := by
        rw [nI_1]
        rcases k4 hk4 with rfl | rfl | rfl | rfl
        · rfl
        · rfl
        · rfl
        · omega
      rw [if_neg (show ¬ (3 : Int32) ≤ nI k from nI_ge (b := 3) h3 (by decide)), eS]
      exact r1.trans j1
    · have e3 : k = 3 := by omega
      rw [if_pos (show (3 : Int32) ≤ nI k from nI_le (a := 3) (by omega) (by omega)), show (3 : Int32) = nI (kS k) by rw [e3]; rfl]
      exact r1.trans j1
theorem looks_t {d : Nat} (hd : d < 1000) (ho : RPo (d + 1) op lf rt) (hop : ia (b + 93) d = nI (op d)) (hlf : ia (b + 94) d = nI (lf d)) (hrt : ia (b + 95) d = nI (rt d)) (hp : pcs (ia (b + 96)) op lf rt d) : ∃ R1, f_X10_looksAt (b + 83) (nI d) (wr (SK b) ia fi fl qa f) = some (wr (SK b) (rw2 ia (b + 96) R1) fi fl qa f) ∧ frC d (ia (b + 96)) R1 ∧ ∀ k s w, k < 4 → s < kS k → w < kW k → cellOk R1 d k s w (fun m => tQ op lf rt k m d) := by
  obtain ⟨qf, hqf⟩ := FU_1000
  obtain ⟨R1, r1, r2, r3⟩ := looks_2 (fi := fi) (fl := fl) (qa := qa) (f := f) hd ho hop hlf hrt 4 0 FU (ia (b + 96)) (by omega) (by omega) hp (fun k' s' w' a1 a2 a3 a4 => by
    rcases a4 with h | ⟨h, h2 | ⟨h2, h3⟩⟩
    · omega
    · omega
    · subst h; omega)
  rw [rw2_id] at r1
  exact ⟨R1, r1, r2, fun k s w a1 a2 a3 => r3 k s w a1 a2 a3 (Or.inl a1)⟩
theorem RPo.add {o x y : Nat} (h : RPo P op lf rt) (hn : pOk P o x y) (hf : ∀ j, j < P → ¬ (op j = o ∧ lf j = x ∧ rt j = y)) : RPo (P + 1) (upN op P o) (upN lf P x) (upN rt P y) := by
  refine ⟨fun k hk => ?_, fun p q hp hq e1 e2 e3 => ?_⟩
  · by_cases e : k = P
    · subst e
      rw [upN_s, upN_s, upN_s]
      rcases hn with h1 | h1 | h1
      · exact Or.inl h1
      · exact Or.inr (Or.inl h1)
      · exact Or.inr (Or.inr h1)
    · rw [upN_n _ e, upN_n _ e, upN_n _ e]
      exact h.1 k (by omega)
  · by_cases ep : p = P
    · by_cases eq : q = P
      · omega
      · subst ep
        rw [upN_s, upN_n _ eq] at e1 e2 e3
        exact absurd ⟨e1.symm, e2.symm, e3.symm⟩ (hf q (by omega))
    · by_cases eq : q = P
      · subst eq
        rw [upN_s, upN_n _ ep] at e1 e2 e3
        exact absurd ⟨e1, e2, e3⟩ (hf p (by omega))
      · rw [upN_n _ ep, upN_n _ eq] at e1 e2 e3
        exact h.2 p q (by omega) (by omega) e1 e2 e3
theorem REx.add {o x y : Nat} : REx P op lf rt (P + 1) (upN op P o) (upN lf P x) (upN rt P y) := ⟨Nat.le_succ _, fun k hk => ⟨upN_n _ (by omega), upN_n _ (by omega), upN_n _ (by omega)⟩⟩
theorem part_3 {o x y : Nat} (h : RP b ia fi P op lf rt) (hn : pOk P o x y) (hP : P < 1000) : ∀ (n k q : Nat), k + n = P → n < q → (∀ j, j < k → ¬ (op j = o ∧ lf j = x ∧ rt j = y)) → (∃ r, r < P ∧ op r = o ∧ lf r = x ∧ rt r = y ∧ f_X10_part_3 q (b + 83) (nI o) (nI x) (nI y) (nI k) (wr (SK b) ia fi fl qa f) = some (nI r, wr (SK b) ia fi fl qa f)) ∨ ∃ (ia1 fi1 : Nat → Nat → Int32), f_X10_part_3 q (b + 83) (nI o) (nI x) (nI y) (nI k) (wr (SK b) ia fi fl qa f) = some (nI P, wr (SK b) ia1 fi1 fl qa f) ∧ RP b ia1 fi1 (P + 1) (upN op P o) (upN lf P x) (upN rt P y) ∧ pE b ia fi ia1 fi1 := by
  obtain ⟨g1, ⟨g2, g3⟩, g4, g5⟩ := id h
  have hlow : ∀ k, k < P → op k < 10 ∧ lf k < 1000 ∧ rt k < 1000 := fun k hk => by
    rcases g4.1 k hk with h1 | h1 | h1 <;> omega
  have hoxy : o < 10 ∧ x < 1000 ∧ y < 1000 := by
    rcases hn with h1 | h1 | h1 <;> omega
  intro n
  induction n with
  | zero =>
    intro k q hk hq hf
    obtain ⟨q, rfl⟩ : ∃ k, q = k + 1 := ⟨q - 1, by omega⟩
    have e : k = P := by omega
    subst e
    refine Or.inr ?_
    have ho := g4.add hn hf
    have hex : REx k op lf rt (k + 1) (upN op k o) (upN lf k x) (upN rt k y) := REx.add
    have n1 : b + 93 ≠ b + 94 := by omega
    have n2 : b + 93 ≠ b + 95 := by omega
    have n3 : b + 94 ≠ b + 95 := by omega
    have n4 : b + 96 ≠ b + 95 := by omega
    have n5 : b + 96 ≠ b + 94 := by omega
    have n6 : b + 96 ≠ b + 93 := by omega
    have hrow : ∀ j, u2 (u2 (u2 ia (b + 93) k (nI o)) (b + 94) k (nI x)) (b + 95) k (nI y) (b + 96) j = ia (b + 96) j := fun j => by rw [u2_a _ _ n4, u2_a _ _ n5, u2_a _ _ n6]
    obtain ⟨R1, r1, r2, r3⟩ := looks_t (b := b) (ia := u2 (u2 (u2 ia (b + 93) k (nI o)) (b + 94) k (nI x)) (b + 95) k (nI y)) (fi := fi) (fl := fl) (qa := qa) (f := f) hP ho (by rw [u2_a _ _ n2, u2_a _ _ n1, u2_s, upN_s]) (by rw [u2_a _ _ n3, u2_s, upN_s]) (by rw [u2_s, upN_s]) (by
      intro h6 k' s w a1 a2 a3
      rw [upN_s] at h6
      rw [upN_s, upN_s]
      have hxy : x < k ∧ y < k := by rcases hn with h1 | h1 | h1 <;> omega
      have e1 : u2 (u2 (u2 ia (b + 93) k (nI o)) (b + 94) k (nI x)) (b + 95) k (nI y) (b + 96) = ia (b + 96) := funext hrow
      rw [e1]
      have ex : (fun m => tQ (upN op k o) (upN lf k x) (upN rt k y) k' m x) = fun m => tQ op lf rt k' m x := funext fun m => tQ_ext g4 hex k' m hxy.1
      have ey : (fun m => tQ (upN op k o) (upN lf k x) (upN rt k y) k' m y) = fun m => tQ op lf rt k' m y := funext fun m => tQ_ext g4 hex k' m hxy.2
      rw [ex, ey]
      exact ⟨g5 x k' s w hxy.1 a1 a2 a3, g5 y k' s w hxy.2 a1 a2 a3⟩)
    refine ⟨rw2 (u2 (u2 (u2 ia (b + 93) k (nI o)) (b + 94) k (nI x)) (b + 95) k (nI y)) (b + 96) R1, u2 fi (b + 83) 19 (nI (k + 1)), ?_, ⟨by omega, ⟨u2_s _ _ _ _, fun j hj => ?_⟩, ho, fun d k' s w hd a1 a2 a3 => ?_⟩, ?_⟩
    · rw [f_X10_part_3]
      simp only [I_83_19, g2, Option.bind_some]
      rw [if_pos (Int32.le_refl _)]
      simp only [R_83_15, R_83_16, R_83_17, I_83_19, g2, sAn_93 hP, sAn_94 hP, sAn_95 hP, ck_83, r1, sI_83_19, Option.bind_some, nI_1, u2_s, nI_pred]
    · by_cases e : j = k
      · subst e
        rw [upN_s, upN_s, upN_s, rw2_n _ _ (show b + 93 ≠ b + 96 by omega), rw2_n _ _ (show b + 94 ≠ b + 96 by omega), rw2_n _ _ (show b + 95 ≠ b + 96 by omega)]
        exact ⟨by rw [u2_a _ _ n2, u2_a _ _ n1, u2_s], by rw [u2_a _ _ n3, u2_s], u2_s _ _ _ _⟩
      · rw [upN_n _ e, upN_n _ e, upN_n _ e, rw2_n _ _ (show b + 93 ≠ b + 96 by omega), rw2_n _ _ (show b + 94 ≠ b + 96 by omega), rw2_n _ _ (show b + 95 ≠ b + 96 by omega)]
        have := g3 j (by omega)
        refine ⟨?_, ?_, ?_⟩
        · rw [u2_i _ _ e, u2_i _ _ e, u2_i _ _ e]; exact this.1
        · rw [u2_i _ _ e, u2_i _ _ e, u2_i _ _ e]; exact this.2.1
        · rw [u2_i _ _ e, u2_i _ _ e, u2_i _ _ e]; exact this.2.2
    · rw [rw2_s]
      by_cases e : d = k
      · subst e
        exact r3 k' s w a1 a2 a3
      · have ed : (fun m => tQ (upN op k o) (upN lf k x) (upN rt k y) k' m d) = fun m => tQ op lf rt k' m d := funext fun m => tQ_ext g4 hex k' m (show d < k by omega)
        rw [ed]
        have e1 : u2 (u2 (u2 ia (b + 93) k (nI o)) (b + 94) k (nI x)) (b + 95) k (nI y) (b + 96) = ia (b + 96) := funext hrow
        rw [e1] at r2
        exact (g5 d k' s w (by omega) a1 a2 a3).fr a1 a2 a3 e r2
    · exact ⟨fun a ha => by rw [rw2_n _ _ (by omega), u2_row _ _ (by omega), u2_row _ _ (by omega), u2_row _ _ (by omega)], fun a j ha => by
        rcases ha with ha | ha
        · exact u2_a _ _ ha
        · exact u2_i _ _ ha⟩
  | succ n ih =>
    intro k q hk hq hf
    obtain ⟨q, rfl⟩ : ∃ k, q = k + 1 := ⟨q - 1, by omega⟩
    have hkP : k < P := by omega
    obtain ⟨z1, z2, z3⟩ := g3 k hkP
    obtain ⟨l1, l2, l3⟩ := hlow k hkP
    have q1 : (nI (op k) = nI o) = (op k = o) := propext (nI_eq (by omega) (by omega))
    have q2 : (nI (lf k) = nI x) = (lf k = x) := propext (nI_eq (by omega) (by omega))
    have q3 : (nI (rt k) = nI y) = (rt k = y) := propext (nI_eq (by omega) (by omega))
    have next : ¬ (op k = o ∧ lf k = x ∧ rt k = y) → (∃ r, r < P ∧ op r = o ∧ lf r = x ∧ rt r = y ∧ f_X10_part_48 (fun a0 a1 a2 a3 a4 a5 => f_X10_part_3 q a0 a1 a2 a3 a4 a5) (b + 83) (nI o) (nI x) (nI y) (nI k) (wr (SK b) ia fi fl qa f) = some (nI r, wr (SK b) ia fi fl qa f)) ∨ ∃ (ia1 fi1 : Nat → Nat → Int32), f_X10_part_48 (fun a0 a1 a2 a3 a4 a5 => f_X10_part_3 q a0 a1 a2 a3 a4 a5) (b + 83) (nI o) (nI x) (nI y) (nI k) (wr (SK b) ia fi fl qa f) = some (nI P, wr (SK b) ia1 fi1 fl qa f) ∧ RP b ia1 fi1 (P + 1) (upN op P o) (upN lf P x) (upN rt P y) ∧ pE b ia fi ia1 fi1 := by
      intro hne
      unfold f_X10_part_48
      rw [nI_1]
      refine ih (k + 1) q (by omega) (by omega) (fun j hj => ?_)
      by_cases e : j = k
      · subst e; exact hne
      · exact hf j (by omega)
    rw [f_X10_part_3]
    simp only [I_83_19, g2, Option.bind_some]
    rw [if_neg (nI_ge hkP (by omega))]
    simp only [R_83_15, R_83_16, R_83_17, An_93 (show k < 1000 by omega), An_94 (show k < 1000 by omega), An_95 (show k < 1000 by omega), z1, z2, z3, Option.bind_some, q1, q2, q3]
    by_cases h1 : op k = o
    · rw [if_pos h1]
      by_cases h2 : lf k = x
      · rw [if_pos h2]
        by_cases h3 : rt k = y
        · rw [if_pos h3]
          exact Or.inl ⟨k, hkP, h1, h2, h3, rfl⟩
        · rw [if_neg h3]; exact next (fun h => h3 h.2.2)
      · rw [if_neg h2]; exact next (fun h => h2 h.2.1)
    · rw [if_neg h1]; exact next (fun h => h1 h.1)
/-- a part is found or made -/
theorem part_t {o x y : Nat} (h : RP b ia fi P op lf rt) (hn : pOk P o x y) (hP : P < 1000) : ∃ (ia1 fi1 : Nat → Nat → Int32) (P1 : Nat) (op1 lf1 rt1 : Nat → Nat) (r : Nat), f_X10_part (b + 83) (nI o) (nI x) (nI y) (wr (SK b) ia fi fl qa f) = some (nI r, wr (SK b) ia1 fi1 fl qa f) ∧ RP b ia1 fi1 P1 op1 lf1 rt1 ∧ REx P op lf rt P1 op1 lf1 rt1 ∧ P1 ≤ P + 1 ∧ (r < P1 ∧ op1 r = o ∧ lf1 r = x ∧ rt1 r = y) ∧ pE b ia fi ia1 fi1 ∧ (P1 = P ∨ P1 = P + 1 ∧ r = P) := by
  obtain ⟨qf, hqf⟩ := FU_1000
  rcases part_3 (fl := fl) (qa := qa) (f := f) h hn hP P 0 FU (by omega) (by omega) (fun j hj => absurd hj (Nat.not_lt_zero _)) with ⟨r, a1, a2, a3, a4, a5⟩ | ⟨ia1, fi1, a1, a2, a3⟩
  · exact ⟨ia, fi, P, op, lf, rt, r, a5, h, REx.rf, Nat.le_succ _, ⟨a1, a2, a3, a4⟩, pE.rf, Or.inl rfl⟩
  · exact ⟨ia1, fi1, P + 1, upN op P o, upN lf P x, upN rt P y, P, a1, a2, REx.add, Nat.le_refl _, ⟨Nat.lt_succ_self _, upN_s _ _ _, upN_s _ _ _, upN_s _ _ _⟩, a3, Or.inr ⟨rfl, rfl⟩⟩
end PART
