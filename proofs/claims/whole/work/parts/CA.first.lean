section FIRST
variable {b : Nat} {ia fi : Nat → Nat → Int32} {fl : Nat → Nat → Int64} {qa : Nat → Nat → Option Nat} {f : mmF} {S : Nat} {kd lf rt : Nat → Nat}
/-- what is to be settled: nothing more is known at once, no 'or' is open, what must not hold is told -/
def setl (S : Nat) (kd lf rt : Nat → Nat) (K D : Nat → Bool) (g : Nat) : Prop := K 5 = false ∧ K g = false ∧ (∀ p, 6 ≤ p → p < S → kd p = 8 → K p = true → K (lf p) = true ∨ K (rt p) = true) ∧ D g = true ∧ ∀ p, 6 ≤ p → p < S → dcl kd lf rt K D p
/-- the first trial's answer -/
def ftR (b j S : Nat) (kd lf rt : Nat → Nat) (g : Nat) (t : Int32) (ia : Nat → Nat → Int32) : Prop := (t = -1 ∧ (∀ q, q < 192 → sB (ia (b + 41)) j q = true → sB (ia (b + 35)) 0 q = true) ∧ Prv S kd lf rt (sB (ia (b + 41)) j) g) ∨ (∃ p, t = nI p ∧ 6 ≤ p ∧ p < S ∧ kd p = 8 ∧ sB (ia (b + 35)) 0 p = true ∧ sB (ia (b + 35)) 0 (lf p) = false ∧ sB (ia (b + 35)) 0 (rt p) = false) ∨ (setl S kd lf rt (sB (ia (b + 35)) 0) (dB ia b j) g ∧ (∀ q, q < 192 → sB (ia (b + 45)) j q = true) ∧ ((∃ p, t = nI p ∧ 6 ≤ p ∧ p < S ∧ triB kd lf (sB (ia (b + 35)) 0) (sB (ia (b + 43)) j) p) ∨ (t = -2 ∧ ∀ p, 6 ≤ p → p < S → ¬ triB kd lf (sB (ia (b + 35)) 0) (sB (ia (b + 43)) j) p)))
theorem first_67 {j g : Nat} (hj : j < 153) (h : LX b ia fi S kd lf rt) (hg : g < S) (k5 : sB (ia (b + 35)) 0 5 = false) (kg : sB (ia (b + 35)) 0 g = false) : ∀ (m p q : Nat), p + m = S → 6 ≤ p → m < q → (∀ r, 6 ≤ r → r < p → kd r = 8 → sB (ia (b + 35)) 0 r = true → sB (ia (b + 35)) 0 (lf r) = true ∨ sB (ia (b + 35)) 0 (rt r) = true) → ∃ (t : Int32) (ia1 : Nat → Nat → Int32), f_X5_firstTrial_67 q (b + 20) (nI j) (nI g) (nI p) (wr (SK b) ia fi fl qa f) = some (t, wr (SK b) ia1 fi fl qa f) ∧ fL b j ia fi ia1 fi ∧ (∀ c, c ≠ b + 43 → c ≠ b + 45 → ia1 c = ia c) ∧ ftR b j S kd lf rt g t ia1 := by
  have ho := h.2.1
  have hS := ho.2.1
  intro m
  induction m with
  | zero =>
    intro p q hp h6 hq hor
    obtain ⟨q, rfl⟩ : ∃ k, q = k + 1 := ⟨q - 1, by omega⟩
    have e : p = S := by omega
    subst e
    obtain ⟨ia1, a1, a2, a3, a4⟩ := doubt_c (fl := fl) (qa := qa) (f := f) hj h hg
    obtain ⟨ia2, b1, b2⟩ := fill_s (ia := ia1) (fi := fi) (fl := fl) (qa := qa) (f := f) (PS_F b) hj (1 : Int32)
    rw [if_neg (show ¬ (1 : Int32) = 0 by decide)] at b2
    have hL : fL b j ia fi ia2 fi := (a2.L (Or.inr (Or.inl rfl)) (Nat.le_refl j)).tr (b2.L (Or.inr (Or.inr rfl)) (Nat.le_refl j))
    have eK : ia2 (b + 35) = ia (b + 35) := (b2.1 _ (by omega)).trans (a2.1 _ (by omega))
    have eD : ia2 (b + 43) = ia1 (b + 43) := b2.1 _ (by omega)
    have hset : setl p kd lf rt (sB (ia2 (b + 35)) 0) (dB ia2 b j) g := by
      unfold dB
      rw [eK, eD]
      exact ⟨k5, kg, hor, (by show (sB (ia1 (b + 43)) j g || _) = true; rw [a3, Bool.true_or]), a4⟩
    have hfr : ∀ c, c ≠ b + 43 → c ≠ b + 45 → ia2 c = ia c := fun c c3 c4 => (b2.1 c c4).trans (a2.1 c c3)
    have base : ∀ t : Int32, f_X5_nextTrial (b + 20) (nI j) (wr (SK b) ia2 fi fl qa f) = some t → f_X5_firstTrial_67 (q + 1) (b + 20) (nI j) (nI g) (nI p) (wr (SK b) ia fi fl qa f) = some (t, wr (SK b) ia2 fi fl qa f) := fun t ht => by
      rw [f_X5_firstTrial_67]
      simp only [R_20_1, I_22_0, h.1.1, Option.bind_some, if_pos (Int32.le_refl _), ck_20, a1, R_20_6, ps_ck (PS_F b), b1, ht]
    rcases next_c (ia := ia2) (fl := fl) (qa := qa) (f := f) hj (hL.lx h) with ⟨r, r1, r2, r3, r4⟩ | ⟨r1, r2⟩
    · exact ⟨nI r, ia2, base _ r4, hL, hfr, Or.inr (Or.inr ⟨hset, b2.2.2, Or.inl ⟨r, rfl, r1, r2, r3⟩⟩)⟩
    · exact ⟨-2, ia2, base _ r2, hL, hfr, Or.inr (Or.inr ⟨hset, b2.2.2, Or.inr ⟨rfl, r1⟩⟩)⟩
  | succ m ih =>
    intro p q hp h6 hq hor
    obtain ⟨q, rfl⟩ : ∃ k, q = k + 1 := ⟨q - 1, by omega⟩
    have hpS : p < S := by omega
    obtain ⟨o1, o2, o3, o4, o5⟩ := ho.2.2.2.1 p h6 hpS
    have hm := h.1.2.2 p h6 hpS
    have q8 : (nI (kd p) = (8 : Int32)) = (kd p = 8) := propext (nI_eq (b := 8) (by omega) (by decide))
    have next : (kd p = 8 → sB (ia (b + 35)) 0 p = true → sB (ia (b + 35)) 0 (lf p) = true ∨ sB (ia (b + 35)) 0 (rt p) = true) → ∃ (t : Int32) (ia1 : Nat → Nat → Int32), f_X5_firstTrial_143 (fun a0 a1 a2 a3 a4 => f_X5_firstTrial_67 q a0 a1 a2 a3 a4) (b + 20) (nI j) (nI g) (nI p) (wr (SK b) ia fi fl qa f) = some (t, wr (SK b) ia1 fi fl qa f) ∧ fL b j ia fi ia1 fi ∧ (∀ c, c ≠ b + 43 → c ≠ b + 45 → ia1 c = ia c) ∧ ftR b j S kd lf rt g t ia1 := by
      intro h8
      unfold f_X5_firstTrial_143
      rw [nI_1]
      exact ih (p + 1) q (by omega) (by omega) (by omega) (fun r r6 hr => by
        by_cases e : r = p
        · subst e; exact h8
        · exact hor r r6 (by omega))
    rw [f_X5_firstTrial_67]
    simp only [R_20_1, I_22_0, h.1.1, Option.bind_some, if_neg (nI_ge hpS (show S < 2 ^ 31 by omega)), R_22_1, R_22_2, R_22_3, An_23 (show p < 151 by omega), An_24 (show p < 151 by omega), An_25 (show p < 151 by omega), hm.1, hm.2, h.1.2.1 p hpS, q8, R_20_2, ck_33, k_has (show p < 192 by omega), k_has (show lf p < 192 by omega), k_has (show rt p < 192 by omega), b01]
    by_cases c8 : kd p = 8
    · rw [if_pos c8]
      cases hk : sB (ia (b + 35)) 0 p with
      | false =>
        rw [if_pos (rfl : false = false)]
        exact next (fun _ h => by rw [hk] at h; cases h)
      | true =>
        rw [if_neg (show ¬ true = false by decide)]
        cases hl : sB (ia (b + 35)) 0 (lf p) with
        | true =>
          rw [if_neg (show ¬ true = false by decide)]
          exact next (fun _ _ => Or.inl hl)
        | false =>
          rw [if_pos (rfl : false = false)]
          cases hr : sB (ia (b + 35)) 0 (rt p) with
          | true =>
            rw [if_neg (show ¬ true = false by decide)]
            exact next (fun _ _ => Or.inr hr)
          | false =>
            rw [if_pos (rfl : false = false)]
            exact ⟨nI p, ia, rfl, fL.rf, fun _ _ _ => rfl, Or.inr (Or.inl ⟨p, rfl, h6, hpS, c8, hk, hl, hr⟩)⟩
    · rw [if_neg c8]
      exact next (fun e => absurd e c8)
theorem first_29 {j g : Nat} (hj : j < 153) (h : LX b ia fi S kd lf rt) (hg : g < S) (hk : sB (ia (b + 35)) 0 5 = true ∨ sB (ia (b + 35)) 0 g = true) : ∃ ia1 : Nat → Nat → Int32, f_X5_firstTrial_29 (b + 20) (nI j) (nI g) (wr (SK b) ia fi fl qa f) = some (-1, wr (SK b) ia1 fi fl qa f) ∧ sEw ia ia1 (b + 41) j (sB (ia1 (b + 41)) j) ∧ (∀ q, q < 192 → sB (ia1 (b + 41)) j q = true → sB (ia (b + 35)) 0 q = true) ∧ Prv S kd lf rt (sB (ia1 (b + 41)) j) g := by
  have ho := h.2.1
  have hS := ho.2.1
  have hS6 := ho.1
  obtain ⟨ia1, a1, a2⟩ := fill_s (ia := ia) (fi := fi) (fl := fl) (qa := qa) (f := f) (PS_U b) hj (0 : Int32)
  rw [if_pos rfl] at a2
  have eK : ia1 (b + 35) = ia (b + 35) := a2.1 _ (by omega)
  have k5 := k_has (ia := ia1) (fi := fi) (fl := fl) (qa := qa) (f := f) (b := b) (p := 5) (by decide)
  rw [show nI 5 = (5 : Int32) from rfl, eK] at k5
  have one : ∀ r, r < S → sB (ia (b + 35)) 0 r = true → ∃ ia2, f_X5_firstTrial_59 (b + 40) (nI j) (nI r) (wr (SK b) ia1 fi fl qa f) = some (-1, wr (SK b) ia2 fi fl qa f) ∧ sEw ia ia2 (b + 41) j (sB (ia2 (b + 41)) j) ∧ (∀ q, q < 192 → (sB (ia2 (b + 41)) j q = true ↔ q = r)) := fun r hr hkr => by
    obtain ⟨ia2, b1, b2⟩ := add_s (ia := ia1) (fi := fi) (fl := fl) (qa := qa) (f := f) (PS_U b) hj (show r < 192 by omega)
    refine ⟨ia2, ?_, a2.tr (b2.ext (fun q hq => (b2.2.2 q hq).symm)), fun q hq => ?_⟩
    · unfold f_X5_firstTrial_59
      simp only [ps_ck (PS_U b), b1, Option.bind_some]
    · rw [b2.2.2 q hq]
      unfold upB
      by_cases e : q = r
      · rw [if_pos e]; exact ⟨fun _ => e, fun _ => rfl⟩
      · rw [if_neg e, a2.2.2 q hq]; exact ⟨fun h => (Bool.noConfusion (show false = true from h)), fun h => absurd h e⟩
  unfold f_X5_firstTrial_29
  simp only [R_20_4, ps_ck (PS_U b), a1, R_20_2, ck_33, k5, Option.bind_some, b01]
  cases c5 : sB (ia (b + 35)) 0 5 with
  | true =>
    rw [if_neg (show ¬ true = false by decide)]
    obtain ⟨ia2, b1, b2, b3⟩ := one 5 (by omega) c5
    rw [show nI 5 = (5 : Int32) from rfl] at b1
    exact ⟨ia2, b1, b2, fun q hq hk => by rw [(b3 q hq).mp hk]; exact c5, fun W R V w hm hw => absurd (hw 5 (by omega) ((b3 5 (by decide)).mpr rfl)) (kT_5 ho w)⟩
  | false =>
    rw [if_pos (rfl : false = false)]
    have cg : sB (ia (b + 35)) 0 g = true := hk.resolve_left (fun h => by rw [c5] at h; cases h)
    obtain ⟨ia2, b1, b2, b3⟩ := one g hg cg
    exact ⟨ia2, b1, b2, fun q hq hk => by rw [(b3 q hq).mp hk]; exact cg, fun W R V w hm hw => hw g hg ((b3 g (by omega)).mpr rfl)⟩
theorem first_c {j g z : Nat} {O : Nat → Nat} (hj : j < 153) (h : LX b ia fi S kd lf rt) (hg : g < S) (t : TRL b ia fi S z O) (h1 : 1 ≤ z) : ∃ (r : Int32) (ia1 fi1 : Nat → Nat → Int32) (z1 : Nat) (O1 : Nat → Nat), f_X5_firstTrial (b + 20) (nI j) (nI g) (wr (SK b) ia fi fl qa f) = some (r, wr (SK b) ia1 fi1 fl qa f) ∧ fL b j ia fi ia1 fi1 ∧ (∀ c, c ≠ b + 35 → c ≠ b + 36 → c ≠ b + 38 → c ≠ b + 41 → c ≠ b + 43 → c ≠ b + 45 → ia1 c = ia c) ∧ TX b z z1 O O1 ia ia1 ∧ TRL b ia1 fi1 S z1 O1 ∧ INF b S kd lf rt ia1 O1 z z1 ∧ cqS S kd lf rt (sB (ia (b + 35)) 0) (sB (ia1 (b + 35)) 0) ∧ (∀ p, 6 ≤ p → p < S → stS kd lf rt (sB (ia1 (b + 35)) 0) p) ∧ ftR b j S kd lf rt g r ia1 := by
  obtain ⟨qf, hqf⟩ := FU_1000
  have ho := h.2.1
  have hS := ho.2.1
  have hS6 := ho.1
  obtain ⟨ia1, fi1, z1, O1, a1, a2, a3, a4, a5, a6, a7, a8⟩ := spread_c (fl := fl) (qa := qa) (f := f) h t h1
  have hL1 : fL b j ia fi ia1 fi1 := trL a2 a3
  have hx1 := hL1.lx h
  have k5 := k_has (ia := ia1) (fi := fi1) (fl := fl) (qa := qa) (f := f) (b := b) (p := 5) (by decide)
  rw [show nI 5 = (5 : Int32) from rfl] at k5
  -- what comes behind leaves all that is known
  have fin : ∀ (r : Int32) (ia2 : Nat → Nat → Int32), fL b j ia1 fi1 ia2 fi1 → (∀ c, c ≠ b + 41 → c ≠ b + 43 → c ≠ b + 45 → ia2 c = ia1 c) → ftR b j S kd lf rt g r ia2 → ∀ F : Option (Int32 × mmF), F = some (r, wr (SK b) ia2 fi1 fl qa f) → ∃ (r : Int32) (ia1 fi1 : Nat → Nat → Int32) (z1 : Nat) (O1 : Nat → Nat), F = some (r, wr (SK b) ia1 fi1 fl qa f) ∧ fL b j ia fi ia1 fi1 ∧ (∀ c, c ≠ b + 35 → c ≠ b + 36 → c ≠ b + 38 → c ≠ b + 41 → c ≠ b + 43 → c ≠ b + 45 → ia1 c = ia c) ∧ TX b z z1 O O1 ia ia1 ∧ TRL b ia1 fi1 S z1 O1 ∧ INF b S kd lf rt ia1 O1 z z1 ∧ cqS S kd lf rt (sB (ia (b + 35)) 0) (sB (ia1 (b + 35)) 0) ∧ (∀ p, 6 ≤ p → p < S → stS kd lf rt (sB (ia1 (b + 35)) 0) p) ∧ ftR b j S kd lf rt g r ia1 := by
    intro r ia2 e1 e2 e3 F hF
    have e35 : ia2 (b + 35) = ia1 (b + 35) := e2 _ (by omega) (by omega) (by omega)
    have e38 : ia2 (b + 38) = ia1 (b + 38) := e2 _ (by omega) (by omega) (by omega)
    refine ⟨r, ia2, fi1, z1, O1, hF, hL1.tr e1, fun c d1 d2 d3 d4 d5 d6 => (e2 c d4 d5 d6).trans (a2 c d1 d2 d3), a4.cg (fun r q _ => by rw [e38]), a5.cg e35 (e2 _ (by omega) (by omega) (by omega)) rfl, fun i d1 d2 => ?_, by rw [e35]; exact a7, by rw [e35]; exact a8, e3⟩
    rw [e38]
    exact a6 i d1 d2
  unfold f_X5_firstTrial
  simp only [R_20_2, ck_33, a1, k5, k_has (show g < 192 by omega), Option.bind_some, b01]
  have known : (sB (ia1 (b + 35)) 0 5 = true ∨ sB (ia1 (b + 35)) 0 g = true) → ∃ (r : Int32) (ia2 fi2 : Nat → Nat → Int32) (z1 : Nat) (O1 : Nat → Nat), f_X5_firstTrial_29 (b + 20) (nI j) (nI g) (wr (SK b) ia1 fi1 fl qa f) = some (r, wr (SK b) ia2 fi2 fl qa f) ∧ fL b j ia fi ia2 fi2 ∧ (∀ c, c ≠ b + 35 → c ≠ b + 36 → c ≠ b + 38 → c ≠ b + 41 → c ≠ b + 43 → c ≠ b + 45 → ia2 c = ia c) ∧ TX b z z1 O O1 ia ia2 ∧ TRL b ia2 fi2 S z1 O1 ∧ INF b S kd lf rt ia2 O1 z z1 ∧ cqS S kd lf rt (sB (ia (b + 35)) 0) (sB (ia2 (b + 35)) 0) ∧ (∀ p, 6 ≤ p → p < S → stS kd lf rt (sB (ia2 (b + 35)) 0) p) ∧ ftR b j S kd lf rt g r ia2 := fun hk => by
    obtain ⟨ia2, b1, b2, b3, b4⟩ := first_29 (fl := fl) (qa := qa) (f := f) hj hx1 hg hk
    have e35 : ia2 (b + 35) = ia1 (b + 35) := b2.1 _ (by omega)
    exact fin (-1) ia2 (b2.L (Or.inl rfl) (Nat.le_refl j)) (fun c d1 _ _ => b2.1 c d1) (Or.inl ⟨rfl, by rw [e35]; exact b3, b4⟩) _ b1
  cases c5 : sB (ia1 (b + 35)) 0 5 with
  | true =>
    rw [if_neg (show ¬ true = false by decide)]
    exact known (Or.inl c5)
  | false =>
    rw [if_pos (rfl : false = false)]
    cases cg : sB (ia1 (b + 35)) 0 g with
    | true =>
      rw [if_neg (show ¬ true = false by decide)]
      exact known (Or.inr cg)
    | false =>
      rw [if_pos (rfl : false = false)]
      obtain ⟨r, ia2, b1, b2, b3, b4⟩ := first_67 (fl := fl) (qa := qa) (f := f) hj hx1 hg c5 cg (S - 6) 6 FU (by omega) (Nat.le_refl _) (by omega) (fun r r1 r2 => by omega)
      rw [show nI 6 = (6 : Int32) from rfl] at b1
      exact fin r ia2 b2 (fun c _ d2 d3 => b3 c d2 d3) b4 _ b1
/-- what the met stage is made of -/
def meV (kd lf rt : Nat → Nat) (K F F1 : Nat → Bool) (p : Nat) : Prop := (p < 6 → F1 p = K p) ∧ (6 ≤ p → (kd p = 7 → (F1 p = true ↔ F1 (lf p) = true ∧ F1 (rt p) = true)) ∧ (kd p = 8 → (F1 p = true ↔ F1 (lf p) = true ∨ F1 (rt p) = true)) ∧ (kd p = 9 ∨ kd p = 6 → (F1 p = true ↔ F p = true ∧ (F1 (lf p) = true → F1 (rt p) = true))))
theorem meV.up {K F F1 F2 : Nat → Bool} {p : Nat} (ho : PTo S kd lf rt) (hp : p < S) (h : meV kd lf rt K F F1 p) (e : ∀ q, q ≤ p → F2 q = F1 q) : meV kd lf rt K F F2 p := by
  refine ⟨fun h6 => by rw [e p (Nat.le_refl _)]; exact h.1 h6, fun h6 => ?_⟩
  obtain ⟨o1, o2, o3, o4, o5⟩ := ho.2.2.2.1 p h6 hp
  rw [e p (Nat.le_refl _), e (lf p) (by omega), e (rt p) (by omega)]
  exact h.2 h6
theorem meet_2 {j n0 x0 : Nat} {K F : Nat → Bool} (hj : j < 153) (hn : n0 ≤ 128) (hx : x0 ≤ n0) (hK6 : ∀ r, r < 6 → K r = true → F r = true) (hF7 : ∀ r, 6 ≤ r → r < S → kd r = 7 → F (lf r) = true → F (rt r) = true → F r = true) (hF8 : ∀ r, 6 ≤ r → r < S → kd r = 8 → (F (lf r) = true ∨ F (rt r) = true) → F r = true) (m0 : fi (b + 47) 0 = nI n0) (m3 : fi (b + 47) 3 = nI x0) : ∀ (m p q : Nat) (ia : Nat → Nat → Int32), LX b ia fi S kd lf rt → p + m = S → m < q → (∀ r, r < S → sB (ia (b + 35)) 0 r = K r) → (∀ r, p ≤ r → r < S → sB (ia (b + 45)) j r = F r) → (∀ r, r < p → meV kd lf rt K F (sB (ia (b + 45)) j) r ∧ (sB (ia (b + 45)) j r = true → F r = true)) → ∃ (ia1 fi1 : Nat → Nat → Int32) (n1 y : Nat), f_X5_meet_2 q (b + 20) (nI j) (nI p) (wr (SK b) ia fi fl qa f) = some (wr (SK b) ia1 fi1 fl qa f) ∧ (∀ r, r < S → meV kd lf rt K F (sB (ia1 (b + 45)) j) r) ∧ (∀ c, c ≠ b + 45 → c ≠ b + 49 → c ≠ b + 50 → ia1 c = ia c) ∧ (∀ i q, i ≠ j → q < 192 → sB (ia1 (b + 45)) i q = sB (ia (b + 45)) i q) ∧ (∀ c i, c ≠ b + 47 → fi1 c i = fi c i) ∧ y < 128 ∧ (∀ q, q < 192 → sB (ia1 (b + 49)) y q = sB (ia1 (b + 45)) j q) ∧ (∀ i q, i ≠ y → q < 192 → sB (ia1 (b + 49)) i q = sB (ia (b + 49)) i q) ∧ n1 ≤ 128 ∧ y + 1 ≤ n1 ∧ fi1 (b + 47) 0 = nI n1 ∧ fi1 (b + 47) 3 = nI (y + 1) ∧ ∀ i, i < n1 → i ≠ y → i < n0 := by
  intro m
  induction m with
  | zero =>
    intro p q ia h hp hq1 hKK hF hV
    obtain ⟨q, rfl⟩ : ∃ k, q = k + 1 := ⟨q - 1, by omega⟩
    have e : p = S := by omega
    subst e
    obtain ⟨ia1, fi1, n1, y, z1, z2, z3, z4, z5, z6, z7, z8, z9, z10, z11, _⟩ := add_m (ia := ia) (fi := fi) (fl := fl) (qa := qa) (f := f) (g := 5) (PS_F b) hj (by omega) hn hx m0 m3
    rw [show nI 5 = (5 : Int32) from rfl] at z1
    have e45 : ia1 (b + 45) = ia (b + 45) := z10 _ (by omega) (by omega)
    refine ⟨ia1, fi1, n1, y, ?_, fun r hr => by rw [e45]; exact (hV r hr).1, fun c c1 c2 c3 => z10 c c2 c3, fun i q _ _ => by rw [e45], z11, z2, fun q hq => by rw [z3 q hq, e45], z4, z5, z6, z7, z8, z9⟩
    rw [f_X5_meet_2]
    simp only [R_20_1, I_22_0, h.1.1, Option.bind_some, if_pos (Int32.le_refl _), R_20_8, R_20_6, ck_47, z1]
  | succ m ih =>
    intro p q ia h hp hq1 hKK hF hV
    obtain ⟨q, rfl⟩ : ∃ k, q = k + 1 := ⟨q - 1, by omega⟩
    have ho := h.2.1
    have hS := ho.2.1
    have hpS : p < S := by omega
    have h151 : p < 151 := by omega
    have hFp := hF p (Nat.le_refl _) hpS
    -- the part stays or goes, and we go on
    have next : ∀ (v : Int32) (x : Bool), (if v = 0 then false else true) = x → meV kd lf rt K F (upB (sB (ia (b + 45)) j) p (F p && x)) p → ∃ (ia1 fi1 : Nat → Nat → Int32) (n1 y : Nat), f_X5_meet_140 (fun a0 a1 a2 a3 => f_X5_meet_2 q a0 a1 a2 a3) (b + 20) (nI j) (nI p) v (wr (SK b) ia fi fl qa f) = some (wr (SK b) ia1 fi1 fl qa f) ∧ (∀ r, r < S → meV kd lf rt K F (sB (ia1 (b + 45)) j) r) ∧ (∀ c, c ≠ b + 45 → c ≠ b + 49 → c ≠ b + 50 → ia1 c = ia c) ∧ (∀ i q, i ≠ j → q < 192 → sB (ia1 (b + 45)) i q = sB (ia (b + 45)) i q) ∧ (∀ c i, c ≠ b + 47 → fi1 c i = fi c i) ∧ y < 128 ∧ (∀ q, q < 192 → sB (ia1 (b + 49)) y q = sB (ia1 (b + 45)) j q) ∧ (∀ i q, i ≠ y → q < 192 → sB (ia1 (b + 49)) i q = sB (ia (b + 49)) i q) ∧ n1 ≤ 128 ∧ y + 1 ≤ n1 ∧ fi1 (b + 47) 0 = nI n1 ∧ fi1 (b + 47) 3 = nI (y + 1) ∧ ∀ i, i < n1 → i ≠ y → i < n0 := by
      intro v x hv hm
      have go : ∀ ia1 : Nat → Nat → Int32, sEw ia ia1 (b + 45) j (upB (sB (ia (b + 45)) j) p (F p && x)) → ∃ (ia2 fi1 : Nat → Nat → Int32) (n1 y : Nat), f_X5_meet_2 q (b + 20) (nI j) (nI (p + 1)) (wr (SK b) ia1 fi fl qa f) = some (wr (SK b) ia2 fi1 fl qa f) ∧ (∀ r, r < S → meV kd lf rt K F (sB (ia2 (b + 45)) j) r) ∧ (∀ c, c ≠ b + 45 → c ≠ b + 49 → c ≠ b + 50 → ia2 c = ia c) ∧ (∀ i q, i ≠ j → q < 192 → sB (ia2 (b + 45)) i q = sB (ia (b + 45)) i q) ∧ (∀ c i, c ≠ b + 47 → fi1 c i = fi c i) ∧ y < 128 ∧ (∀ q, q < 192 → sB (ia2 (b + 49)) y q = sB (ia2 (b + 45)) j q) ∧ (∀ i q, i ≠ y → q < 192 → sB (ia2 (b + 49)) i q = sB (ia (b + 49)) i q) ∧ n1 ≤ 128 ∧ y + 1 ≤ n1 ∧ fi1 (b + 47) 0 = nI n1 ∧ fi1 (b + 47) 3 = nI (y + 1) ∧ ∀ i, i < n1 → i ≠ y → i < n0 := by
        intro ia1 a2
        have e35 : ia1 (b + 35) = ia (b + 35) := a2.1 _ (by omega)
        obtain ⟨ia2, fi2, n1, y, b1, b2, b3, b4, b5, b6, b7, b8, b9⟩ := ih (p + 1) q ia1 ((a2.L (j := j) (fi := fi) (Or.inr (Or.inr rfl)) (Nat.le_refl j)).lx h) (by omega) (by omega) (by rw [e35]; exact hKK) (fun r r1 r2 => by
          rw [a2.2.2 r (by omega)]
          unfold upB
          rw [if_neg (by omega)]
          exact hF r (by omega) r2) (fun r hr => by
          by_cases e : r = p
          · subst e
            refine ⟨hm.up ho hpS (fun q hq => a2.2.2 q (by omega)), fun h1 => ?_⟩
            rw [a2.2.2 r (by omega), upB_s, Bool.and_eq_true] at h1
            exact h1.1
          · refine ⟨(hV r (by omega)).1.up ho (by omega) (fun q hq => ?_), fun h1 => (hV r (by omega)).2 ?_⟩
            · rw [a2.2.2 q (by omega)]
              unfold upB
              rw [if_neg (by omega)]
            · rw [a2.2.2 r (by omega)] at h1
              unfold upB at h1
              rw [if_neg e] at h1
              exact h1)
        exact ⟨ia2, fi2, n1, y, b1, b2, fun c c1 c2 c3 => (b3 c c1 c2 c3).trans (a2.1 c c1), fun i q hi hq => (b4 i q hi hq).trans (a2.2.1 i hi q hq), b5, b6, b7, fun i q hi hq => (b8 i q hi hq).trans (by rw [a2.1 _ (by omega)]), b9⟩
      unfold f_X5_meet_140
      by_cases c : v = 0
      · rw [if_pos c] at hv
        subst hv
        obtain ⟨ia1, a1, a2⟩ := remove_s (ia := ia) (fi := fi) (fl := fl) (qa := qa) (f := f) (PS_F b) hj (show p < 192 by omega)
        rw [if_pos c]
        obtain ⟨ia2, fi2, n1, y, b1, bb⟩ := go ia1 (a2.ext (fun q _ => by rw [Bool.and_false]))
        refine ⟨ia2, fi2, n1, y, ?_, bb⟩
        unfold f_X5_meet_156
        simp only [R_20_6, ps_ck (PS_F b), a1, Option.bind_some, nI_1]
        exact b1
      · rw [if_neg c] at hv
        subst hv
        rw [if_neg c]
        obtain ⟨ia2, fi2, n1, y, b1, bb⟩ := go ia ((sEw.rf j).ext (fun q _ => by
          unfold upB
          by_cases e : q = p
          · rw [if_pos e, e, Bool.and_true, hFp]
          · rw [if_neg e]))
        refine ⟨ia2, fi2, n1, y, ?_, bb⟩
        unfold f_X5_meet_156
        rw [nI_1]
        exact b1
    rw [f_X5_meet_2]
    simp only [R_20_1, I_22_0, h.1.1, Option.bind_some, if_neg (nI_ge hpS (show S < 2 ^ 31 by omega)), R_20_6, R_22_1, R_22_2, R_22_3, An_23 h151, An_24 h151, An_25 h151, h.1.2.1 p hpS, ps_ck (PS_F b)]
    by_cases c6 : p < 6
    · have ek := ho.2.2.1 p c6
      obtain ⟨v1, hv1⟩ := has_any (ia := ia) (fi := fi) (fl := fl) (qa := qa) (f := f) (PS_F b) (k := j) (ia (b + 24) p)
      obtain ⟨v2, hv2⟩ := has_any (ia := ia) (fi := fi) (fl := fl) (qa := qa) (f := f) (PS_F b) (k := j) (ia (b + 25) p)
      simp only [hv1, hv2, Option.bind_some]
      rw [if_neg (show ¬ (5 : Int32) < nI (kd p) from nI_nlt (a := 5) (b := kd p) (by omega) (by decide))]
      simp only [R_20_2, ck_33, k_has (show p < 192 by omega), Option.bind_some]
      refine next _ (sB (ia (b + 35)) 0 p) (by cases sB (ia (b + 35)) 0 p <;> rfl) ⟨fun _ => ?_, fun h6 => by omega⟩
      rw [upB_s, hKK p hpS]
      cases hk : K p with
      | false => rw [Bool.and_false]
      | true => rw [hK6 p c6 hk]; rfl
    · obtain ⟨o1, o2, o3, o4, o5⟩ := ho.2.2.2.1 p (by omega) hpS
      have hm := h.1.2.2 p (by omega) hpS
      have q7 : (nI (kd p) = (7 : Int32)) = (kd p = 7) := propext (nI_eq (b := 7) (by omega) (by decide))
      have q8 : (nI (kd p) = (8 : Int32)) = (kd p = 8) := propext (nI_eq (b := 8) (by omega) (by decide))
      have fl1 := (hV (lf p) o3).2
      have fr1 := (hV (rt p) o4).2
      simp only [hm.1, hm.2, has_s (PS_F b) hj (show lf p < 192 by omega), has_s (PS_F b) hj (show rt p < 192 by omega), Option.bind_some, q7, q8, b01]
      rw [if_pos (show (5 : Int32) < nI (kd p) from nI_lt (a := 5) (by omega) (by omega))]
      -- the value that is due
      have fin : ∀ x : Bool, ((kd p = 7 → (x = true ↔ sB (ia (b + 45)) j (lf p) = true ∧ sB (ia (b + 45)) j (rt p) = true)) ∧ (kd p = 8 → (x = true ↔ sB (ia (b + 45)) j (lf p) = true ∨ sB (ia (b + 45)) j (rt p) = true)) ∧ (kd p = 9 ∨ kd p = 6 → (x = true ↔ (sB (ia (b + 45)) j (lf p) = true → sB (ia (b + 45)) j (rt p) = true)))) → meV kd lf rt K F (upB (sB (ia (b + 45)) j) p (F p && x)) p := fun x hx => ⟨fun h => by omega, fun _ => by
        have e1 : upB (sB (ia (b + 45)) j) p (F p && x) (lf p) = sB (ia (b + 45)) j (lf p) := if_neg (by omega)
        have e2 : upB (sB (ia (b + 45)) j) p (F p && x) (rt p) = sB (ia (b + 45)) j (rt p) := if_neg (by omega)
        rw [upB_s, e1, e2, Bool.and_eq_true]
        refine ⟨fun c7 => ⟨fun h => (hx.1 c7).mp h.2, fun h => ⟨hF7 p (by omega) hpS c7 (fl1 h.1) (fr1 h.2), (hx.1 c7).mpr h⟩⟩, fun c8 => ⟨fun h => (hx.2.1 c8).mp h.2, fun h => ⟨hF8 p (by omega) hpS c8 (h.imp fl1 fr1), (hx.2.1 c8).mpr h⟩⟩, fun c9 => ⟨fun h => ⟨h.1, (hx.2.2 c9).mp h.2⟩, fun h => ⟨h.1, (hx.2.2 c9).mpr h.2⟩⟩⟩⟩
      have z0 : f_X5_meet_98 (fun a0 a1 a2 a3 => f_X5_meet_2 q a0 a1 a2 a3) (b + 20) (nI j) (nI p) (wr (SK b) ia fi fl qa f) = f_X5_meet_140 (fun a0 a1 a2 a3 => f_X5_meet_2 q a0 a1 a2 a3) (b + 20) (nI j) (nI p) 0 (wr (SK b) ia fi fl qa f) := rfl
      have z1 : f_X5_meet_118 (fun a0 a1 a2 a3 => f_X5_meet_2 q a0 a1 a2 a3) (b + 20) (nI j) (nI p) (wr (SK b) ia fi fl qa f) = f_X5_meet_140 (fun a0 a1 a2 a3 => f_X5_meet_2 q a0 a1 a2 a3) (b + 20) (nI j) (nI p) 1 (wr (SK b) ia fi fl qa f) := rfl
      have z2 : f_X5_meet_135 (fun a0 a1 a2 a3 => f_X5_meet_2 q a0 a1 a2 a3) (b + 20) (nI j) (nI p) (wr (SK b) ia fi fl qa f) = f_X5_meet_140 (fun a0 a1 a2 a3 => f_X5_meet_2 q a0 a1 a2 a3) (b + 20) (nI j) (nI p) 1 (wr (SK b) ia fi fl qa f) := rfl
      rw [z0, z1, z2]
      by_cases c7 : kd p = 7
      · rw [if_pos c7]
        cases hl : sB (ia (b + 45)) j (lf p) with
        | false =>
          rw [if_pos (rfl : false = false)]
          exact next 0 false rfl (fin false ⟨fun _ => by rw [hl]; simp, fun e => by omega, fun e => by omega⟩)
        | true =>
          rw [if_neg (show ¬ true = false by decide)]
          cases hr : sB (ia (b + 45)) j (rt p) with
          | false =>
            rw [if_pos (rfl : false = false)]
            exact next 0 false rfl (fin false ⟨fun _ => by rw [hr]; simp, fun e => by omega, fun e => by omega⟩)
          | true =>
            rw [if_neg (show ¬ true = false by decide)]
            exact next 1 true rfl (fin true ⟨fun _ => by rw [hl, hr]; simp, fun e => by omega, fun e => by omega⟩)
      · rw [if_neg c7]
        by_cases c8 : kd p = 8
        · rw [if_pos c8]
          cases hl : sB (ia (b + 45)) j (lf p) with
          | true =>
            rw [if_neg (show ¬ true = false by decide)]
            exact next 1 true rfl (fin true ⟨fun e => by omega, fun _ => by rw [hl]; simp, fun e => by omega⟩)
          | false =>
            rw [if_pos (rfl : false = false)]
            cases hr : sB (ia (b + 45)) j (rt p) with
            | false =>
              rw [if_pos (rfl : false = false)]
              exact next 0 false rfl (fin false ⟨fun e => by omega, fun _ => by rw [hl, hr]; simp, fun e => by omega⟩)
            | true =>
              rw [if_neg (show ¬ true = false by decide)]
              exact next 1 true rfl (fin true ⟨fun e => by omega, fun _ => by rw [hr]; simp, fun e => by omega⟩)
        · rw [if_neg c8]
          cases hl : sB (ia (b + 45)) j (lf p) with
          | false =>
            rw [if_pos (rfl : false = false)]
            exact next 1 true rfl (fin true ⟨fun e => by omega, fun e => by omega, fun _ => by rw [hl]; simp⟩)
          | true =>
            rw [if_neg (show ¬ true = false by decide)]
            cases hr : sB (ia (b + 45)) j (rt p) with
            | false =>
              rw [if_pos (rfl : false = false)]
              exact next 0 false rfl (fin false ⟨fun e => by omega, fun e => by omega, fun _ => by rw [hl, hr]; simp⟩)
            | true =>
              rw [if_neg (show ¬ true = false by decide)]
              exact next 1 true rfl (fin true ⟨fun e => by omega, fun e => by omega, fun _ => by rw [hr]; simp⟩)
end FIRST
