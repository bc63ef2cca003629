/-! THE CLASS FINDS WHAT FOLLOWS -/
section FOUND
variable {b : Nat} {fl : Nat → Nat → Int64} {qa : Nat → Nat → Option Nat} {f : mmF} {S : Nat} {kd lf rt : Nat → Nat}
theorem FU_big : 40000 ≤ FU := Nat.le_trans (show 40000 ≤ 2 ^ 7000 from Nat.le_trans (show 40000 ≤ 2 ^ 16 by decide) (Nat.pow_le_pow_right (by decide) (by decide))) FU_ge
theorem proves_n : ∀ (n j wanted : Nat) (ia fi : Nat → Nat → Int32) (x z : Nat) (O : Nat → Nat), 153 ≤ n + j → wanted < S → pvP b ia fi S kd lf rt j x z O → ∃ (v : Int32) (ia1 fi1 : Nat → Nat → Int32) (z1 : Nat) (O1 : Nat → Nat), f_X5_proves n (b + 20) (nI j) (nI wanted) (wr (SK b) ia fi fl qa f) = some (v, wr (SK b) ia1 fi1 fl qa f) ∧ pvI b ia1 fi1 S kd lf rt ∧ fG b j ia fi ia1 fi1 ∧ TX b x z1 O O1 ia ia1 ∧ TRL b ia1 fi1 S z1 O1 ∧ pvV b S kd lf rt j ia1 (sB (ia (b + 35)) 0) wanted v := by
  intro n
  induction n with
  | zero =>
    intro j wanted ia fi x z O hn hw hP
    exfalso
    have h1 := hP.1.2.1.le
    have h2 := hP.1.2.2.2.2.1
    have h3 := hP.1.1.1.2.1.2.1
    omega
  | succ n ih =>
    intro j wanted ia fi x z O hn hw hP
    obtain ⟨⟨hI, tr, hsg, h4, hjz, hst, hxz⟩, has⟩ := hP
    have ho := hI.1.2.1
    have hS := ho.2.1
    have hz := tr.le
    have hj : j + 1 < 153 := by omega
    have hj0 : j < 153 := by omega
    obtain ⟨ia1, fi1, g, z1, O1, a1, a2, a3, a4, a5, a6, a7, a8, a9, a10, a11, a12⟩ := opengoal_c (fl := fl) (qa := qa) (f := f) hj0 hI.1 hw tr hsg
    have hI1 := a4.I hI
    have hz1 := a6.1
    have hK01 : ∀ q, q < 192 → sB (ia (b + 35)) 0 q = true → sB (ia1 (b + 35)) 0 q = true := fun q hq hk => a6.le tr a7 hq hk
    -- a stage that will do
    have found : ∀ ia2 : Nat → Nat → Int32, sEw ia1 ia2 (b + 45) j (sB (ia2 (b + 45)) j) → RSet S kd lf rt (sB (ia2 (b + 45)) j) → (∀ p, p < S → sB (ia1 (b + 35)) 0 p = true → sB (ia2 (b + 45)) j p = true) → sB (ia2 (b + 45)) j g = false → pvI b ia2 fi1 S kd lf rt ∧ fG b j ia fi ia2 fi1 ∧ TX b x z1 O O1 ia ia2 ∧ TRL b ia2 fi1 S z1 O1 ∧ pvV b S kd lf rt j ia2 (sB (ia (b + 35)) 0) wanted 0 := fun ia2 e1 e2 e3 e4 => by
      have hL2 : fL b j ia1 fi1 ia2 fi1 := e1.L (Or.inr (Or.inr rfl)) (Nat.le_refl j)
      exact ⟨hL2.I hI1, (a4.G).tr hL2.G, (a6.sub hxz).cg (fun r q _ => by rw [e1.1 _ (by omega)]), a7.cg (e1.1 _ (by omega)) (e1.1 _ (by omega)) rfl, Or.inr ⟨rfl, e2, fun p hp hk => e3 p hp (hK01 p (by omega) hk), a11 _ e2 e3 e4⟩⟩
    -- what was used
    have shown : ∀ U : Nat → Bool, (∀ q, q < 192 → U q = true → sB (ia1 (b + 35)) 0 q = true) → Prv S kd lf rt U g → Prv S kd lf rt (fun q => U q && sB (ia (b + 35)) 0 q) wanted ∧ (¬ (kd wanted = 9 ∨ kd wanted = 6) → ∀ q, q < 192 → U q = true → sB (ia (b + 35)) 0 q = true) := fun U e1 e2 => ⟨a10 U (e2.mono (fun p hp hk => Bool.and_eq_true_iff.mpr ⟨hk, e1 p (by omega) hk⟩)), fun hnn q hq hk => (a12 hnn).2.2 q hq (e1 q hq hk)⟩
    have used : ∀ ia2 : Nat → Nat → Int32, sEw ia1 ia2 (b + 41) j (sB (ia2 (b + 41)) j) → (∀ q, q < 192 → sB (ia2 (b + 41)) j q = true → sB (ia1 (b + 35)) 0 q = true) → Prv S kd lf rt (sB (ia2 (b + 41)) j) g → pvI b ia2 fi1 S kd lf rt ∧ fG b j ia fi ia2 fi1 ∧ TX b x z1 O O1 ia ia2 ∧ TRL b ia2 fi1 S z1 O1 ∧ pvV b S kd lf rt j ia2 (sB (ia (b + 35)) 0) wanted 1 := fun ia2 e1 e2 e3 => by
      have hL2 : fL b j ia1 fi1 ia2 fi1 := e1.L (Or.inl rfl) (Nat.le_refl j)
      exact ⟨hL2.I hI1, (a4.G).tr hL2.G, (a6.sub hxz).cg (fun r q _ => by rw [e1.1 _ (by omega)]), a7.cg (e1.1 _ (by omega)) (e1.1 _ (by omega)) rfl, Or.inl ⟨rfl, shown _ e2 e3⟩⟩
    rw [f_X5_proves, if_neg (nI_pos (show j < 2 ^ 31 by omega)), nI_1, if_pos (show nI (j + 1) < (153 : Int32) from nI_lt (b := 153) hj (by decide))]
    simp only [ck_20, a1, Option.bind_some]
    rcases meets_c (fl := fl) (qa := qa) (f := f) hj0 hI1.1 a2 a9 with ⟨b1, b2⟩ | ⟨ia2, b1, b2, b3, b4, b5⟩
    · simp only [ck_20, b1, Option.bind_some, if_true]
      rcases hasmet_c (fl := fl) (qa := qa) (f := f) hj0 a2 hS hI1.2.1 with c1 | ⟨ia2, c1, c2, c3, c4, c5⟩
      · simp only [ck_20, c1, Option.bind_some, if_true]
        rcases fails_c (fl := fl) (qa := qa) (f := f) hj0 hI1.1 a2 a7 (fun e5 u hu => by
          apply Classical.byContradiction
          intro hn
          have := b2 u hu (fun p hp hk => Classical.byContradiction (fun h => hn ⟨p, hp, hk, h⟩))
          rw [e5] at this
          exact kT_5 ho () this) with ⟨d1, d2⟩ | ⟨ia2, d1, d2, d3, d4⟩
        · simp only [ck_20, d2, Option.bind_some, if_true]
          rcases hasproved_c (fl := fl) (qa := qa) (f := f) hj0 a2 hS hI1.2.2 with e1 | ⟨ia2, e1, e2, e3, e4⟩
          · simp only [ck_20, e1, Option.bind_some, if_true]
            obtain ⟨t, ia3, fi3, z3, O3, u1, u2', u3, u4, u5, u6, u7, u8, u9⟩ := first_c (fl := fl) (qa := qa) (f := f) hj0 hI1.1 a2 a7 (by omega)
            have hI3 := u2'.I hI1
            have hz3 := u4.1
            have ha3 : ASM b ia3 O3 x z1 := ((has.tx a6).app a8).tx u4
            have e46 : ia3 (b + 46) = ia1 (b + 46) := u3 _ (by omega) (by omega) (by omega) (by omega) (by omega) (by omega)
            have hls := u9.ls (K1 := sB (ia1 (b + 35)) 0) hS (show x ≤ z1 by omega) hz3 ha3 u6.rig (fun q hq => by
              rw [a7.2.2.2.1 q hq]
              exact ⟨fun ⟨i, h1, h2⟩ => ⟨i, h1, (u4.2.1 i h1).trans h2⟩, fun ⟨i, h1, h2⟩ => ⟨i, h1, (u4.2.1 i h1).symm.trans h2⟩⟩) u8
            have h39 : ia3 (b + 39) j = nI x := (u2'.2.2.1 j (Nat.le_refl j)).trans ((a4.2.2.1 j (Nat.le_refl j)).trans hst)
            obtain ⟨r, ia4, fi4, z4, O4, y1, y2, y3, y4, y5, y6⟩ := loop_c (fl := fl) (qa := qa) (f := f) hj a2 a3 (fun u0 u1 u2 g => f_X5_proves n u0 u1 u2 g) (fun wanted ia fi x z O hw hp => ih (j + 1) wanted ia fi x z O (by omega) hw hp) (200 * (S - z3) + 151) 0 FU t ia3 fi3 z3 O3 (by have := FU_big; omega) (by omega) ⟨hI3, u5, (a9.ext (by rw [e46]) (fun _ _ => rfl)).cq u7, u7.1 4 (by have := ho.1; omega) (hK01 4 (by decide) h4), by omega, h39, by omega⟩ hls
            rw [show nI 0 = (0 : Int32) from rfl] at y1
            simp only [ck_20, u1, Option.bind_some]
            refine ⟨r, ia4, fi4, z4, O4, y1, y2, ((a4.G).tr u2'.G).tr y3, ((a6.tr u4).cut hxz).tr y4, y5, ?_⟩
            rcases y6 with ⟨g1, g2, g3⟩ | ⟨g1, g2, g3, g4⟩
            · exact Or.inl ⟨g1, shown _ g3 g2⟩
            · exact Or.inr ⟨g1, g2, fun p hp hk => g3 p hp (hK01 p (by omega) hk), a11 _ g2 g3 g4⟩
          · simp only [ck_20, e1, Option.bind_some, i10, if_false]
            exact ⟨1, ia2, fi1, z1, O1, rfl, used ia2 e2 e3 e4⟩
        · simp only [ck_20, d1, Option.bind_some, i10, if_false]
          exact ⟨1, ia2, fi1, z1, O1, rfl, used ia2 d2 d3 d4⟩
      · simp only [ck_20, c1, Option.bind_some, i10, if_false]
        exact ⟨0, ia2, fi1, z1, O1, rfl, found ia2 c2 c3 c4 c5⟩
    · simp only [ck_20, b1, Option.bind_some, i10, if_false]
      exact ⟨0, ia2, fi1, z1, O1, rfl, found ia2 b2 b3 b4 b5⟩
variable {K : Nat → Nat} {G : Nat → Nat → Nat} {W V p : Nat} {Pn : Nat → Nat → Nat}
/-- nothing of an older question is known any more -/
theorem kv_7 : ∀ (t q : Nat) (ia fi : Nat → Nat → Int32), t ≤ 151 → t < q → fi (b + 33) 0 = nI t → (∀ i, i < t → ∃ p, p < 192 ∧ ia (b + 36) i = nI p) → (∀ p, p < 192 → sB (ia (b + 35)) 0 p = true → ∃ i, i < t ∧ ia (b + 36) i = nI p) → ∃ ia1 fi1, f_X2_cutTo_7 q (b + 33) 0 (nI t - 1) (wr (SK b) ia fi fl qa f) = some (wr (SK b) ia1 fi1 fl qa f) ∧ (∀ c, c ≠ b + 35 → ia1 c = ia c) ∧ (∀ c i, c ≠ b + 33 → fi1 c i = fi c i) ∧ fi1 (b + 33) 0 = nI 0 ∧ ∀ p, p < 192 → sB (ia1 (b + 35)) 0 p = false := by
  intro t
  induction t with
  | zero =>
    intro q ia fi ht hq h0 h1 h2
    obtain ⟨q, rfl⟩ : ∃ k, q = k + 1 := ⟨q - 1, by omega⟩
    refine ⟨ia, fi, ?_, fun _ _ => rfl, fun _ _ _ => rfl, h0, fun p hp => ?_⟩
    · rw [f_X2_cutTo_7, if_pos (show nI 0 - 1 < 0 by decide)]
    · cases h : sB (ia (b + 35)) 0 p with
      | false => rfl
      | true =>
        obtain ⟨i, hi, _⟩ := h2 p hp h
        exact absurd hi (Nat.not_lt_zero _)
  | succ t ih =>
    intro q ia fi ht hq h0 h1 h2
    obtain ⟨q, rfl⟩ : ∃ k, q = k + 1 := ⟨q - 1, by omega⟩
    obtain ⟨r, hr, hrt⟩ := h1 t (Nat.lt_succ_self t)
    obtain ⟨ia1, a1, a2⟩ := remove_s (ia := ia) (fi := fi) (fl := fl) (qa := qa) (f := f) (PS_K b) (k := 0) (p := r) (by decide) hr
    rw [show nI 0 = (0 : Int32) from rfl] at a1
    have e36 : ia1 (b + 36) = ia (b + 36) := a2.1 _ (by omega)
    obtain ⟨ia2, fi2, b1, b2, b3, b4, b5⟩ := ih q ia1 (u2 fi (b + 33) 0 (nI t)) (by omega) (by omega) (u2_s _ _ _ _) (fun i hi => by rw [e36]; exact h1 i (by omega)) (fun p hp hk => by
      rw [a2.2.2 p hp] at hk
      unfold upB at hk
      by_cases e : p = r
      · rw [if_pos e] at hk; cases hk
      · rw [if_neg e] at hk
        obtain ⟨i, hi, h3⟩ := h2 p hp hk
        rw [e36]
        refine ⟨i, ?_, h3⟩
        by_cases e2 : i = t
        · subst e2
          rw [hrt] at h3
          exact absurd ((nI_eq (by omega) (by omega)).mp h3).symm e
        · omega)
    have hpart : f_X2_part (b + 33) (nI t) (wr (SK b) ia fi fl qa f) = some (nI r) := by
      unfold f_X2_part
      simp only [R_33_3, at_row L_36 (An_36 (show t < 151 by omega)) (show t < 151 by omega) (by decide), hrt, Option.bind_some]
    refine ⟨ia2, fi2, ?_, fun c hc => (b2 c hc).trans (a2.1 c hc), fun c i hc => (b3 c i hc).trans (u2_a _ _ hc), b4, b5⟩
    rw [f_X2_cutTo_7, nI_pred, if_neg (nI_pos (show t < 2 ^ 31 by omega)), if_neg (nI_pos (show t < 2 ^ 31 by omega))]
    simp only [R_33_1, ck_33, hpart, ps_ck (PS_K b), a1, sI_33_0, Option.bind_some]
    rw [show nI t + (-1 : Int32) = nI t - 1 from (Int32.sub_eq_add_neg _ _).symm]
    exact b1
theorem cnS_none : ∀ n : Nat, cnS (fun _ => false) n = 0
  | 0 => rfl
  | n + 1 => by
    show cnS (fun _ => false) n + (if false = true then 1 else 0) = 0
    rw [cnS_none n, if_neg (by decide)]
theorem kv_cut {ia fi : Nat → Nat → Int32} (h : KV b ia fi) (hS : S ≤ 192) : ∃ ia1 fi1, f_X2_cutTo (b + 33) 0 (wr (SK b) ia fi fl qa f) = some (wr (SK b) ia1 fi1 fl qa f) ∧ (∀ c, c ≠ b + 35 → ia1 c = ia c) ∧ (∀ c i, c ≠ b + 33 → fi1 c i = fi c i) ∧ TRL b ia1 fi1 S 0 (fun _ => 0) ∧ ∀ p, p < 192 → sB (ia1 (b + 35)) 0 p = false := by
  obtain ⟨qf, hqf⟩ := FU_1000
  obtain ⟨z, h1, h2, h3, h4⟩ := h
  obtain ⟨ia1, fi1, a1, a2, a3, a4, a5⟩ := kv_7 (fl := fl) (qa := qa) (f := f) z FU ia fi h1 (by omega) h2 h3 h4
  refine ⟨ia1, fi1, ?_, a2, a3, ⟨a4, fun i hi => absurd hi (Nat.not_lt_zero _), fun i j _ hj => absurd hj (Nat.not_lt_zero _), fun p hp => ?_, ?_⟩, a5⟩
  · unfold f_X2_cutTo
    simp only [I_33_0, h2, Option.bind_some]
    exact a1
  · rw [a5 p hp]
    exact ⟨fun h => (by cases h), fun ⟨i, hi, _⟩ => absurd hi (Nat.not_lt_zero _)⟩
  · rw [cnS_ext S (fun p hp => a5 p (by omega)), cnS_none]
theorem found_30 {p : Nat} (hW : W < 32) (hp : p < 5) (hsp : selP K V p) (hs : ∀ i, W.testBit i = true → selP K V i) : ∀ (m i q : Nat) (ia fi : Nat → Nat → Int32) (z : Nat) (O : Nat → Nat), i + m = 5 → m < q → TK b ia fi K G V S kd lf rt Pn 5 → pvP b ia fi S kd lf rt 0 0 z O → (∀ r, r < S → (sB (ia (b + 35)) 0 r = true ↔ r = 4 ∨ ∃ j, j < i ∧ W.testBit j = true ∧ Pn j (K j - 1) = r)) → ∃ (v : Int32) (ia1 fi1 : Nat → Nat → Int32) (z1 : Nat) (O1 : Nat → Nat), f_X5_isFound_30 q (b + 20) (nI W) (nI p) (nI i) (wr (SK b) ia fi fl qa f) = some (v, wr (SK b) ia1 fi1 fl qa f) ∧ pvI b ia1 fi1 S kd lf rt ∧ fG b 0 ia fi ia1 fi1 ∧ TRL b ia1 fi1 S z1 O1 ∧ ∃ K0 : Nat → Bool, (∀ r, r < S → (K0 r = true ↔ r = 4 ∨ ∃ j, j < 5 ∧ W.testBit j = true ∧ Pn j (K j - 1) = r)) ∧ pvV b S kd lf rt 0 ia1 K0 (Pn p (K p - 1)) v := by
  intro m
  induction m with
  | zero =>
    intro i q ia fi z O hi hm ht hP hK
    obtain ⟨q, rfl⟩ : ∃ k, q = k + 1 := ⟨q - 1, by omega⟩
    have h5 : i = 5 := by omega
    subst h5
    obtain ⟨w1, w2⟩ := whole_t (fl := fl) (qa := qa) (f := f) ht hp hsp
    obtain ⟨v, ia1, fi1, z1, O1, a1, a2, a3, a4, a5, a6⟩ := proves_n (fl := fl) (qa := qa) (f := f) 160 0 (Pn p (K p - 1)) ia fi 0 z O (by decide) w2 hP
    rw [show nI 0 = (0 : Int32) from rfl] at a1
    refine ⟨v, ia1, fi1, z1, O1, ?_, a2, a3, a5, sB (ia (b + 35)) 0, hK, a6⟩
    rw [f_X5_isFound_30, if_pos (show (5 : Int32) ≤ nI 5 by decide)]
    simp only [R_20_1, ck_22, w1, a1, Option.bind_some]
    rcases a6 with ⟨rfl, _⟩ | ⟨rfl, _⟩ <;> rfl
  | succ m ih =>
    intro i q ia fi z O hi hm ht hP hK
    obtain ⟨q, rfl⟩ : ∃ k, q = k + 1 := ⟨q - 1, by omega⟩
    have h5 : i < 5 := by omega
    have hS := hP.1.1.1.2.1.2.1
    rw [f_X5_isFound_30, if_neg (show ¬ (5 : Int32) ≤ nI i from nI_ge (b := 5) h5 (by decide))]
    simp only [has_t (show W < 2 ^ 31 from Nat.lt_trans hW (by decide)) (show i < 32 by omega), Option.bind_some]
    cases hw : W.testBit i with
    | false =>
      simp only [if_neg (show ¬ (false = true) by decide), i00, if_true]
      unfold f_X5_isFound_56
      rw [nI_1]
      refine ih (i + 1) q ia fi z O (by omega) (by omega) ht hP (fun r hr => ?_)
      rw [hK r hr]
      constructor
      · rintro (h | ⟨j, h1, h2⟩)
        · exact Or.inl h
        · exact Or.inr ⟨j, by omega, h2⟩
      · rintro (h | ⟨j, h1, h2, h3⟩)
        · exact Or.inl h
        · by_cases e : j = i
          · subst e; rw [hw] at h2; cases h2
          · exact Or.inr ⟨j, by omega, h2, h3⟩
    | true =>
      obtain ⟨w1, w2⟩ := whole_t (fl := fl) (qa := qa) (f := f) ht h5 (hs i hw)
      obtain ⟨⟨hI, tr, hsg, h4, hjz, hst, hxz⟩, has⟩ := hP
      obtain ⟨ia1, fi1, z1, O1, a1, a2, a3, a4, a5, a6, a7, a8, a9, a10⟩ := assume_c (fl := fl) (qa := qa) (f := f) hI.1 (show 0 < 153 by decide) w2 tr hsg
      rw [show nI 0 = (0 : Int32) from rfl] at a1
      simp only [if_true, i10, if_false, R_20_1, ck_22, w1, ck_20, a1, Option.bind_some]
      unfold f_X5_isFound_56
      rw [nI_1]
      have hz1 := a4.1
      obtain ⟨v, ia2, fi2, z2, O2, b1, b2, b3, b4, b5⟩ := ih (i + 1) q ia1 fi1 z1 O1 (by omega) (by omega) (ht.cg (fun a h1 h2 => a3 a (by omega) (by omega) (by omega) (by omega)) (funext fun k => a2.2.1 _ k (by omega))) ⟨⟨a2.I hI, a5, a7, by rw [a8 4 (by decide)]; exact upB_le h4, by omega, (a2.2.2.1 0 (Nat.le_refl 0)).trans hst, Nat.zero_le _⟩, (has.tx a4).app a6⟩ (fun r hr => by
        rw [a8 r (by omega)]
        unfold upB
        by_cases e : r = Pn i (K i - 1)
        · rw [if_pos e]
          exact ⟨fun _ => Or.inr ⟨i, by omega, hw, e.symm⟩, fun _ => rfl⟩
        · rw [if_neg e, hK r hr]
          constructor
          · rintro (h | ⟨j, h1, h2⟩)
            · exact Or.inl h
            · exact Or.inr ⟨j, by omega, h2⟩
          · rintro (h | ⟨j, h1, h2, h3⟩)
            · exact Or.inl h
            · by_cases ej : j = i
              · subst ej; exact absurd h3.symm e
              · exact Or.inr ⟨j, by omega, h2, h3⟩)
      exact ⟨v, ia2, fi2, z2, O2, b1, b2, (a2.G).tr b3, b4, b5⟩
noncomputable def foV (K : Nat → Nat) (G : Nat → Nat → Nat) (W p : Nat) : Int32 := @ite Int32 (FolS K G W p) (Classical.propDecidable _) 1 0
theorem found_c {p : Nat} {ia fi : Nat → Nat → Int32} (hW : W < 32) (hp : p < 5) (hsp : selP K V p) (hs : ∀ i, W.testBit i = true → i < 5 ∧ selP K V i) (hok : ∀ j, j < 5 → 0 < K j → okp (G j) (K j)) (ht : TK b ia fi K G V S kd lf rt Pn 5) (hI : pvI b ia fi S kd lf rt) (hkv : KV b ia fi) : ∃ (ia1 fi1 : Nat → Nat → Int32), f_X5_isFound (b + 20) (nI W) (nI p) (wr (SK b) ia fi fl qa f) = some (foV K G W p, wr (SK b) ia1 fi1 fl qa f) ∧ pvI b ia1 fi1 S kd lf rt ∧ TK b ia1 fi1 K G V S kd lf rt Pn 5 ∧ (∀ c, c < b + 33 ∨ b + 55 ≤ c → ia1 c = ia c) ∧ (∀ c i, c < b + 33 ∨ b + 55 ≤ c → fi1 c i = fi c i) ∧ KV b ia1 fi1 := by
  obtain ⟨qf, hqf⟩ := FU_1000
  have hX := hI.1
  have ho := hX.2.1
  have hS := ho.2.1
  have hS6 := ho.1
  obtain ⟨iaA, fiA, a1, a2, a3, a4, a5⟩ := kv_cut (S := S) (fl := fl) (qa := qa) (f := f) hkv (by omega)
  -- the first row of starts and of single stages
  obtain ⟨iaB, hiaB⟩ : ∃ iaB, iaB = u2 (u2 iaA (b + 39) 0 0) (b + 46) 0 (-1) := ⟨_, rfl⟩
  have eB : ∀ c, c ≠ b + 39 → c ≠ b + 46 → iaB c = iaA c := fun c c1 c2 => by rw [hiaB, u2_row _ _ c2, u2_row _ _ c1]
  have eB39 : iaB (b + 39) 0 = 0 := by rw [hiaB, u2_a _ _ (show b + 39 ≠ b + 46 by omega), u2_s]
  have eB46 : iaB (b + 46) 0 = -1 := by rw [hiaB, u2_s]
  have trB : TRL b iaB fiA S 0 (fun _ => 0) := a4.cg (eB _ (by omega) (by omega)) (eB _ (by omega) (by omega)) rfl
  have k4 : sB (iaB (b + 35)) 0 4 = false := by rw [eB _ (by omega) (by omega)]; exact a5 4 (by decide)
  have hF4 : fN kd lf rt (fun _ => 65535) 0 0 4 < 65536 := fN_lt _ 0 0 ho 4 (by omega)
  have hm1 : (-1 : Int32) &&& nI (fN kd lf rt (fun _ => 65535) 0 0 4) = nI (fN kd lf rt (fun _ => 65535) 0 0 4) := by
    rw [m1_n, fa_and, Nat.and_comm, show (4294967295 : Nat) = 2 ^ 32 - 1 from rfl, Nat.and_two_pow_sub_one_of_lt_two_pow (Nat.lt_trans hF4 (by decide))]
  rcases infer_c (fl := fl) (qa := qa) (f := f) hS trB (show 4 < S by omega) (show 4 < 192 by decide) (show 4 < 192 by decide) with ⟨k1, _⟩ | ⟨_, iaC, fiC, b1, b2, b3, b4, b5, b6, b7, b8⟩
  · rw [k4] at k1; cases k1
  obtain ⟨iaD, hiaD⟩ : ∃ iaD, iaD = u2 iaC (b + 46) 0 (nI (fN kd lf rt (fun _ => 65535) 0 0 4)) := ⟨_, rfl⟩
  have eD : ∀ c, c ≠ b + 46 → iaD c = iaC c := fun c c1 => by rw [hiaD, u2_row _ _ c1]
  have trD : TRL b iaD fiC S 1 (upN (fun _ => 0) 0 4) := b8.cg (eD _ (by omega)) (eD _ (by omega)) rfl
  have fr1 : ∀ c, c ≠ b + 35 → c ≠ b + 36 → c ≠ b + 38 → c ≠ b + 39 → c ≠ b + 46 → iaD c = ia c := fun c c1 c2 c3 c4 c5 => (eD c c5).trans ((b2 c c1 c2 c3).trans ((eB c c4 c5).trans (a2 c c1)))
  have fr2 : ∀ c i, c ≠ b + 33 → fiC c i = fi c i := fun c i hc => (b3 c i hc).trans (a3 c i hc)
  have hK : ∀ r, r < 192 → sB (iaD (b + 35)) 0 r = decide (r = 4) := fun r hr => by
    rw [eD _ (by omega), b6 r hr]
    unfold upB
    by_cases e : r = 4
    · rw [if_pos e, decide_eq_true e]
    · rw [if_neg e, eB _ (by omega) (by omega), a5 r hr, decide_eq_false e]
  have hID : pvI b iaD fiC S kd lf rt := by
    obtain ⟨_, ⟨n, y, m1, m2, m3, m4, m5⟩, ⟨n', y', p1, p2, p3, p4, p5⟩⟩ := hI
    refine ⟨hX.cg (fun a h1 h2 => fr1 a (by omega) (by omega) (by omega) (by omega) (by omega)) (funext fun k => fr2 _ k (by omega)), ⟨n, y, m1, m2, (fr2 _ _ (by omega)).trans m3, (fr2 _ _ (by omega)).trans m4, fun i hi => ?_⟩, ⟨n', y', p1, p2, (fr2 _ _ (by omega)).trans p3, (fr2 _ _ (by omega)).trans p4, fun i hi => ?_⟩⟩
    · rw [fr1 (b + 49) (by omega) (by omega) (by omega) (by omega) (by omega)]; exact m5 i hi
    · rw [fr1 (b + 53) (by omega) (by omega) (by omega) (by omega) (by omega), fr1 (b + 54) (by omega) (by omega) (by omega) (by omega) (by omega)]; exact p5 i hi
  have hsg : SG b iaD S kd lf rt 0 (sB (iaD (b + 35)) 0) := by
    refine ⟨_, hF4, by rw [hiaD, u2_s], fun u hu => ?_⟩
    rw [fN_kT1 ho hu (by omega)]
    constructor
    · intro h r hr hk
      rw [hK r (by omega), decide_eq_true_eq] at hk
      rw [hk]; exact h
    · intro h
      exact h 4 (by omega) (by rw [hK 4 (by decide)]; rfl)
  have hasm : ASM b iaD (upN (fun _ => 0) 0 4) 0 1 := fun i h1 h2 q hq => by
    have e : i = 0 := by omega
    subst e
    rw [upN_s, eD _ (by omega), b5 q hq]
    exact ⟨fun h => h.elim id id, fun h => Or.inl h⟩
  have h39 : iaD (b + 39) 0 = nI 0 := by rw [eD _ (by omega), b2 _ (by omega) (by omega) (by omega)]; exact eB39
  obtain ⟨v, ia3, fi3, z3, O3, c1, c2, c3, c4, K0, c5, c6⟩ := found_30 (b := b) (fl := fl) (qa := qa) (f := f) (S := S) (kd := kd) (lf := lf) (rt := rt) (K := K) (G := G) (W := W) (V := V) (Pn := Pn) hW hp hsp (fun i hi => (hs i hi).2) 5 0 FU iaD fiC 1 (upN (fun _ => 0) 0 4) (by omega) (by omega) (ht.cg (fun a h1 h2 => fr1 a (by omega) (by omega) (by omega) (by omega) (by omega)) (funext fun k => fr2 _ k (by omega))) ⟨⟨hID, trD, hsg, by rw [hK 4 (by decide)]; rfl, Nat.le_refl _, h39, Nat.zero_le _⟩, hasm⟩ (fun r hr => by
    rw [hK r (by omega), decide_eq_true_eq]
    exact ⟨fun h => Or.inl h, fun h => h.elim id (fun ⟨j, h1, _⟩ => absurd h1 (Nat.not_lt_zero _))⟩)
  rw [show nI 0 = (0 : Int32) from rfl] at c1
  have out1 : ∀ c, c < b + 33 ∨ b + 55 ≤ c → ia3 c = ia c := fun c hc => (c3.1 c (by omega) (by omega) (by omega) (by omega) (by omega) (by omega) (by omega) (by omega) (by omega) (by omega) (by omega) (by omega)).trans (fr1 c (by omega) (by omega) (by omega) (by omega) (by omega))
  have out2 : ∀ c i, c < b + 33 ∨ b + 55 ≤ c → fi3 c i = fi c i := fun c i hc => (c3.2.1 c i (by omega) (by omega) (by omega)).trans (fr2 c i (by omega))
  -- what it means
  have hnp : ∀ j, j < 5 → selP K V j → NP (G j) S kd lf rt (Pn j) (K j) := fun j hj hsj => ht.np hj hsj
  have hkN : ∀ (X : Type) (R : X → X → Prop) (Vv : Nat → X → Prop) (w : X) (j : Nat), j < 5 → selP K V j → (kT R Vv kd lf rt (Pn j (K j - 1)) w ↔ kN R Vv (G j) (K j - 1) w) := fun X R Vv w j hj hsj => kT_N ho (hok j hj hsj.1) (hnp j hj hsj) (by have := hsj.1; omega) w
  have hPn : ∀ j, j < 5 → selP K V j → Pn j (K j - 1) < S := fun j hj hsj => (hnp j hj hsj (K j - 1) (by have := hsj.1; omega)).1
  have hfol : Prv S kd lf rt K0 (Pn p (K p - 1)) ↔ FolS K G W p := by
    constructor
    · intro h X R Vv w hk hw
      rw [← hkN X R Vv w p hp hsp]
      refine h X R Vv w hk (fun r hr hkr => ?_)
      rcases (c5 r hr).mp hkr with rfl | ⟨j, j1, j2, rfl⟩
      · exact kT_4 ho w
      · exact (hkN X R Vv w j j1 (hs j j2).2).mpr (hw j j1 j2)
    · intro h X R Vv w hk hw
      rw [hkN X R Vv w p hp hsp]
      refine h X R Vv w hk (fun j j1 j2 => ?_)
      rw [← hkN X R Vv w j j1 (hs j j2).2]
      exact hw _ (hPn j j1 (hs j j2).2) ((c5 _ (hPn j j1 (hs j j2).2)).mpr (Or.inr ⟨j, j1, j2, rfl⟩))
  have hv : v = foV K G W p := by
    unfold foV
    rcases c6 with ⟨rfl, h, _⟩ | ⟨rfl, h1, h2, h3⟩
    · rw [if_pos (hfol.mp (h.mono (fun p hp hk => (Bool.and_eq_true_iff.mp hk).2)))]
    · rw [if_neg (fun h => ?_)]
      obtain ⟨X, R, Vv, w, hk, hw⟩ := h1
      have := (hw _ (hPn p hp hsp)).mpr (hfol.mpr h X R Vv w hk (fun r hr hkr => (hw r hr).mp (h2 r hr hkr)))
      rw [h3] at this
      cases this
  refine ⟨ia3, fi3, ?_, c2, ht.cg (fun a h1 h2 => out1 a (by omega)) (funext fun k => out2 _ k (by omega)), out1, out2, c4.kv hS⟩
  have hs4 := singles_c (fl := fl) (qa := qa) (f := f) (b := b) (ia := iaC) (fi := fiC) (S := S) (kd := kd) (lf := lf) (rt := rt) (hX.cg (fun a h1 h2 => (b2 a (by omega) (by omega) (by omega)).trans ((eB a (by omega) (by omega)).trans (a2 a (by omega)))) (funext fun k => fr2 _ k (by omega))) (show 4 < S by omega)
  rw [show nI 4 = (4 : Int32) from rfl] at hs4 b1
  have eC46 : iaC (b + 46) 0 = -1 := by rw [b2 _ (by omega) (by omega) (by omega)]; exact eB46
  have s39 : ∀ ia fi : Nat → Nat → Int32, stA 0 (wr (SK b) ia fi fl qa f) (b + 39) (0 : Int32) (0 : Int32) = some (wr (SK b) (u2 ia (b + 39) 0 0) fi fl qa f) := fun ia fi => sAn_39 (i := 0) (by decide)
  have s46 : ∀ (ia fi : Nat → Nat → Int32) (y : Int32), stA 0 (wr (SK b) ia fi fl qa f) (b + 46) (0 : Int32) y = some (wr (SK b) (u2 ia (b + 46) 0 y) fi fl qa f) := fun ia fi y => sAn_46 (i := 0) (by decide)
  have l46 : ldA 0 (wr (SK b) iaC fiC fl qa f) (b + 46) (0 : Int32) = some (-1) := (An_46 (i := 0) (by decide)).trans (by rw [eC46])
  unfold f_X5_isFound f_X5_assume f_X2_assume
  simp only [R_20_2, ck_33, a1, R_20_3, s39, R_20_7, s46, ck_20, Option.bind_some]
  rw [← hiaB]
  simp only [b1, if_neg (show ¬ (0 : Int32) < 0 by decide), if_neg (show ¬ (153 : Int32) ≤ 0 by decide), R_20_2, ck_33, R_20_7, l46, R_20_0, ck_21, hs4, hm1, s46, Option.bind_some]
  rw [← hiaD, ← hv]
  exact c1
end FOUND
