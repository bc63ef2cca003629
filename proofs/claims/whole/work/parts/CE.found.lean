section FOUND
variable {b : Nat} {qa : Nat → Nat → Option Nat} {f : mmF} {S : Nat} {kd lf rt : Nat → Nat}
theorem FU_40000 : ∃ n : Nat, FU = n + 40000 := FU_k 40000 (Nat.le_trans (show 40000 ≤ 2 ^ 16 by decide) (Nat.pow_le_pow_right (by decide) (by decide)))
theorem proves_n : ∀ (n j wanted : Nat) (ia fi : Nat → Nat → Int32) (fl : Nat → Nat → Int64), 160 ≤ n + j → wanted < S → pvP b ia fi fl qa S kd lf rt j → ∃ (v : Int32) (ia1 fi1 : Nat → Nat → Int32) (fl1 : Nat → Nat → Int64), f_X5_proves n (b + 20) (nI j) (nI wanted) (wr (SK b) ia fi fl qa f) = some (v, wr (SK b) ia1 fi1 fl1 qa f) ∧ pvI b ia1 fi1 fl1 qa S kd lf rt ∧ pF b j ia fi fl ia1 fi1 fl1 ∧ pvV b fl1 S kd lf rt j (sB fl (lA b j 1)) wanted v := by
  intro n
  induction n with
  | zero =>
    intro j wanted ia fi fl hn hw hP
    have h1 := cnS_le (sB fl (lA b j 1)) S
    have h2 := hP.2.2.2.2
    have h3 := hP.1.1.2.1.2.1
    omega
  | succ n ih =>
    intro j wanted ia fi fl hn hw hP
    obtain ⟨qf, hqf⟩ := FU_40000
    obtain ⟨⟨hX, hQ, hM, hPI⟩, hsg, hin, h4, hcn⟩ := id hP
    have ho := hX.2.1
    have hS := ho.2.1
    have hS6 := ho.1
    have hle := cnS_le (sB fl (lA b j 1)) S
    have hj : j + 1 < 153 := by omega
    have hj0 : j < 153 := by omega
    have A1 := K_lA (b := b) hj0 (Nat.le_refl 1) (show 1 ≤ 4 by decide)
    have A2 := K_lA (b := b) hj0 (show 1 ≤ 2 by decide) (show 2 ≤ 4 by decide)
    obtain ⟨fi1, fl1, g, a1, a2, a3, a4, a5, a6, a7, a8⟩ := opengoal_c (ia := ia) (qa := qa) (f := f) hj0 hX hw hsg hin
    have hlF1 := a3.lF (Nat.le_refl j) hj0
    have hI1 := hlF1.I ⟨hX, hQ, hM, hPI⟩
    have n1 : ldN 4 (wr (SK b) ia fi fl qa f) (b + 33) (nI j) = some (lV b j) := N_33 hj0 (hQ.1 j hj0)
    have n2 : ldN 4 (wr (SK b) ia fi fl qa f) (b + 33) (nI (j + 1)) = some (lV b (j + 1)) := N_33 hj (hQ.1 (j + 1) hj)
    -- a stage that will do
    have found : ∀ fl2 : Nat → Nat → Int64, (∀ c, c ≠ lA b j 4 → fl2 c = fl1 c) → RSet S kd lf rt (sB fl2 (lA b j 4)) → (∀ p, p < S → sB fl1 (lA b j 1) p = true → sB fl2 (lA b j 4) p = true) → sB fl2 (lA b j 4) g = false → pvI b ia fi1 fl2 qa S kd lf rt ∧ pF b j ia fi fl ia fi1 fl2 ∧ pvV b fl2 S kd lf rt j (sB fl (lA b j 1)) wanted 0 := fun fl2 e1 e2 e3 e4 => by
      have hlF2 : lF b j fi1 fl1 fi1 fl2 := ⟨fun _ _ _ => rfl, fun c hc => e1 c (by unfold lV at hc; unfold lA; omega)⟩
      exact ⟨hlF2.I hI1, (hlF1.tr hlF2).p, Or.inr ⟨rfl, e2, fun p hp hk => e3 p hp (a6 p hp hk), a8 _ e2 e3 e4⟩⟩
    have q5 : (nI g = (5 : Int32)) = (g = 5) := propext (nI_eq (b := 5) (by omega) (by decide))
    rw [f_X5_proves, if_neg (nI_pos (show j < 2 ^ 31 by omega)), nI_1, if_pos (show nI (j + 1) < (153 : Int32) from nI_lt (b := 153) hj (by decide))]
    simp only [R_20_2, n1, n2, ck_20, a1, Option.bind_some]
    rcases meets_c (qa := qa) (f := f) hj0 hI1.1 a2 a4 with ⟨b1, b2⟩ | ⟨fl2, b1, b2, b3, b4, b5⟩
    · simp only [b1, Option.bind_some, if_true]
      rcases hasmet_c (ia := ia) (f := f) hj0 a2 hS hQ hI1.2.2.1 with c1 | ⟨fl2, c1, c2, c3, c4, c5⟩
      · simp only [c1, Option.bind_some, if_true, q5]
        by_cases e5 : g = 5
        · rw [if_pos e5]
          refine ⟨1, ia, fi1, fl1, by simp only [ck_20, Option.bind_some], hI1, hlF1.p, Or.inl ⟨rfl, a7 (no_single ho.to (fun u hu => ?_) g)⟩⟩
          apply Classical.byContradiction
          intro hn
          have := b2 u hu (fun p hp hk => Classical.byContradiction (fun h => hn ⟨p, hp, hk, h⟩))
          rw [e5] at this
          exact kT_5 ho () this
        · rw [if_neg e5]
          rcases hasproved_c (f := f) hj0 a2 hS hQ hI1.2.2.2 with d1 | ⟨d1, d2⟩
          · simp only [d1, Option.bind_some, if_true]
            obtain ⟨fl2, t1, t2⟩ := take_s (ia := ia) (fi := fi1) (fl := fl1) (qa := qa) (f := f) A2 A1 (by unfold lA; omega)
            have hlF2 := t2.lF (fi := fi1) (Nat.le_refl j)
            have hI2 := hlF2.I hI1
            have eK : sB fl2 (lA b j 1) = sB fl1 (lA b j 1) := t2.o (lA_ne (by decide))
            have hcn1 : j + 1 ≤ cnS (sB fl1 (lA b j 1)) S := Nat.le_trans hcn (cnS_mono S a6)
            obtain ⟨t, fl3, u1, u2', u3, u4, u5, u6⟩ := first_c (qa := qa) (f := f) hj0 hI2.1 a2 (by rw [eK]; exact a5) (by rw [eK]; omega)
            have hlF3 : lF b j fi1 fl2 fi1 fl3 := ⟨fun _ _ _ => rfl, fun c hc => u2' c (by unfold lV at hc; unfold lA; omega) (by unfold lV at hc; unfold lA; omega) (by unfold lV at hc; unfold lA; omega)⟩
            have hI3 := hlF3.I hI2
            rw [eK] at u3
            have eG : sB fl3 (lA b j 2) = sB fl2 (lA b j 2) := sB_c (u2' _ (lA_ne (by decide)) (lA_ne (by decide)) (lA_ne (by decide)))
            have hls := u6.ls hS (K1 := sB fl1 (lA b j 1)) (fun p hp hk => u3.1 p hp hk) (fun h => Prv.cq u3 h) (fun p hp => by rw [eG]; exact t2.2 p (by omega)) (by rw [eG]; exact fun r hr hk => a5 r hr (by rw [← t2.2 r hr]; exact hk)) u5
            have hcn3 := cnS_mono S u3.1
            obtain ⟨r, ia4, fi4, fl4, z1, z2, z3, z4⟩ := loop_c (b := b) (qa := qa) (f := f) (S := S) (kd := kd) (lf := lf) (rt := rt) hj a2 (fun u0 u1 u2 g => f_X5_proves n u0 u1 u2 g) (fun wanted ia fi fl hw hp => ih (j + 1) wanted ia fi fl (by omega) hw hp) (200 * (S - cnS (sB fl3 (lA b j 1)) S) + 151) 0 FU t ia fi1 fl3 (by omega) (by omega) ⟨hI3, a4.cq u3, u4, u3.1 4 (by omega) (a6 4 (by omega) h4), by omega⟩ hls
            rw [show nI 0 = (0 : Int32) from rfl] at z1
            simp only [R_lv hj0 (show 1 < 4 by decide), R_lv hj0 (show 0 < 4 by decide), Nat.zero_add, ps_ck A2, t1, ck_20, u1, Option.bind_some]
            refine ⟨r, ia4, fi4, fl4, z1, z2, (((hlF1.tr hlF2).tr hlF3).p).tr z3, ?_⟩
            rcases z4 with ⟨e1, e2⟩ | ⟨e1, e2, e3, e4⟩
            · exact Or.inl ⟨e1, a7 e2⟩
            · exact Or.inr ⟨e1, e2, fun p hp hk => e3 p hp (a6 p hp hk), a8 _ e2 e3 e4⟩
          · simp only [d1, Option.bind_some, i10, if_false]
            exact ⟨1, ia, fi1, fl1, by simp only [ck_20, Option.bind_some], hI1, hlF1.p, Or.inl ⟨rfl, a7 d2⟩⟩
      · simp only [c1, Option.bind_some, i10, if_false]
        exact ⟨0, ia, fi1, fl2, by simp only [ck_20, Option.bind_some], found fl2 c2 c3 c4 c5⟩
    · simp only [b1, Option.bind_some, i10, if_false]
      exact ⟨0, ia, fi1, fl2, rfl, found fl2 b2 b3 b4 b5⟩
variable {K : Nat → Nat} {G : Nat → Nat → Nat} {W V p : Nat} {Pn : Nat → Nat → Nat}
theorem found_29 {p : Nat} (hW : W < 32) (hp : p < 5) (hsp : selP K V p) (hs : ∀ i, W.testBit i = true → selP K V i) : ∀ (m i q : Nat) (ia fi : Nat → Nat → Int32) (fl : Nat → Nat → Int64), i + m = 5 → m < q → TK b ia fi K G V S kd lf rt Pn 5 → pvP b ia fi fl qa S kd lf rt 0 → (∀ r, r < S → (sB fl (lA b 0 1) r = true ↔ r = 4 ∨ ∃ j, j < i ∧ W.testBit j = true ∧ Pn j (K j - 1) = r)) → ∃ (v : Int32) (ia1 fi1 : Nat → Nat → Int32) (fl1 : Nat → Nat → Int64), f_X5_isFound_29 q (b + 20) (nI W) (nI p) (lV b 0) (nI i) (wr (SK b) ia fi fl qa f) = some (v, wr (SK b) ia1 fi1 fl1 qa f) ∧ pvI b ia1 fi1 fl1 qa S kd lf rt ∧ pF b 0 ia fi fl ia1 fi1 fl1 ∧ ∃ K0 : Nat → Bool, (∀ r, r < S → (K0 r = true ↔ r = 4 ∨ ∃ j, j < 5 ∧ W.testBit j = true ∧ Pn j (K j - 1) = r)) ∧ pvV b fl1 S kd lf rt 0 K0 (Pn p (K p - 1)) v := by
  intro m
  induction m with
  | zero =>
    intro i q ia fi fl hi hm ht hP hK
    obtain ⟨q, rfl⟩ : ∃ k, q = k + 1 := ⟨q - 1, by omega⟩
    have h5 : i = 5 := by omega
    subst h5
    obtain ⟨w1, w2⟩ := whole_t (fl := fl) (qa := qa) (f := f) ht hp hsp
    obtain ⟨v, ia1, fi1, fl1, a1, a2, a3, a4⟩ := proves_n (f := f) 160 0 (Pn p (K p - 1)) ia fi fl (by decide) w2 hP
    rw [show nI 0 = (0 : Int32) from rfl] at a1
    refine ⟨v, ia1, fi1, fl1, ?_, a2, a3, sB fl (lA b 0 1), hK, a4⟩
    rw [f_X5_isFound_29, if_pos (show (5 : Int32) ≤ nI 5 by decide)]
    simp only [R_20_1, ck_22, w1, a1, Option.bind_some]
    rcases a4 with ⟨rfl, _⟩ | ⟨rfl, _⟩ <;> rfl
  | succ m ih =>
    intro i q ia fi fl hi hm ht hP hK
    obtain ⟨q, rfl⟩ : ∃ k, q = k + 1 := ⟨q - 1, by omega⟩
    have h5 : i < 5 := by omega
    have hS := hP.1.1.2.1.2.1
    rw [f_X5_isFound_29, if_neg (show ¬ (5 : Int32) ≤ nI i from nI_ge (b := 5) h5 (by decide))]
    simp only [has_t (show W < 2 ^ 31 from Nat.lt_trans hW (by decide)) (show i < 32 by omega), Option.bind_some]
    cases hw : W.testBit i with
    | false =>
      simp only [if_neg (show ¬ (false = true) by decide), i00, if_true]
      unfold f_X5_isFound_58
      rw [nI_1]
      refine ih (i + 1) q ia fi fl (by omega) (by omega) ht hP (fun r hr => ?_)
      rw [hK r hr]
      constructor
      · rintro (h | ⟨j, h1, h2⟩)
        · exact Or.inl h
        · exact Or.inr ⟨j, by omega, h2⟩
      · rintro (h | ⟨j, h1, h2, h3⟩)
        · exact Or.inl h
        · by_cases e : j = i
          · subst e; rw [hw] at h2; cases h2
          · exact Or.inr ⟨j, by omega, h2, h3⟩
    | true =>
      obtain ⟨w1, w2⟩ := whole_t (fl := fl) (qa := qa) (f := f) ht h5 (hs i hw)
      obtain ⟨hI, hsg, hin, h4, hcn⟩ := hP
      obtain ⟨fi1, fl1, a1, a2, a3⟩ := assume_c (qa := qa) (f := f) hI.1 (show 0 < 153 by decide) w2 hsg
      have hlF := a2.lF (Nat.le_refl 0) (show 0 < 153 by decide)
      have hKe : ∀ r, r < 192 → sB fl1 (lA b 0 1) r = upB (sB fl (lA b 0 1)) (Pn i (K i - 1)) true r := a2.1.2
      simp only [if_true, i10, if_false, R_20_1, ck_22, w1, ck_20, a1, Option.bind_some]
      unfold f_X5_isFound_58
      rw [nI_1]
      obtain ⟨v, ia2, fi2, fl2, b1, b2, b3, b4⟩ := ih (i + 1) q ia fi1 fl1 (by omega) (by omega) (ht.cg (fun _ _ _ => rfl) (funext fun k => a2.2 _ k (Or.inl lV_22.symm))) ⟨hlF.I hI, a3, a2.1.in (upB_in hin w2), by rw [hKe 4 (by decide)]; exact upB_le h4, Nat.le_trans hcn (cnS_mono S (fun r hr hk => by rw [hKe r (by omega)]; exact upB_le hk))⟩ (fun r hr => by
        rw [hKe r (by omega)]
        unfold upB
        by_cases e : r = Pn i (K i - 1)
        · rw [if_pos e]
          exact ⟨fun _ => Or.inr ⟨i, by omega, hw, e.symm⟩, fun _ => rfl⟩
        · rw [if_neg e, hK r hr]
          constructor
          · rintro (h | ⟨j, h1, h2⟩)
            · exact Or.inl h
            · exact Or.inr ⟨j, by omega, h2⟩
          · rintro (h | ⟨j, h1, h2, h3⟩)
            · exact Or.inl h
            · by_cases ej : j = i
              · subst ej; exact absurd h3.symm e
              · exact Or.inr ⟨j, by omega, h2, h3⟩)
      exact ⟨v, ia2, fi2, fl2, b1, b2, hlF.p.tr b3, b4⟩
noncomputable def foV (K : Nat → Nat) (G : Nat → Nat → Nat) (W p : Nat) : Int32 := @ite Int32 (FolS K G W p) (Classical.propDecidable _) 1 0
theorem found_c {p : Nat} {ia fi : Nat → Nat → Int32} {fl : Nat → Nat → Int64} (hW : W < 32) (hp : p < 5) (hsp : selP K V p) (hs : ∀ i, W.testBit i = true → i < 5 ∧ selP K V i) (hok : ∀ j, j < 5 → 0 < K j → okp (G j) (K j)) (ht : TK b ia fi K G V S kd lf rt Pn 5) (hI : pvI b ia fi fl qa S kd lf rt) : ∃ (ia1 fi1 : Nat → Nat → Int32) (fl1 : Nat → Nat → Int64), f_X5_isFound (b + 20) (nI W) (nI p) (wr (SK b) ia fi fl qa f) = some (foV K G W p, wr (SK b) ia1 fi1 fl1 qa f) ∧ pvI b ia1 fi1 fl1 qa S kd lf rt ∧ TK b ia1 fi1 K G V S kd lf rt Pn 5 ∧ pF b 0 ia fi fl ia1 fi1 fl1 := by
  obtain ⟨qf, hqf⟩ := FU_1000
  have hX := hI.1
  have ho := hX.2.1
  have hS := ho.2.1
  have hS6 := ho.1
  have A1 := K_lA (b := b) (j := 0) (by decide) (Nat.le_refl 1) (show 1 ≤ 4 by decide)
  have n1 : ldN 4 (wr (SK b) ia fi fl qa f) (b + 33) (nI 0) = some (lV b 0) := N_33 (by decide) (hI.2.1.1 0 (by decide))
  rw [show nI 0 = (0 : Int32) from rfl] at n1
  obtain ⟨fl1, a1, a2⟩ := fill_s (ia := ia) (fi := fi) (fl := fl) (qa := qa) (f := f) A1 (0 : Int32)
  rw [if_pos rfl] at a2
  obtain ⟨fl2, b1, b2⟩ := set_s (ia := ia) (fi := u2 fi (lV b 0) 4 (-1)) (fl := fl1) (qa := qa) (f := f) A1 (show 4 < 192 by decide) (1 : Int32)
  rw [if_neg (show ¬ (1 : Int32) = 0 by decide), show nI 4 = (4 : Int32) from rfl] at *
  have hlF : lF b 0 fi fl (u2 (u2 fi (lV b 0) 4 (-1)) (lV b 0) 4 (nI (fN kd lf rt (fun _ => 65535) 0 0 4))) fl2 := ⟨fun a i ha => by rw [u2_a _ _ (show a ≠ lV b 0 by unfold lV at *; omega), u2_a _ _ (show a ≠ lV b 0 by unfold lV at *; omega)], fun c hc => (b2.1 c (by unfold lV at hc; unfold lA; omega)).trans (a2.1 c (by unfold lV at hc; unfold lA; omega))⟩
  have hI2 := hlF.I hI
  have hK : ∀ r, r < 192 → sB fl2 (lA b 0 1) r = decide (r = 4) := fun r hr => by
    rw [b2.2 r hr]
    unfold upB
    by_cases e : r = 4
    · rw [if_pos e, decide_eq_true e]
    · rw [if_neg e, a2.2 r hr, decide_eq_false e]
  have hF4 : fN kd lf rt (fun _ => 65535) 0 0 4 < 65536 := fN_lt _ 0 0 ho 4 (by omega)
  have hm1 : (-1 : Int32) &&& nI (fN kd lf rt (fun _ => 65535) 0 0 4) = nI (fN kd lf rt (fun _ => 65535) 0 0 4) := by
    rw [m1_n, fa_and, Nat.and_comm, show (4294967295 : Nat) = 2 ^ 32 - 1 from rfl, Nat.and_two_pow_sub_one_of_lt_two_pow (Nat.lt_trans hF4 (by decide))]
  have hsg : SG b (u2 (u2 fi (lV b 0) 4 (-1)) (lV b 0) 4 (nI (fN kd lf rt (fun _ => 65535) 0 0 4))) S kd lf rt 0 (sB fl2 (lA b 0 1)) := by
    refine ⟨_, hF4, u2_s _ _ _ _, fun u hu => ?_⟩
    rw [fN_kT1 ho hu (by omega)]
    constructor
    · intro h r hr hk
      rw [hK r (by omega), decide_eq_true_eq] at hk
      rw [hk]; exact h
    · intro h
      exact h 4 (by omega) (by rw [hK 4 (by decide)]; rfl)
  have h4 : sB fl2 (lA b 0 1) 4 = true := by rw [hK 4 (by decide)]; rfl
  obtain ⟨v, ia3, fi3, fl3, c1, c2, c3, K0, c4, c5⟩ := found_29 (b := b) (f := f) (S := S) (kd := kd) (lf := lf) (rt := rt) (K := K) (G := G) (W := W) (V := V) (Pn := Pn) hW hp hsp (fun i hi => (hs i hi).2) 5 0 FU ia _ fl2 (by omega) (by omega) (ht.cg (fun _ _ _ => rfl) (funext fun k => hlF.1 _ k (Or.inl (by unfold lV; omega)))) ⟨hI2, hsg, fun r hr hk => (by rw [hK r hr, decide_eq_true_eq] at hk; omega), h4, cnS_pos (show 4 < S by omega) h4⟩ (fun r hr => by
    rw [hK r (by omega), decide_eq_true_eq]
    exact ⟨fun h => Or.inl h, fun h => h.elim id (fun ⟨j, h1, _⟩ => absurd h1 (Nat.not_lt_zero _))⟩)
  rw [show nI 0 = (0 : Int32) from rfl] at c1
  have hpF := (hlF.p (ia := ia)).tr c3
  -- what it means
  have hnp : ∀ j, j < 5 → selP K V j → NP (G j) S kd lf rt (Pn j) (K j) := fun j hj hsj => ht.np hj hsj
  have hkN : ∀ (X : Type) (R : X → X → Prop) (Vv : Nat → X → Prop) (w : X) (j : Nat), j < 5 → selP K V j → (kT R Vv kd lf rt (Pn j (K j - 1)) w ↔ kN R Vv (G j) (K j - 1) w) := fun X R Vv w j hj hsj => kT_N ho (hok j hj hsj.1) (hnp j hj hsj) (by have := hsj.1; omega) w
  have hPn : ∀ j, j < 5 → selP K V j → Pn j (K j - 1) < S := fun j hj hsj => (hnp j hj hsj (K j - 1) (by have := hsj.1; omega)).1
  have hfol : Prv S kd lf rt K0 (Pn p (K p - 1)) ↔ FolS K G W p := by
    constructor
    · intro h X R Vv w hk hw
      rw [← hkN X R Vv w p hp hsp]
      refine h X R Vv w hk (fun r hr hkr => ?_)
      rcases (c4 r hr).mp hkr with rfl | ⟨j, j1, j2, rfl⟩
      · exact kT_4 ho w
      · exact (hkN X R Vv w j j1 (hs j j2).2).mpr (hw j j1 j2)
    · intro h X R Vv w hk hw
      rw [hkN X R Vv w p hp hsp]
      refine h X R Vv w hk (fun j j1 j2 => ?_)
      rw [← hkN X R Vv w j j1 (hs j j2).2]
      exact hw _ (hPn j j1 (hs j j2).2) ((c4 _ (hPn j j1 (hs j j2).2)).mpr (Or.inr ⟨j, j1, j2, rfl⟩))
  have hv : v = foV K G W p := by
    unfold foV
    rcases c5 with ⟨rfl, h⟩ | ⟨rfl, h1, h2, h3⟩
    · rw [if_pos (hfol.mp h)]
    · rw [if_neg (fun h => ?_)]
      obtain ⟨X, R, Vv, w, hk, hw⟩ := h1
      have := (hw _ (hPn p hp hsp)).mpr (hfol.mpr h X R Vv w hk (fun r hr hkr => (hw r hr).mp (h2 r hr hkr)))
      rw [h3] at this
      cases this
  refine ⟨ia3, fi3, fl3, ?_, c2, ht.cg (fun a h1 h2 => hpF.1 a (by omega) (by omega)) (funext fun k => hpF.2.1 _ k (by omega) (by omega) (Or.inl (by unfold lV; omega))), hpF⟩
  unfold f_X5_isFound f_X5_assume
  have ckk : ckO (wr (SK b) ia fi fl qa f) (lA b 0 1) 3 = some () := ps_ck A1
  have hs4 := singles_c (fl := fl2) (qa := qa) (f := f) (b := b) (ia := ia) (fi := u2 fi (lV b 0) 4 (-1)) (S := S) (kd := kd) (lf := lf) (rt := rt) (hX.cg (fun _ _ _ => rfl) (funext fun k => u2_a _ _ (by unfold lV; omega))) (show 4 < S by omega)
  rw [show nI 4 = (4 : Int32) from rfl] at hs4
  simp only [R_20_2, n1, R_lv (b := b) (j := 0) (by decide) (show 0 < 4 by decide), Nat.zero_add, ps_ck A1, a1, sI_lv (b := b) (j := 0) (by decide), ck_20, b1, I_lv (b := b) (j := 0) (by decide), u2_s, R_20_0, ck_21, hs4, hm1, Option.bind_some]
  rw [← hv]
  exact c1
end FOUND
