section LOOP
variable {b : Nat} {qa : Nat → Nat → Option Nat} {f : mmF} {S : Nat} {kd lf rt : Nat → Nat}
theorem loop_c {j g : Nat} {K1 : Nat → Bool} (hj : j + 1 < 153) (hg : g < S) (rc : Nat → Int32 → Int32 → mmF → Option (Int32 × mmF)) (hrc : ∀ (wanted : Nat) (ia fi : Nat → Nat → Int32) (fl : Nat → Nat → Int64), wanted < S → pvP b ia fi fl qa S kd lf rt (j + 1) → ∃ (v : Int32) (ia1 fi1 : Nat → Nat → Int32) (fl1 : Nat → Nat → Int64), rc (b + 20) (nI (j + 1)) (nI wanted) (wr (SK b) ia fi fl qa f) = some (v, wr (SK b) ia1 fi1 fl1 qa f) ∧ pvI b ia1 fi1 fl1 qa S kd lf rt ∧ pF b (j + 1) ia fi fl ia1 fi1 fl1 ∧ pvV b fl1 S kd lf rt (j + 1) (sB fl (lA b (j + 1) 1)) wanted v) : ∀ (M v q : Nat) (t : Int32) (ia fi : Nat → Nat → Int32) (fl : Nat → Nat → Int64), M < q → v + M ≤ 500000 → pvP b ia fi fl qa S kd lf rt j → lpS b j S kd lf rt K1 g t fl M → ∃ (r : Int32) (ia1 fi1 : Nat → Nat → Int32) (fl1 : Nat → Nat → Int64), f_X5_proves_103 rc q (b + 20) (nI j) (lV b j) (lV b (j + 1)) (nI g) t (nI v) (wr (SK b) ia fi fl qa f) = some (r, wr (SK b) ia1 fi1 fl1 qa f) ∧ pvI b ia1 fi1 fl1 qa S kd lf rt ∧ pF b j ia fi fl ia1 fi1 fl1 ∧ pvV b fl1 S kd lf rt j K1 g r := by
  have hj0 : j < 153 := by omega
  intro M
  induction M using Nat.strongRecOn with
  | _ M ih =>
    intro v q t ia fi fl hq hv hP hL
    obtain ⟨q, rfl⟩ : ∃ k, q = k + 1 := ⟨q - 1, by omega⟩
    obtain ⟨⟨hX, hQ, hM, hPI⟩, hsg, hin, h4, hcn⟩ := id hP
    obtain ⟨l1, l2, l3, l4, l5, l6⟩ := hL
    have ho := hX.2.1
    have hS := ho.2.1
    have A1 := K_lA (b := b) hj0 (Nat.le_refl 1) (show 1 ≤ 4 by decide)
    have A2 := K_lA (b := b) hj0 (show 1 ≤ 2 by decide) (show 2 ≤ 4 by decide)
    have A3 := K_lA (b := b) hj0 (show 1 ≤ 3 by decide) (show 3 ≤ 4 by decide)
    have A4 := K_lA (b := b) hj0 (show 1 ≤ 4 by decide) (Nat.le_refl 4)
    have B1 := K_lA (b := b) hj (Nat.le_refl 1) (show 1 ≤ 4 by decide)
    have B4 := K_lA (b := b) hj (show 1 ≤ 4 by decide) (Nat.le_refl 4)
    -- something more is known, and the trials begin anew
    have grow : ∀ (ia' fi' : Nat → Nat → Int32) (fl' : Nat → Nat → Int64) (r : Nat), pvP b ia' fi' fl' qa S kd lf rt j → (∀ i, i ≤ 4 → sB fl' (lA b j i) = sB fl (lA b j i)) → r < S → sB fl (lA b j 1) r = false → (Prv S kd lf rt (upB (sB fl (lA b j 1)) r true) g → Prv S kd lf rt (sB fl (lA b j 1)) g) → 200 * (S - cnS (sB fl (lA b j 1)) S) ≤ M → ∃ (r1 : Int32) (ia1 fi1 : Nat → Nat → Int32) (fl1 : Nat → Nat → Int64), f_X5_proves_232 rc (fun a0 a1 a2 a3 a4 a5 a6 a7 => f_X5_proves_103 rc q a0 a1 a2 a3 a4 a5 a6 a7) (b + 20) (nI j) (lV b j) (lV b (j + 1)) (nI g) (nI v) (b + 20) (lV b j) (nI r) (wr (SK b) ia' fi' fl' qa f) = some (r1, wr (SK b) ia1 fi1 fl1 qa f) ∧ pvI b ia1 fi1 fl1 qa S kd lf rt ∧ pF b j ia' fi' fl' ia1 fi1 fl1 ∧ pvV b fl1 S kd lf rt j K1 g r1 := by
      intro ia' fi' fl' r hP' he hr hr0 hcut hMM
      obtain ⟨hI', hsg', hin', h4', hcn'⟩ := hP'
      obtain ⟨fi1, fl1, a1, a2, a3⟩ := assume_c (qa := qa) (f := f) hI'.1 hj0 hr hsg'
      have hlF1 := a2.lF (Nat.le_refl j) hj0
      have hI1 := hlF1.I hI'
      have hK1e : ∀ p, p < 192 → sB fl1 (lA b j 1) p = upB (sB fl (lA b j 1)) r true p := fun p hp => by
        rw [a2.1.2 p hp, he 1 (by decide)]
      have hin1 : inS S (sB fl1 (lA b j 1)) := a2.1.in (upB_in hin' hr)
      have h41 : sB fl1 (lA b j 1) 4 = true := by rw [hK1e 4 (by decide)]; exact upB_le h4
      have hlt : cnS (sB fl (lA b j 1)) S < cnS (sB fl1 (lA b j 1)) S := cnS_lt S (fun p hp hk => by rw [hK1e p (by omega)]; exact upB_le hk) ⟨r, hr, hr0, by rw [hK1e r (by omega)]; exact upB_s _ _ _⟩
      obtain ⟨t', fl2, b1, b2, b3, b4, b5, b6⟩ := first_c (qa := qa) (f := f) hj0 hI1.1 hg hin1 (by omega)
      have hlF2 : lF b j fi1 fl1 fi1 fl2 := ⟨fun _ _ _ => rfl, fun c hc => b2 c (by unfold lV at hc; unfold lA; omega) (by unfold lV at hc; unfold lA; omega) (by unfold lV at hc; unfold lA; omega)⟩
      have hI2 := hlF2.I hI1
      have hle2 : cnS (sB fl1 (lA b j 1)) S ≤ cnS (sB fl2 (lA b j 1)) S := cnS_mono S b3.1
      have hleS := cnS_le (sB fl2 (lA b j 1)) S
      have e2 : sB fl2 (lA b j 2) = sB fl (lA b j 2) := by
        rw [sB_c (b2 _ (lA_ne (by decide)) (lA_ne (by decide)) (lA_ne (by decide))), a2.1.o (lA_ne (by decide)), he 2 (by decide)]
      have hls : lpS b j S kd lf rt K1 g t' fl2 (200 * (S - cnS (sB fl2 (lA b j 1)) S) + 151) := b6.ls hS (fun p hp hk => b3.1 p hp (by rw [hK1e p (by omega)]; exact upB_le (l1 p hp hk))) (fun h => l2 (hcut ((Prv.cq b3 h).ext (fun p hp => hK1e p (by omega))))) (by rw [e2]; exact l3) (by rw [e2]; exact l4) b5
      obtain ⟨r1, ia3, fi3, fl3, c1, c2, c3, c4⟩ := ih (200 * (S - cnS (sB fl2 (lA b j 1)) S) + 151) (by omega) (v + 1) q t' ia' fi1 fl2 (by omega) (by omega) ⟨hI2, a3.cq b3, b4, b3.1 4 (by have := ho.1; omega) h41, by omega⟩ hls
      refine ⟨r1, ia3, fi3, fl3, ?_, c2, ((hlF1.tr hlF2).p).tr c3, c4⟩
      unfold f_X5_proves_232 f_X5_proves_295
      simp only [ck_20, a1, b1, Option.bind_some, nI_1]
      exact c1
    -- one level deeper
    have deeper : ∀ (p wanted : Nat), 6 ≤ p → p < S → wanted < S → sB fl (lA b j 1) (lf p) = false → ∃ (fi2 : Nat → Nat → Int32) (fl1 fl2 : Nat → Nat → Int64) (v' : Int32) (ia3 fi3 : Nat → Nat → Int32) (fl3 : Nat → Nat → Int64), f_X3_takeFrom (lA b (j + 1) 1) (lA b j 1) (wr (SK b) ia fi fl qa f) = some (wr (SK b) ia fi fl1 qa f) ∧ f_X5_assume (b + 20) (lV b (j + 1)) (nI (lf p)) (wr (SK b) ia (u2 fi (lV b (j + 1)) 4 (fi (lV b j) 4)) fl1 qa f) = some (wr (SK b) ia fi2 fl2 qa f) ∧ rc (b + 20) (nI (j + 1)) (nI wanted) (wr (SK b) ia fi2 fl2 qa f) = some (v', wr (SK b) ia3 fi3 fl3 qa f) ∧ pvP b ia3 fi3 fl3 qa S kd lf rt j ∧ (∀ i, i ≤ 4 → sB fl3 (lA b j i) = sB fl (lA b j i)) ∧ pF b j ia fi fl ia3 fi3 fl3 ∧ ((v' = 1 ∧ Prv S kd lf rt (upB (sB fl (lA b j 1)) (lf p) true) wanted) ∨ (v' = 0 ∧ RSet S kd lf rt (sB fl3 (lA b (j + 1) 4)) ∧ (∀ r, r < S → upB (sB fl (lA b j 1)) (lf p) true r = true → sB fl3 (lA b (j + 1) 4) r = true) ∧ sB fl3 (lA b (j + 1) 4) wanted = false)) := by
      intro p wanted h6 hp hw hl0
      obtain ⟨o1, o2, o3, o4, o5⟩ := ho.2.2.2.1 p h6 hp
      obtain ⟨fl1, a1, a2⟩ := take_s (ia := ia) (fi := fi) (fl := fl) (qa := qa) (f := f) B1 A1 (by unfold lA; omega)
      have hlF1 : lF b (j + 1) fi fl (u2 fi (lV b (j + 1)) 4 (fi (lV b j) 4)) fl1 := ⟨fun a i ha => u2_a _ _ (by unfold lV at *; omega), fun c hc => a2.1 c (by unfold lV at hc; unfold lA; omega)⟩
      have hI1 := hlF1.I ⟨hX, hQ, hM, hPI⟩
      have hsg1 : SG b (u2 fi (lV b (j + 1)) 4 (fi (lV b j) 4)) S kd lf rt (j + 1) (sB fl1 (lA b (j + 1) 1)) := hsg.ext (u2_s _ _ _ _) (fun p hp => a2.2 p (by omega))
      obtain ⟨fi2, fl2, b1, b2, b3⟩ := assume_c (qa := qa) (f := f) hI1.1 hj (show lf p < S by omega) hsg1
      have hlF2 := b2.lF (Nat.le_refl (j + 1)) hj
      have hI2 := hlF2.I hI1
      have hKe : ∀ r, r < 192 → sB fl2 (lA b (j + 1) 1) r = upB (sB fl (lA b j 1)) (lf p) true r := fun r hr => by
        rw [b2.1.2 r hr]
        unfold upB
        by_cases e : r = lf p
        · rw [if_pos e, if_pos e]
        · rw [if_neg e, if_neg e, a2.2 r hr]
      have hin2 : inS S (sB fl2 (lA b (j + 1) 1)) := fun r hr hk => upB_in hin (show lf p < S by omega) r hr (by rw [← hKe r hr]; exact hk)
      have hlt : cnS (sB fl (lA b j 1)) S < cnS (sB fl2 (lA b (j + 1) 1)) S := cnS_lt S (fun r hr hk => by rw [hKe r (by omega)]; exact upB_le hk) ⟨lf p, by omega, hl0, by rw [hKe _ (by omega)]; exact upB_s _ _ _⟩
      obtain ⟨v', ia3, fi3, fl3, c1, c2, c3, c4⟩ := hrc wanted ia fi2 fl2 hw ⟨hI2, b3, hin2, by rw [hKe 4 (by decide)]; exact upB_le h4, by omega⟩
      have hpF : pF b (j + 1) ia fi fl ia3 fi3 fl3 := ((hlF1.tr hlF2).p).tr c3
      refine ⟨fi2, fl1, fl2, v', ia3, fi3, fl3, a1, b1, c1, ⟨c2, hsg.ext hpF.sg (fun p hp => by rw [hpF.lv (by decide)]), by rw [hpF.lv (by decide)]; exact hin, by rw [hpF.lv (by decide)]; exact h4, by rw [hpF.lv (by decide)]; exact hcn⟩, fun i hi => hpF.lv hi, hpF.mono (Nat.le_succ j), ?_⟩
      rcases c4 with ⟨d1, d2⟩ | ⟨d1, d2, d3, d4⟩
      · exact Or.inl ⟨d1, d2.ext (fun r hr => hKe r (by omega))⟩
      · exact Or.inr ⟨d1, d2, fun r hr hk => d3 r hr (by rw [hKe r (by omega)]; exact hk), d4⟩
    have hvr : ¬ (1000000 : Int32) ≤ nI v := nI_ge (b := 1000000) (by omega) (by decide)
    -- the walk to the deeper level
    have walk : ∀ p, 6 ≤ p → p < S → f_X5_proves_103 rc (q + 1) (b + 20) (nI j) (lV b j) (lV b (j + 1)) (nI g) (nI p) (nI v) (wr (SK b) ia fi fl qa f) = f_X5_proves_137 rc (fun a0 a1 a2 a3 a4 a5 a6 a7 => f_X5_proves_103 rc q a0 a1 a2 a3 a4 a5 a6 a7) (b + 20) (nI j) (lV b j) (lV b (j + 1)) (nI g) (nI p) (nI v) (if kd p = 8 then 1 else 0) (wr (SK b) ia fi fl qa f) := fun p h6 hp => by
      have hk10 := hX.kd10 hp
      have q8 : (nI (kd p) = (8 : Int32)) = (kd p = 8) := propext (nI_eq (b := 8) (by omega) (by decide))
      rw [f_X5_proves_103, if_neg (nI_pos (show p < 2 ^ 31 by omega)), if_neg hvr]
      simp only [R_20_1, R_22_1, hX.at23 hp, Option.bind_some, q8]
      by_cases c8 : kd p = 8
      · rw [if_pos c8, if_pos c8]
      · rw [if_neg c8, if_neg c8]
    rcases l6 with ⟨rfl, hA⟩ | ⟨hMM, p, rfl, h6, hp, c8, hkp, hkl, hkr⟩ | ⟨Fam, D0, m1, m2, m3, m4, m5, m6⟩
    · -- the goal is known
      have hprv : Prv S kd lf rt K1 g := l2 (fun W R V w hk hw => by
        rcases hA with h | h
        · exact absurd (hw 5 (by have := ho.1; omega) h) (kT_5 ho w)
        · exact hw g hg h)
      obtain ⟨n0, x0, p1, p2, p3, p4, p5⟩ := hPI
      obtain ⟨ia1, fi1, fl1, n1, y, z1, z2, z3, z4, z5, z6, z7, z8, z9, z10, z11, z12⟩ := add_p (ia := ia) (fi := fi) (fl := fl) (f := f) (g := g) A2 (by unfold lA; omega) hQ p1 p2 p3 p4
      have hlow : ∀ c, c ≠ b + (168 + y) → fl1 c = fl c := z3.1
      refine ⟨1, ia1, fi1, fl1, ?_, ⟨hX.cg (fun a h1 h2 => z9 a (by omega)) (funext fun i => z10 _ i (by omega)), hQ, ?_, PI_add hg p5 ?_ ?_ z4 z5 z6 z7 z8 (fun i hi hne => hlow _ (by omega)) z11 z12⟩, ⟨fun a h1 h2 => z9 a h2, fun a i h1 h2 _ => z10 a i h2, fun c h1 h2 => hlow c (by omega)⟩, Or.inl ⟨rfl, hprv⟩⟩
      · rw [f_X5_proves_103, if_pos (show (-1 : Int32) < 0 by decide)]
        unfold f_X5_proves_301
        rw [if_pos rfl]
        simp only [R_20_4, R_lv hj0 (show 1 < 4 by decide), ck_165, z1, Option.bind_some]
      · obtain ⟨n, x, e1, e2, e3, e4, e5⟩ := hM
        exact ⟨n, x, e1, e2, by rw [z10 _ _ (by omega)]; exact e3, by rw [z10 _ _ (by omega)]; exact e4, fun i hi => by
          show RSet S kd lf rt (sB fl1 (b + (37 + i)))
          rw [sB_c (hlow (b + (37 + i)) (by omega))]
          exact e5 i hi⟩
      · exact hprv.ext (fun p hp => by rw [z3.2 p (by omega), l3 p hp])
      · exact fun r hr hk => l4 r hr (by rw [← z3.2 r hr]; exact hk)
    · -- an 'or'
      obtain ⟨o1, o2, o3, o4, o5⟩ := ho.2.2.2.1 p h6 hp
      obtain ⟨fi2, fl1, fl2, v', ia3, fi3, fl3, d1, d2, d3, d4, d5, d6, d7⟩ := deeper p g h6 hp hg hkl
      rw [walk p h6 hp, if_pos c8]
      unfold f_X5_proves_137
      simp only [R_20_1, R_22_2, R_22_3, hX.at24 h6 hp, hX.at25 h6 hp, R_lv hj0 (show 0 < 4 by decide), R_lv hj (show 0 < 4 by decide), Nat.zero_add, ps_ck B1, d1, I_lv hj0, sI_lv hj, ck_20, d2, Option.bind_some, i10, if_false, nI_1]
      unfold f_X5_proves_212
      simp only [d3, Option.bind_some]
      rcases d7 with ⟨rfl, e2⟩ | ⟨rfl, e2, e3, e4⟩
      · simp only [i10, if_false]
        obtain ⟨r1, ia4, fi4, fl4, g1, g2, g3, g4⟩ := grow ia3 fi3 fl3 (rt p) d4 d5 (by omega) hkr (fun h => Prv.or ho hp c8 hkp e2 h) hMM
        exact ⟨r1, ia4, fi4, fl4, g1, g2, d6.tr g3, g4⟩
      · simp only [if_true, i10, if_false]
        obtain ⟨fl4, t1, t2⟩ := take_s (ia := ia3) (fi := fi3) (fl := fl3) (qa := qa) (f := f) A4 B4 (by unfold lA; omega)
        simp only [R_lv hj0 (show 3 < 4 by decide), R_lv hj (show 3 < 4 by decide), ps_ck A4, t1, Option.bind_some]
        have hlF := t2.lF (fi := fi3) (Nat.le_refl j)
        refine ⟨0, ia3, fi3, fl4, rfl, hlF.I d4.1, d6.tr hlF.p, Or.inr ⟨rfl, e2.ext (fun r hr => t2.2 r (by omega)), fun r hr hk => ?_, ?_⟩⟩
        · rw [t2.2 r (by omega)]; exact e3 r hr (upB_le (l1 r hr hk))
        · rw [t2.2 g (by omega)]; exact e4
    · rcases m6 with ⟨p, rfl, h6, hp, hD, hif, hkp, hkl⟩ | ⟨rfl, hno⟩
      · -- an 'if'
        obtain ⟨o1, o2, o3, o4, o5⟩ := ho.2.2.2.1 p h6 hp
        obtain ⟨fi2, fl1, fl2, v', ia3, fi3, fl3, d1, d2, d3, d4, d5, d6, d7⟩ := deeper p (rt p) h6 hp (by omega) hkl
        rw [walk p h6 hp, if_neg (show ¬ kd p = 8 by omega)]
        unfold f_X5_proves_137
        simp only [R_20_1, R_22_2, R_22_3, hX.at24 h6 hp, hX.at25 h6 hp, R_lv hj0 (show 0 < 4 by decide), R_lv hj (show 0 < 4 by decide), Nat.zero_add, ps_ck B1, d1, I_lv hj0, sI_lv hj, ck_20, d2, Option.bind_some, if_true, nI_1]
        unfold f_X5_proves_212
        simp only [d3, Option.bind_some]
        rcases d7 with ⟨rfl, e2⟩ | ⟨rfl, e2, e3, e4⟩
        · simp only [i10, if_false, if_true]
          obtain ⟨r1, ia4, fi4, fl4, g1, g2, g3, g4⟩ := grow ia3 fi3 fl3 p d4 d5 hp hkp (fun h => Prv.cut ho hp hif e2 h) (by omega)
          exact ⟨r1, ia4, fi4, fl4, g1, g2, d6.tr g3, g4⟩
        · simp only [if_true]
          obtain ⟨fl4, t1, t2⟩ := keep_s (ia := ia3) (fi := fi3) (fl := fl3) (qa := qa) (f := f) A4 B4 (by unfold lA; omega)
          obtain ⟨fl5, u1, u2'⟩ := set_s (ia := ia3) (fi := fi3) (fl := fl4) (qa := qa) (f := f) A3 (show p < 192 by omega) (0 : Int32)
          rw [if_pos rfl] at u2'
          have hlF : lF b j fi3 fl3 fi3 fl5 := (t2.lF (Nat.le_refl j)).tr (u2'.lF (Nat.le_refl j))
          have hI5 := hlF.I d4.1
          have eK : sB fl5 (lA b j 1) = sB fl (lA b j 1) := by rw [u2'.o (lA_ne (by decide)), t2.o (lA_ne (by decide)), d5 1 (by decide)]
          have eG : sB fl5 (lA b j 2) = sB fl (lA b j 2) := by rw [u2'.o (lA_ne (by decide)), t2.o (lA_ne (by decide)), d5 2 (by decide)]
          have eF : ∀ r, r < 192 → sB fl5 (lA b j 4) r = (sB fl (lA b j 4) r && sB fl3 (lA b (j + 1) 4) r) := fun r hr => by rw [u2'.o (lA_ne (by decide)), t2.2 r hr, d5 4 (by decide)]
          have eD : ∀ r, r < 192 → sB fl5 (lA b j 3) r = upB (sB fl (lA b j 3)) p false r := fun r hr => by rw [u2'.2 r hr, t2.o (lA_ne (by decide)), d5 3 (by decide)]
          have hTp : sB fl3 (lA b (j + 1) 4) p = false := e2.if_f ho hp (by omega) (by omega) hif (e3 _ (by omega) (upB_s _ _ _)) e4
          have hlt : cnS (sB fl5 (lA b j 3)) S < cnS (sB fl (lA b j 3)) S := cnS_lt S (fun r hr hk => by
            rw [eD r (by omega)] at hk
            unfold upB at hk
            by_cases e : r = p
            · rw [if_pos e] at hk; cases hk
            · rw [if_neg e] at hk; exact hk) ⟨p, hp, by rw [eD p (by omega)]; exact upB_s _ _ _, hD⟩
          have hnext := next_c (fl := fl5) (qa := qa) (f := f) hj0 hI5.1
          have main : ∀ t' : Int32, f_X5_nextTrial (b + 20) (lV b j) (wr (SK b) ia3 fi3 fl5 qa f) = some t' → ((∃ p, t' = nI p ∧ 6 ≤ p ∧ p < S ∧ triB kd lf (sB fl5 (lA b j 1)) (sB fl5 (lA b j 3)) p) ∨ (t' = -2 ∧ ∀ p, 6 ≤ p → p < S → ¬ triB kd lf (sB fl5 (lA b j 1)) (sB fl5 (lA b j 3)) p)) → ∃ (r : Int32) (ia1 fi1 : Nat → Nat → Int32) (fl1 : Nat → Nat → Int64), f_X5_proves_103 rc q (b + 20) (nI j) (lV b j) (lV b (j + 1)) (nI g) t' (nI (v + 1)) (wr (SK b) ia3 fi3 fl5 qa f) = some (r, wr (SK b) ia1 fi1 fl1 qa f) ∧ pvI b ia1 fi1 fl1 qa S kd lf rt ∧ pF b j ia3 fi3 fl5 ia1 fi1 fl1 ∧ pvV b fl1 S kd lf rt j K1 g r := by
            intro t' _ ht'
            refine ih (200 * (S - cnS (sB fl (lA b j 1)) S) + cnS (sB fl5 (lA b j 3)) S) (by omega) (v + 1) q t' ia3 fi3 fl5 (by omega) (by omega) ⟨hI5, d4.2.1.ext rfl (fun r hr => by rw [eK, d5 1 (by decide)]), by rw [eK]; exact hin, by rw [eK]; exact h4, by rw [eK]; exact hcn⟩ ⟨by rw [eK]; exact l1, by rw [eK]; exact l2, by rw [eG]; exact l3, by rw [eG]; exact l4, by rw [eK]; exact l5, Or.inr (Or.inr ⟨fun T => Fam T ∨ T = sB fl3 (lA b (j + 1) 4), D0, fun T hT => ?_, by rw [eK]; exact m2, fun r hr => ?_, fun r r6 hr a1 a2 a3 a4 => ?_, by rw [eK]; exact Nat.le_refl _, ht'⟩)⟩
            · rw [eK]
              rcases hT with hT | rfl
              · exact m1 T hT
              · exact ⟨e2, fun r hr hk => e3 r hr (upB_le hk)⟩
            · rw [eF r (by omega), Bool.and_eq_true, m3 r hr]
              constructor
              · rintro ⟨h1, h2⟩ T (hT | rfl)
                · exact h1 T hT
                · exact h2
              · intro h
                exact ⟨fun T hT => h T (Or.inl hT), h _ (Or.inr rfl)⟩
            · rw [eK] at a3 a4
              by_cases e : r = p
              · subst e; exact Or.inr ⟨_, Or.inr rfl, hTp⟩
              · rcases m4 r r6 hr a1 a2 a3 a4 with h | ⟨T, hT, h⟩
                · refine Or.inl ?_
                  rw [eD r (by omega)]
                  unfold upB
                  rw [if_neg e]; exact h
                · exact Or.inr ⟨T, Or.inl hT, h⟩
          simp only [R_lv hj0 (show 3 < 4 by decide), R_lv hj (show 3 < 4 by decide), R_lv hj0 (show 2 < 4 by decide), ps_ck A4, ps_ck A3, t1, u1, ck_20, Option.bind_some]
          rcases hnext with ⟨p', p1, p2, p3, p4⟩ | ⟨p1, p2⟩
          · obtain ⟨r, ia5, fi5, fl6, g1, g2, g3, g4⟩ := main _ p4 (Or.inl ⟨p', rfl, p1, p2, p3⟩)
            simp only [p4, Option.bind_some]
            unfold f_X5_proves_295
            rw [nI_1]
            exact ⟨r, ia5, fi5, fl6, g1, g2, (d6.tr hlF.p).tr g3, g4⟩
          · obtain ⟨r, ia5, fi5, fl6, g1, g2, g3, g4⟩ := main _ p2 (Or.inr ⟨rfl, p1⟩)
            simp only [p2, Option.bind_some]
            unfold f_X5_proves_295
            rw [nI_1]
            exact ⟨r, ia5, fi5, fl6, g1, g2, (d6.tr hlF.p).tr g3, g4⟩
      · -- nothing is left to try: the stage is met
        obtain ⟨n0, x0, p1, p2, p3, p4, p5⟩ := hM
        obtain ⟨qf, hqf⟩ := FU_1000
        obtain ⟨ia1, fi1, fl1, n1, y, z1, z2, z3, z4, z5, z6, z7, z8, z9, z10, z11, z12⟩ := meet_7 (ia := ia) (fi := fi) (qa := qa) (f := f) (K := sB fl (lA b j 1)) (F := sB fl (lA b j 4)) hj0 hX hQ p1 p2 p3 p4 S 0 FU fl (by omega) (by omega) (fun _ _ => rfl) (fun _ _ _ => rfl) (fun r hr => absurd hr (Nat.not_lt_zero _))
        obtain ⟨s1, s2, s3⟩ := settle_T ho hg m1 h4 l5 m2 m3 (fun r r6 hr a1 a2 a3 a4 => (m4 r r6 hr a1 a2 a3 a4).elim (fun h => absurd ⟨h, a2, a3, a4⟩ (hno r r6 hr)) id) z2
        have hlow : ∀ c, c ≠ lA b j 4 → c ≠ b + (37 + y) → fl1 c = fl c := z4
        have hl296 : ∀ c, c < b + 296 → c ≠ b + (37 + y) → fl1 c = fl c := fun c h1 h2 => hlow c (by unfold lA; omega) h2
        refine ⟨0, ia1, fi1, fl1, ?_, ⟨hX.cg (fun a h1 h2 => z11 a (by omega)) (funext fun i => z12 _ i (by omega)), hQ, MI_add (fl := fl) (ia1 := ia1) p5 (s1.ext (fun r hr => z5 r (by omega))) z6 z7 z8 z9 z10 (fun i hi hne => hl296 _ (by omega) (by omega)), ?_⟩, ⟨fun a h1 h2 => z11 a h1, fun a i h1 h2 _ => z12 a i h1, fun c h1 h2 => hlow c (by unfold lA; unfold lV at h2; omega) (by omega)⟩, Or.inr ⟨rfl, s1, fun r hr hk => s2 r hr (l1 r hr hk), s3⟩⟩
        · rw [f_X5_proves_103, if_pos (show (-2 : Int32) < 0 by decide)]
          unfold f_X5_proves_301 f_X5_meet
          rw [if_neg (by decide)]
          simp only [ck_20, R_lv hj0 (show 3 < 4 by decide), Option.bind_some]
          rw [show (0 : Int32) = nI 0 from rfl, z1]
          rfl
        · obtain ⟨n, x, e1, e2, e3, e4, e5⟩ := hPI
          exact ⟨n, x, e1, e2, by rw [z12 _ _ (by omega)]; exact e3, by rw [z12 _ _ (by omega)]; exact e4, fun i hi => by
            show ∃ g, g < S ∧ ia1 (b + 167) i = nI g ∧ Prv S kd lf rt (sB fl1 (b + (168 + i))) g ∧ inS S (sB fl1 (b + (168 + i)))
            rw [sB_c (hl296 (b + (168 + i)) (by omega) (by omega)), z11 (b + 167) (by omega)]
            exact e5 i hi⟩
end LOOP
