section LOOP2
variable {b : Nat} {ia fi ia1 fi1 : Nat → Nat → Int32} {fl : Nat → Nat → Int64} {qa : Nat → Nat → Option Nat} {f : mmF} {S : Nat} {kd lf rt : Nat → Nat}
theorem pvB.fr {j x z : Nat} {O : Nat → Nat} (h : pvB b ia fi S kd lf rt j x z O) (hL : fL b j ia fi ia1 fi) (e35 : ia1 (b + 35) = ia (b + 35)) (e36 : ia1 (b + 36) = ia (b + 36)) (e46 : ia1 (b + 46) = ia (b + 46)) : pvB b ia1 fi S kd lf rt j x z O := by
  obtain ⟨h1, h2, h3, h4, h5, h6, h7⟩ := h
  exact ⟨hL.I h1, h2.cg e35 e36 rfl, by rw [e35]; exact h3.ext (by rw [e46]) (fun _ _ => rfl), by rw [e35]; exact h4, h5, (hL.2.2.1 j (Nat.le_refl j)).trans h6, h7⟩
theorem ASM.sm {x m0 z : Nat} {O : Nat → Nat} (h : ASM b ia O x m0) (t : TX b z z O O ia ia1) (e : m0 ≤ z) : ASM b ia1 O x m0 := fun i h1 h2 q hq => by rw [t.2.2 i (by omega) q hq]; exact h i h1 h2 q hq
theorem loop_c {j x m0 g : Nat} {K1 : Nat → Bool} (hj : j + 1 < 153) (hg : g < S) (hgn : ¬ (kd g = 9 ∨ kd g = 6)) (rc : Nat → Int32 → Int32 → mmF → Option (Int32 × mmF)) (hrc : ∀ (wanted : Nat) (ia fi : Nat → Nat → Int32) (x z : Nat) (O : Nat → Nat), wanted < S → pvP b ia fi S kd lf rt (j + 1) x z O → ∃ (v : Int32) (ia1 fi1 : Nat → Nat → Int32) (z1 : Nat) (O1 : Nat → Nat), rc (b + 20) (nI (j + 1)) (nI wanted) (wr (SK b) ia fi fl qa f) = some (v, wr (SK b) ia1 fi1 fl qa f) ∧ pvI b ia1 fi1 S kd lf rt ∧ fG b (j + 1) ia fi ia1 fi1 ∧ TX b x z1 O O1 ia ia1 ∧ TRL b ia1 fi1 S z1 O1 ∧ pvV b S kd lf rt (j + 1) ia1 (sB (ia (b + 35)) 0) wanted v) : ∀ (M v q : Nat) (t : Int32) (ia fi : Nat → Nat → Int32) (z : Nat) (O : Nat → Nat), M < q → v + M ≤ 500000 → pvB b ia fi S kd lf rt j x z O → lpS b S kd lf rt j x m0 K1 g t ia z O M → lpO b S kd lf rt fl qa f j x K1 g ia fi O (f_X5_proves_73 rc q (b + 20) (nI j) (nI g) t (nI v) (wr (SK b) ia fi fl qa f)) := by
  have hj0 : j < 153 := by omega
  intro M
  induction M using Nat.strongRecOn with
  | _ M ih =>
    intro v q t ia fi z O hq hv hP hL
    obtain ⟨q, rfl⟩ : ∃ k, q = k + 1 := ⟨q - 1, by omega⟩
    obtain ⟨⟨hX, hM, hPI⟩, tr, hsg, h4, hjz, hst, hxz⟩ := id hP
    obtain ⟨l1, l2, l3, l4, l5, l6, l7⟩ := hL
    have ho := hX.2.1
    have hS := ho.2.1
    have hvr : ¬ (1000000 : Int32) ≤ nI v := nI_ge (b := 1000000) (by omega) (by decide)
    -- the walk to the deeper level
    have walk : ∀ p, 6 ≤ p → p < S → f_X5_proves_73 rc (q + 1) (b + 20) (nI j) (nI g) (nI p) (nI v) (wr (SK b) ia fi fl qa f) = f_X5_proves_107 rc (fun a0 a1 a2 a3 a4 a5 => f_X5_proves_73 rc q a0 a1 a2 a3 a4 a5) (b + 20) (nI j) (nI g) (nI p) (nI v) (if kd p = 8 then 1 else 0) (wr (SK b) ia fi fl qa f) := fun p h6 hp => by
      have hk10 := hX.kd10 hp
      have q8 : (nI (kd p) = (8 : Int32)) = (kd p = 8) := propext (nI_eq (b := 8) (by omega) (by decide))
      rw [f_X5_proves_73, if_neg (nI_pos (show p < 2 ^ 31 by omega)), if_neg hvr]
      simp only [R_20_1, R_22_1, hX.at23 hp, Option.bind_some, q8]
      by_cases c8 : kd p = 8
      · rw [if_pos c8, if_pos c8]
      · rw [if_neg c8, if_neg c8]
    -- behind the deeper level: a part is known now
    have grow : ∀ (ia4 fi4 : Nat → Nat → Int32) (r o1 : Nat), pvB b ia4 fi4 S kd lf rt j x z O → fG b j ia fi ia4 fi4 → TX b z z O O ia ia4 → r < S → sB (ia4 (b + 35)) 0 r = false → o1 < 192 → sB (ia4 (b + 35)) 0 o1 = true → 200 * (S - z) ≤ M → (∀ (W : Type) (R : W → W → Prop) (V : Nat → W → Prop) (w : W), isKM R V → (∀ q, q < S → (q = o1 ∨ sB (ia4 (b + 41)) (j + 1) q = true) → sB (ia4 (b + 35)) 0 q = true → kT R V kd lf rt q w) → kT R V kd lf rt r w ∨ kT R V kd lf rt g w) → lpO b S kd lf rt fl qa f j x K1 g ia fi O (f_X5_proves_255 rc (fun a0 a1 a2 a3 a4 a5 => f_X5_proves_73 rc q a0 a1 a2 a3 a4 a5) (b + 20) (nI j) (nI g) (nI v) (b + 20) (nI j) (nI r) (nI o1) (wr (SK b) ia4 fi4 fl qa f)) := by
      intro ia4 fi4 r o1 hP4 hG4 hT4 hr hr0 h1 hk1 hMM hsem
      have hroom := hP4.2.1.room hr hr0
      obtain ⟨ia5, fi5, t', ia6, fi6, z6, O6, b1, b2, b3, b4, b5, b6, b7⟩ := grow_c (fl := fl) (qa := qa) (f := f) (K1 := K1) hj hg hP4 l1 l2 (l3.sm hT4 l2) (l4.tx hT4 (by omega)) l5 hr hr0 h1 hk1 hsem
      have hz6 := b3.2.1.le
      have h7 := ih (200 * (S - z6) + 151) (by omega) (v + 1) q t' ia6 fi6 z6 O6 (by omega) (by omega) b3 b7
      have h8 := (h7.pre b4 b5 hxz).pre hG4 hT4 hxz
      unfold f_X5_proves_255 f_X5_proves_323
      simp only [ck_20, b1, b2, Option.bind_some, nI_1]
      exact h8
    rcases l7 with ⟨rfl, hU, hV⟩ | ⟨hMM, p, rfl, h6, hp, c8, hkp, hkl, hkr⟩ | ⟨Fam, D0, m1, m2, m3, m4, m5, m6⟩
    · -- the goal is proved
      rw [f_X5_proves_73, if_pos (show (-1 : Int32) < 0 by decide)]
      exact shown_c (M := 0) (fl := fl) (qa := qa) (f := f) rc hj0 hg hP l1 l2 l3 l4 l5 hU hV
    · -- an 'or'
      obtain ⟨o1, o2, o3, o4, o5⟩ := ho.2.2.2.1 p h6 hp
      obtain ⟨ia2, fi2, v', ia3, fi3, ia4, fi4, d1, d2, d3, d4, d5, d6, d7, d8, d9, d10⟩ := deeper_c (fl := fl) (qa := qa) (f := f) hj rc hrc hP (show lf p < S by omega) hg hkl
      rw [walk p h6 hp, if_pos c8]
      unfold f_X5_proves_107
      simp only [R_20_1, R_22_2, R_22_3, hX.at24 h6 hp, hX.at25 h6 hp, ck_20, d1, Option.bind_some, i10, if_false, nI_1]
      unfold f_X5_proves_159
      simp only [nI_1, d2, R_20_2, R_20_3, An_39 hj, d3, ck_33, d4, Option.bind_some, i10, if_false]
      have hkp4 : sB (ia4 (b + 35)) 0 p = true := by rw [d9 p (by omega)]; exact hkp
      rcases d10 with ⟨rfl, e2, e3⟩ | ⟨rfl, e2, e3, e4⟩
      · simp only [i10, if_false, R_20_4, ps_ck (PS_U b), has_s (PS_U b) hj (show lf p < 192 by omega), Option.bind_some, b01]
        cases hul : sB (ia4 (b + 41)) (j + 1) (lf p) with
        | false =>
          rw [if_pos (rfl : false = false)]
          obtain ⟨ia5, t1, t2⟩ := copy_s (ia := ia4) (fi := fi4) (fl := fl) (qa := qa) (f := f) (PS_U b) (PS_U b) hj0 hj
          simp only [t1, Option.bind_some]
          have hL5 : fL b j ia4 fi4 ia5 fi4 := t2.L (Or.inl rfl) (Nat.le_refl j)
          have eo : ∀ c, c ≠ b + 41 → ia5 c = ia4 c := t2.1
          have hP5 := d5.fr hL5 (eo _ (by omega)) (eo _ (by omega)) (eo _ (by omega))
          have hT5 : TX b z z O O ia ia5 := d8.cg (fun r q _ => by rw [eo _ (by omega)])
          have hU5 : ∀ q, q < 192 → sB (ia5 (b + 41)) j q = true → sB (ia5 (b + 35)) 0 q = true := fun q hq hk => by
            rw [t2.2.2 q hq] at hk
            have := e3 hgn q hq hk
            rw [eo _ (by omega)]
            unfold upB at this
            by_cases e : q = lf p
            · rw [e, hul] at hk; cases hk
            · rw [if_neg e] at this; exact this
          have hV5 : Prv S kd lf rt (sB (ia5 (b + 41)) j) g := e2.mono (fun q hq hk => by
            rw [Bool.and_eq_true] at hk
            rw [t2.2.2 q (by omega)]; exact hk.1)
          have hroom := tr.room (show lf p < S by omega) hkl
          have h7 := ih 0 (by omega) (v + 1) q (-1) ia5 fi4 z O (by omega) (by omega) hP5 ⟨l1, l2, l3.sm hT5 l2, l4.tx hT5 (by omega), l5, fun r h6 hr => (l6 r h6 hr).ext ho h6 hr (fun q hq => by rw [eo _ (by omega)]; exact (d9 q (by omega)).symm), Or.inl ⟨rfl, hU5, hV5⟩⟩
          unfold f_X5_proves_323
          rw [nI_1]
          exact h7.pre (d6.tr hL5.G) hT5 hxz
        | true =>
          rw [if_neg (show ¬ true = false by decide)]
          unfold f_X5_proves_225 f_X5_proves_244
          simp only [i10, if_false]
          refine grow ia4 fi4 (rt p) p d5 d6 d8 (by omega) (by rw [d9 _ (by omega)]; exact hkr) (by omega) hkp4 hMM (fun W R V w hm hw => ?_)
          rcases (kT_8 ho.to hp c8 w).mp (hw p hp (Or.inl rfl) hkp4) with h | h
          · refine Or.inr (e2 W R V w hm (fun q hq hk => ?_))
            rw [Bool.and_eq_true] at hk
            obtain ⟨hk1, hk2⟩ := hk
            unfold upB at hk2
            by_cases e : q = lf p
            · rw [e]; exact h
            · rw [if_neg e] at hk2; exact hw q hq (Or.inr hk1) hk2
          · exact Or.inl h
      · simp only [if_true]
        unfold f_X5_proves_225
        simp only [if_true, i10, if_false]
        obtain ⟨ia5, t1, t2⟩ := copy_s (ia := ia4) (fi := fi4) (fl := fl) (qa := qa) (f := f) (PS_F b) (PS_F b) hj0 hj
        simp only [R_20_6, ps_ck (PS_F b), nI_1, t1, Option.bind_some]
        have hL5 : fL b j ia4 fi4 ia5 fi4 := t2.L (Or.inr (Or.inr rfl)) (Nat.le_refl j)
        have eo : ∀ c, c ≠ b + 45 → ia5 c = ia4 c := t2.1
        have hT5 : TX b z z O O ia ia5 := d8.cg (fun r q _ => by rw [eo _ (by omega)])
        refine ⟨0, ia5, fi4, z, O, rfl, hL5.I d5.1, d6.tr hL5.G, hT5.sub hxz, d5.2.1.cg (eo _ (by omega)) (eo _ (by omega)) rfl, Or.inr ⟨rfl, e2.ext (fun r hr => t2.2.2 r (by omega)), fun r hr hk => ?_, ?_⟩⟩
        · rw [t2.2.2 r (by omega)]
          refine e3 r hr (upB_le ?_)
          obtain ⟨i, h1, h2⟩ := (l5 r (by omega)).mp hk
          exact (d5.2.1.2.2.2.1 r (by omega)).mpr ⟨i, by omega, h2⟩
        · rw [t2.2.2 g (by omega)]; exact e4
    · rcases m6 with ⟨p, rfl, h6, hp, hD, hif, hkp, hkl⟩ | ⟨rfl, hno⟩
      · -- an 'if'
        obtain ⟨o1, o2, o3, o4, o5⟩ := ho.2.2.2.1 p h6 hp
        obtain ⟨ia2, fi2, v', ia3, fi3, ia4, fi4, d1, d2, d3, d4, d5, d6, d7, d8, d9, d10⟩ := deeper_c (fl := fl) (qa := qa) (f := f) hj rc hrc hP (show lf p < S by omega) (show rt p < S by omega) hkl
        rw [walk p h6 hp, if_neg (show ¬ kd p = 8 by omega)]
        unfold f_X5_proves_107
        simp only [R_20_1, R_22_2, R_22_3, hX.at24 h6 hp, hX.at25 h6 hp, ck_20, d1, Option.bind_some, if_true, nI_1]
        unfold f_X5_proves_159
        simp only [nI_1, d2, R_20_2, R_20_3, An_39 hj, d3, ck_33, d4, Option.bind_some, if_true]
        have h44 : sB (ia4 (b + 35)) 0 4 = true := d5.2.2.2.1
        rcases d10 with ⟨rfl, e2, e3⟩ | ⟨rfl, e2, e3, e4⟩
        · simp only [i10, if_false]
          unfold f_X5_proves_225 f_X5_proves_244
          simp only [i10, if_false, if_true]
          have hgr := grow ia4 fi4 p 4 d5 d6 d8 hp (by rw [d9 _ (by omega)]; exact hkp) (by decide) h44 (by omega) (fun W R V w hm hw => by
            refine Or.inl ((kT_if ho hp hif w).mpr (fun w' hw' hl => e2 W R V w' hm (fun q hq hk => ?_)))
            rw [Bool.and_eq_true] at hk
            obtain ⟨hk1, hk2⟩ := hk
            unfold upB at hk2
            by_cases e : q = lf p
            · rw [e]; exact hl
            · rw [if_neg e] at hk2
              exact kT_up hm ho.to q hq _ _ hw' (hw q hq (Or.inr hk1) hk2))
          rw [show nI 4 = (4 : Int32) from rfl] at hgr
          exact hgr
        · simp only [if_true]
          unfold f_X5_proves_225
          simp only [if_true]
          obtain ⟨ia5, t1, t2⟩ := keepOnly_s (ia := ia4) (fi := fi4) (fl := fl) (qa := qa) (f := f) (PS_F b) (PS_F b) hj0 hj
          obtain ⟨ia6, u1, u2'⟩ := remove_s (ia := ia5) (fi := fi4) (fl := fl) (qa := qa) (f := f) (PS_D b) hj0 (show p < 192 by omega)
          have hL6 : fL b j ia4 fi4 ia6 fi4 := (t2.L (Or.inr (Or.inr rfl)) (Nat.le_refl j)).tr (u2'.L (Or.inr (Or.inl rfl)) (Nat.le_refl j))
          have eo : ∀ c, c ≠ b + 43 → c ≠ b + 45 → ia6 c = ia4 c := fun c c1 c2 => (u2'.1 c c1).trans (t2.1 c c2)
          have hP6 := d5.fr hL6 (eo _ (by omega) (by omega)) (eo _ (by omega) (by omega)) (eo _ (by omega) (by omega))
          have hT6 : TX b z z O O ia ia6 := d8.cg (fun r q _ => by rw [eo _ (by omega) (by omega)])
          have eK : ∀ q, q < S → sB (ia6 (b + 35)) 0 q = sB (ia (b + 35)) 0 q := fun q hq => by rw [eo _ (by omega) (by omega)]; exact d9 q (by omega)
          have eF : ∀ r, r < 192 → sB (ia6 (b + 45)) j r = (sB (ia (b + 45)) j r && sB (ia4 (b + 45)) (j + 1) r) := fun r hr => by
            rw [u2'.1 _ (by omega), t2.2.2 r hr]; show (sB (ia4 (b + 45)) j r && sB (ia4 (b + 45)) (j + 1) r) = _; rw [d7 _ (Or.inr (Or.inr rfl)) r hr]
          have eD : ∀ r, r < 192 → sB (ia6 (b + 43)) j r = upB (sB (ia (b + 43)) j) p false r := fun r hr => by
            rw [u2'.2.2 r hr]
            unfold upB
            by_cases e : r = p
            · rw [if_pos e, if_pos e]
            · rw [if_neg e, if_neg e, t2.1 _ (by omega), d7 _ (Or.inr (Or.inl rfl)) r hr]
          have hTp : sB (ia4 (b + 45)) (j + 1) p = false := e2.if_f ho hp (by omega) (by omega) hif (e3 _ (by omega) (upB_s _ _ _)) e4
          have hlt : cnS (sB (ia6 (b + 43)) j) S < cnS (sB (ia (b + 43)) j) S := cnS_lt S (fun r hr hk => by
            rw [eD r (by omega)] at hk
            unfold upB at hk
            by_cases e : r = p
            · rw [if_pos e] at hk; cases hk
            · rw [if_neg e] at hk; exact hk) ⟨p, hp, by rw [eD p (by omega)]; exact upB_s _ _ _, hD⟩
          have hnext := next_c (ia := ia6) (fl := fl) (qa := qa) (f := f) hj0 hP6.1.1
          have main : ∀ t' : Int32, f_X5_nextTrial (b + 20) (nI j) (wr (SK b) ia6 fi4 fl qa f) = some t' → ((∃ p, t' = nI p ∧ 6 ≤ p ∧ p < S ∧ triB kd lf (sB (ia6 (b + 35)) 0) (sB (ia6 (b + 43)) j) p) ∨ (t' = -2 ∧ ∀ p, 6 ≤ p → p < S → ¬ triB kd lf (sB (ia6 (b + 35)) 0) (sB (ia6 (b + 43)) j) p)) → lpO b S kd lf rt fl qa f j x K1 g ia fi O (f_X5_proves_73 rc q (b + 20) (nI j) (nI g) t' (nI (v + 1)) (wr (SK b) ia6 fi4 fl qa f)) := by
            intro t' ht' hn
            have h7 := ih (200 * (S - z) + cnS (sB (ia6 (b + 43)) j) S) (by omega) (v + 1) q t' ia6 fi4 z O (by omega) (by omega) hP6 ⟨l1, l2, l3.sm hT6 l2, l4.tx hT6 (by omega), l5, fun r h6 hr => (l6 r h6 hr).ext ho h6 hr (fun q hq => (eK q hq).symm), Or.inr (Or.inr ⟨fun T => Fam T ∨ T = sB (ia4 (b + 45)) (j + 1), D0, fun T hT => ?_, m2.ext ho hg eK, fun r hr => ?_, fun r h6 hr hDr hifr hkr hlr => ?_, Nat.le_refl _, hn⟩)⟩
            · exact h7.pre (d6.tr hL6.G) hT6 hxz
            · rcases hT with hT | rfl
              · exact ⟨(m1 T hT).1, fun r hr hk => (m1 T hT).2 r hr (by rw [← eK r hr]; exact hk)⟩
              · exact ⟨e2, fun r hr hk => e3 r hr (upB_le (by rw [d9 r (by omega), ← eK r hr]; exact hk))⟩
            · rw [eF r (by omega), Bool.and_eq_true, m3 r hr]
              exact ⟨fun h T hT => hT.elim (h.1 T) (fun e => by rw [e]; exact h.2), fun h => ⟨fun T hT => h T (Or.inl hT), h _ (Or.inr rfl)⟩⟩
            · obtain ⟨p1, p2, p3, p4, p5⟩ := ho.2.2.2.1 r h6 hr
              rw [eK r hr] at hkr
              rw [eK (lf r) (by omega)] at hlr
              by_cases e : r = p
              · subst e; exact Or.inr ⟨_, Or.inr rfl, hTp⟩
              · rcases m4 r h6 hr hDr hifr hkr hlr with h | ⟨T, hT, h⟩
                · refine Or.inl ?_
                  rw [eD r (by omega)]
                  unfold upB
                  rw [if_neg e]
                  exact h
                · exact Or.inr ⟨T, Or.inl hT, h⟩
          simp only [R_20_6, ps_ck (PS_F b), nI_1, t1, R_20_5, ps_ck (PS_D b), u1, ck_20, Option.bind_some]
          unfold f_X5_proves_323
          rcases hnext with ⟨r, r1, r2, r3, r4⟩ | ⟨r1, r2⟩
          · simp only [r4, Option.bind_some, nI_1]
            exact main _ r4 (Or.inl ⟨r, rfl, r1, r2, r3⟩)
          · simp only [r2, Option.bind_some, nI_1]
            exact main _ r2 (Or.inr ⟨rfl, r1⟩)
      · -- nothing is left to try
        rw [f_X5_proves_73, if_pos (show (-2 : Int32) < 0 by decide)]
        exact met_c (fl := fl) (qa := qa) (f := f) rc hj0 hg hP l5 l2 l6 m1 m2 m3 m4 hno
end LOOP2
