/-! join, done -/
section METH10
variable {b sz : Nat} {f : mmF} {Ω : mO}
theorem MR.scrE {ia fi ia1 fi1 : Nat → Nat → Int32} (h : MR b ia fi Ω) (hl : lowE b ia fi ia1 fi1 → True) (e : ∀ a : Nat, a < b + 87 ∨ a = b + 89 → ia1 a = ia a) (e2 : ∀ a j : Nat, a < b + 83 ∨ (a = b + 83 ∧ (j = 2 ∨ j = 4 ∨ j = 7)) → fi1 a j = fi a j) : MR b ia1 fi1 Ω ∧ lowE b ia fi ia1 fi1 := h.scr e e2
/-- a claim laid at a place, on both sides -/
abbrev putO (Ω : mO) (p k : Nat) (g : Nat → Nat) : mO := (putS Ω p k g, (recO Ω).2.1, (recO Ω).2.2)
theorem putO_h {Ω : mO} {p k : Nat} {g : Nat → Nat} : hO (putO Ω p k g) p = hN Ω.1.1 Ω.1.2.1 Ω.1.2.2.1 g (k - 1) := by
  show hN Ω.1.1 Ω.1.2.1 Ω.1.2.2.1 (rw2 Ω.1.2.2.2.2 p g p) (upN Ω.1.2.2.2.1 p k p - 1) = _
  rw [rw2_s, upN_s]
theorem WO.putO (w : WO Ω) {p k : Nat} {g : Nat → Nat} (hv : VC k g) : WO (putO Ω p k g) := w.rec.cur (w.1.put hv) (Nat.le_refl _)
/-- the class: a claim c is put at a place, after the record -/
theorem C_put {ia fi : Nat → Nat → Int32} {fl : Nat → Nat → Int64} {qa : Nat → Nat → Option Nat} (h : CR b ia fi qa f Ω) (w : WO Ω) {p k c : Nat} {g : Nat → Nat} (hp : p < 5) (hc : ClA b f c k g) (hv : VC k g) : ∃ (ia1 fi1 : Nat → Nat → Int32) (qa1 : Nat → Nat → Option Nat) (μ1 : mmF) (ia2 fi2 : Nat → Nat → Int32) (qa2 : Nat → Nat → Option Nat), f_X9_record b (wr (SK b) ia fi fl qa f) = some (wr (SK b) ia1 fi1 fl qa1 f) ∧ stQ 3 0 (wr (SK b) ia1 fi1 fl qa1 f) (b + 1 + 3) (nI p) (some c) = some μ1 ∧ ckO μ1 b 9 = some () ∧ f_X9_stagesOf b (nI p) μ1 = some (nI (hO (putO Ω p k g) p), wr (SK b) ia2 fi2 fl qa2 f) ∧ CR b ia2 fi2 qa2 f (putO Ω p k g) ∧ highE b ia fi ia2 fi2 := by
  have hb1 : isSt b (b + 1) := Or.inl rfl
  have k1 := hv.1
  obtain ⟨ia1, fi1, qa1, er, hr, hh⟩ := C_rec (fl := fl) h w
  have hr1 : CSt b ia1 fi1 qa1 f (b + 1) Ω.1 := hr.1
  have hcs := hr1.put (p := p) hc (by omega)
  obtain ⟨hc1, sg, hf, hc2, hc3, hc4, hc5⟩ := id hc
  have hok : okQ (wr (SK b) ia1 fi1 fl qa1 f) 0 (some c) = true := by
    simp only [okQ, wr_o (SK_high hc1), hc3, beq_self_eq_true]
  have hS := hr.cur (ia1 := ia1) (fi1 := fi1) (qa1 := u2 qa1 (b + 1 + 3) p (some c)) (σ := putS Ω p k g) (r := (recO Ω).2.1) hcs (Nat.le_refl _) (fun a ha => rfl) (fun a j h1 h2 => rfl) hr.2.2.1 (fun a ha => u2_row _ _ (by omega))
  have hS1 : CR b ia1 fi1 (u2 qa1 (b + 1 + 3) p (some c)) f (putO Ω p k g) := hS.1
  obtain ⟨ia2, fi2, e2, g1, g2⟩ := C_stagesOf (fl := fl) hS1 (w.putO hv) hp (show 0 < upN Ω.1.2.2.2.1 p k p by rw [upN_s]; omega)
  exact ⟨ia1, fi1, qa1, _, ia2, fi2, _, er, S_sQ hb1 hp hok, ck_0, e2, g1, hh.tr g2⟩
/-- the reference: signs are laid at a place -/
theorem M_lay {ia fi : Nat → Nat → Int32} {fl : Nat → Nat → Int64} {qa : Nat → Nat → Option Nat} (h : MR b ia fi (recO Ω)) (w : WO Ω) {p k : Nat} {g : Nat → Nat} (hp : p < 5) (hv : VC k g) (hl : fi (b + 83) 11 = nI k) (hs : ∀ j, j < k → ia (b + 90) j = nI (g j)) : ∃ (μ1 : mmF) (ia2 : Nat → Nat → Int32), f_X10_lays (b + 83) (nI p) (wr (SK b) ia fi fl qa f) = some μ1 ∧ ckO μ1 (b + 83) 10 = some () ∧ f_X10_holding (b + 83) (nI p) μ1 = some (nI (hO (putO Ω p k g) p), wr (SK b) ia2 fi fl qa f) ∧ MR b ia2 fi (putO Ω p k g) ∧ lowE b ia fi ia2 fi := by
  have k1 := hv.1
  have k30 := hv.2.1
  have e1 := m_lays (fl := fl) (qa := qa) (f := f) hp k30 hl hs
  have hm : MSt (putR (ia (b + 84)) p k g) (putS Ω p k g) := MSt.put (Ω := Ω) w.1 h.1 hp k30
  have hS := h.cur (R := putR (ia (b + 84)) p k g) (fi1 := fi) (σ := putS Ω p k g) (r := (recO Ω).2.1) hm (Nat.le_refl _) (fun a j h2 => rfl) h.2.2.1
  have hS1 : MR b (rw2 ia (b + 84) (putR (ia (b + 84)) p k g)) fi (putO Ω p k g) := hS.1
  obtain ⟨ia2, e2, g1, g2, _⟩ := M_holding (fl := fl) (qa := qa) (f := f) hS1 (w.putO hv) hp (show 0 < upN Ω.1.2.2.2.1 p k p by rw [upN_s]; omega)
  exact ⟨_, ia2, e1, ck_83, e2, g1, hS.2.tr g2⟩
theorem t_join (w : WO Ω) (hsz : b + 102 ≤ sz) (hfr : fresh f sz) (x y z u : Int32) : MethP b f sz Ω (fun μ s => f_X9_join b x y z u μ s) (fun μ => f_X10_join (b + 83) x y z u μ) := by
  have hb1 : isSt b (b + 1) := Or.inl rfl
  have e31 : ∀ p, p < 5 → Ω.1.2.2.2.1 p < 2 ^ 31 := fun p hp => by
    have := w.1.k30 hp
    omega
  -- an unknown place, or one without a claim
  by_cases hx : ∃ k, k < 5 ∧ x = nI k
  · obtain ⟨p, hp, rfl⟩ := hx
    by_cases hy : ∃ k, k < 5 ∧ y = nI k ∧ Ω.1.2.2.2.1 k ≠ 0
    · obtain ⟨o, ho, rfl, ho0⟩ := hy
      by_cases hu : ∃ k, k < 5 ∧ u = nI k ∧ Ω.1.2.2.2.1 k ≠ 0
      · obtain ⟨t, ht, rfl, ht0⟩ := hu
        have cl : ∀ {ia fi : Nat → Nat → Int32} {qa : Nat → Nat → Option Nat}, CR b ia fi qa f Ω → ∀ k, k < 5 → Ω.1.2.2.2.1 k ≠ 0 → ∃ c, qa (b + 1 + 3) k = some c ∧ ClA b f c (Ω.1.2.2.2.1 k) (Ω.1.2.2.2.2 k) := fun h k hk h0 => by
          rcases h.1.2 k hk with ⟨h1, _⟩ | ⟨_, c, h2, h3⟩
          · exact absurd h1 h0
          · exact ⟨c, h2, h3⟩
        by_cases hz : ∃ j, j ≤ 2 ∧ z = nI j
        · obtain ⟨j, hj, rfl⟩ := hz
          have ez : ¬ nI j < 0 := nI_pos (by omega)
          have ez2 : nI j ≤ (2 : Int32) := nI_le (b := 2) hj (by decide)
          have h2 : (2 : Int32) = nI 2 := rfl
          have ko := w.1.k30 ho
          have kt := w.1.k30 ht
          have eN : nI (Ω.1.2.2.2.1 o) + nI (Ω.1.2.2.2.1 t) + 1 = nI (Ω.1.2.2.2.1 o + Ω.1.2.2.2.1 t + 1) := by rw [nI_add, nI_1]
          have es : (7 : Int32) + nI j = nI (7 + j) := nI_add 7 j
          by_cases hN : Ω.1.2.2.2.1 o + Ω.1.2.2.2.1 t + 1 ≤ 24
          · have eN2 : nI (Ω.1.2.2.2.1 o + Ω.1.2.2.2.1 t + 1) ≤ (24 : Int32) := nI_le (b := 24) hN (by decide)
            have vo := w.1.2 o ho (by omega)
            have vt := w.1.2 t ht (by omega)
            have hv : VC (Ω.1.2.2.2.1 o + Ω.1.2.2.2.1 t + 1) (jg (Ω.1.2.2.2.1 o) (Ω.1.2.2.2.2 o) (Ω.1.2.2.2.1 t) (Ω.1.2.2.2.2 t) (7 + j)) := vo.join vt (by omega) (by omega) (by omega)
            refine ⟨nI (hO (putO Ω p (Ω.1.2.2.2.1 o + Ω.1.2.2.2.1 t + 1) (jg (Ω.1.2.2.2.1 o) (Ω.1.2.2.2.2 o) (Ω.1.2.2.2.1 t) (Ω.1.2.2.2.2 t) (7 + j))) p), putO Ω p (Ω.1.2.2.2.1 o + Ω.1.2.2.2.1 t + 1) (jg (Ω.1.2.2.2.1 o) (Ω.1.2.2.2.2 o) (Ω.1.2.2.2.1 t) (Ω.1.2.2.2.2 t) (7 + j)), w.putO hv, fun ia fi fl qa h => ?_, fun f' ia fi fl qa h => ?_⟩
            · show CResP b f sz ia fi (f_X9_join b (nI p) (nI o) (nI j) (nI t) _ sz) _ _
              obtain ⟨c1, q1, hc1⟩ := cl h o ho ho0
              obtain ⟨c2, q2, hc2⟩ := cl h t ht ht0
              obtain ⟨f1, ej, hc, hex, hfr1⟩ := joined_ok (s := 7 + j) hc1 hc2 hsz hfr (by omega)
              obtain ⟨ia1, fi1, qa1, μ1, ia2, fi2, qa2, y1, y2, y3, y4, y5, y6⟩ := C_put (fl := fl) (h.ext hex) w hp hc hv
              unfold f_X9_join
              simp only [ck_0, claimAt_t ho, claimAt_t ht, q1, q2, place_t hp, Option.bind_some, i10, if_false, qc, if_neg ez, if_pos ez2, cl_I hc1, cl_I hc2, eN, if_pos eN2, es, ej, y1, R_0_0, S_R3 hb1, y2, y3, y4]
              exact ⟨_, _, _, _, _, _, rfl, y5, y6, by omega, Nat.le_refl _, hex, hfr1⟩
            · show MRes b f' ia fi qa (f_X10_join (b + 83) (nI p) (nI o) (nI j) (nI t) _) _ _
              obtain ⟨ia1, fi1, er, hr, hl⟩ := M_rec (fl := fl) (qa := qa) (f := f') h w
              have hr1 : MSt (ia1 (b + 84)) Ω.1 := hr.1
              have t1 := m_takes (ia := ia1) (fi := u2 fi1 (b + 83) 11 0) (fl := fl) (qa := qa) (f := f') (l := 0) ho (by omega) (hr1.2 o ho).1 (hr1.2 o ho).2 (by omega) (u2_s _ _ _ _)
              have t2 := m_takes (ia := rw2 ia1 (b + 90) (fun j => if 0 ≤ j ∧ j < 0 + Ω.1.2.2.2.1 o then nI (Ω.1.2.2.2.2 o (j - 0)) else ia1 (b + 90) j)) (fi := u2 (u2 fi1 (b + 83) 11 0) (b + 83) 11 (nI (0 + Ω.1.2.2.2.1 o))) (fl := fl) (qa := qa) (f := f') (l := 0 + Ω.1.2.2.2.1 o) (g := Ω.1.2.2.2.2 t) ht (by omega) (by rw [rw2_n _ _ (by omega)]; exact (hr1.2 t ht).1) (fun j hj => by rw [rw2_n _ _ (by omega)]; exact (hr1.2 t ht).2 j hj) (by omega) (u2_s _ _ _ _)
              have t3 := m_puts (b := b) (ia := rw2 (rw2 ia1 (b + 90) (fun j => if 0 ≤ j ∧ j < 0 + Ω.1.2.2.2.1 o then nI (Ω.1.2.2.2.2 o (j - 0)) else ia1 (b + 90) j)) (b + 90) (fun j => if 0 + Ω.1.2.2.2.1 o ≤ j ∧ j < 0 + Ω.1.2.2.2.1 o + Ω.1.2.2.2.1 t then nI (Ω.1.2.2.2.2 t (j - (0 + Ω.1.2.2.2.1 o))) else rw2 ia1 (b + 90) (fun j => if 0 ≤ j ∧ j < 0 + Ω.1.2.2.2.1 o then nI (Ω.1.2.2.2.2 o (j - 0)) else ia1 (b + 90) j) (b + 90) j)) (fi := u2 (u2 (u2 fi1 (b + 83) 11 0) (b + 83) 11 (nI (0 + Ω.1.2.2.2.1 o))) (b + 83) 11 (nI (0 + Ω.1.2.2.2.1 o + Ω.1.2.2.2.1 t))) (fl := fl) (qa := qa) (f := f') (l := 0 + Ω.1.2.2.2.1 o + Ω.1.2.2.2.1 t) (x := nI (7 + j)) (u2_s _ _ _ _) (by omega)
              obtain ⟨μ1, ia2, l1, l2, l3, l4, l5⟩ := M_lay (fl := fl) (qa := qa) (f := f') (ia := u2 (rw2 (rw2 ia1 (b + 90) (fun j => if 0 ≤ j ∧ j < 0 + Ω.1.2.2.2.1 o then nI (Ω.1.2.2.2.2 o (j - 0)) else ia1 (b + 90) j)) (b + 90) (fun j => if 0 + Ω.1.2.2.2.1 o ≤ j ∧ j < 0 + Ω.1.2.2.2.1 o + Ω.1.2.2.2.1 t then nI (Ω.1.2.2.2.2 t (j - (0 + Ω.1.2.2.2.1 o))) else rw2 ia1 (b + 90) (fun j => if 0 ≤ j ∧ j < 0 + Ω.1.2.2.2.1 o then nI (Ω.1.2.2.2.2 o (j - 0)) else ia1 (b + 90) j) (b + 90) j)) (b + 90) (0 + Ω.1.2.2.2.1 o + Ω.1.2.2.2.1 t) (nI (7 + j))) (fi := u2 (u2 (u2 (u2 fi1 (b + 83) 11 0) (b + 83) 11 (nI (0 + Ω.1.2.2.2.1 o))) (b + 83) 11 (nI (0 + Ω.1.2.2.2.1 o + Ω.1.2.2.2.1 t))) (b + 83) 11 (nI (0 + Ω.1.2.2.2.1 o + Ω.1.2.2.2.1 t + 1))) (hr.scr (fun a ha => by rw [u2_row _ _ (by omega), rw2_n _ _ (by omega), rw2_n _ _ (by omega)]) (fun a j ha => by
                have hq : a ≠ b + 83 ∨ j ≠ 11 := by omega
                rcases hq with hq | hq
                · rw [u2_a _ _ hq, u2_a _ _ hq, u2_a _ _ hq, u2_a _ _ hq]
                · rw [u2_i _ _ hq, u2_i _ _ hq, u2_i _ _ hq, u2_i _ _ hq])).1 w hp hv (by rw [u2_s]; congr 1; omega) (fun e he => by
                by_cases d3 : e = Ω.1.2.2.2.1 o + Ω.1.2.2.2.1 t
                · subst d3
                  rw [jg_3 (Nat.le_refl _), show 0 + Ω.1.2.2.2.1 o + Ω.1.2.2.2.1 t = Ω.1.2.2.2.1 o + Ω.1.2.2.2.1 t by omega, u2_s]
                · rw [u2_i _ _ (by omega), rw2_s, rw2_s]
                  by_cases d1 : e < Ω.1.2.2.2.1 o
                  · rw [jg_1 d1, if_neg (by omega), if_pos (by omega), Nat.sub_zero]
                  · rw [jg_2 (by omega) (by omega), if_pos (by omega), Nat.zero_add])
              unfold f_X10_join
              simp only [noPlace_t hp, ck_83, noClaim_t h.1.2 ho (e31 o ho), noClaim_t h.1.2 ht (e31 t ht), if_neg ho0, if_neg ht0, Option.bind_some, i00, if_true, h2, in_t hj (show (2 : Nat) < 2 ^ 31 by decide), i10, if_false, R_83_0, at17, An_84 (show 17 + 31 * o < 172 by omega), An_84 (show 17 + 31 * t < 172 by omega), (h.1.2 o ho).1, (h.1.2 t ht).1, eN, if_pos eN2, er, sI_83_11, t1, t2, es, t3, l1, l2, l3]
              refine ⟨_, _, _, rfl, l4, hl.tr (lowE.tr (fun a ha => ⟨?_, ?_⟩) l5)⟩
              · rw [u2_row _ _ (by omega), rw2_n _ _ (by omega), rw2_n _ _ (by omega)]
              · rw [u2_row _ _ (by omega), u2_row _ _ (by omega), u2_row _ _ (by omega), u2_row _ _ (by omega)]
          · have eN2 : ¬ nI (Ω.1.2.2.2.1 o + Ω.1.2.2.2.1 t + 1) ≤ (24 : Int32) := nI_ge (a := 24) (by omega) (by omega)
            refine ⟨-4, Ω, w, fun ia fi fl qa h => ?_, fun f' ia fi fl qa h => ?_⟩
            · show CResP b f sz ia fi (f_X9_join b (nI p) (nI o) (nI j) (nI t) _ sz) _ _
              obtain ⟨c1, q1, hc1⟩ := cl h o ho ho0
              obtain ⟨c2, q2, hc2⟩ := cl h t ht ht0
              unfold f_X9_join
              simp only [ck_0, claimAt_t ho, claimAt_t ht, q1, q2, place_t hp, Option.bind_some, i10, if_false, qc, if_neg ez, if_pos ez2, cl_I hc1, cl_I hc2, eN, if_neg eN2]
              exact CResP.same h hfr
            · show MRes b f' ia fi qa (f_X10_join (b + 83) (nI p) (nI o) (nI j) (nI t) _) _ _
              unfold f_X10_join
              simp only [noPlace_t hp, ck_83, noClaim_t h.1.2 ho (e31 o ho), noClaim_t h.1.2 ht (e31 t ht), if_neg ho0, if_neg ht0, Option.bind_some, i00, if_true, h2, in_t hj (show (2 : Nat) < 2 ^ 31 by decide), i10, if_false, R_83_0, at17, An_84 (show 17 + 31 * o < 172 by omega), An_84 (show 17 + 31 * t < 172 by omega), (h.1.2 o ho).1, (h.1.2 t ht).1, eN, if_neg eN2]
              exact MRes.same h
        · have hz2 : ∀ k, k ≤ 2 → z ≠ nI k := fun k hk e => hz ⟨k, hk, e⟩
          refine ⟨-2, Ω, w, fun ia fi fl qa h => ?_, fun f' ia fi fl qa h => ?_⟩
          · show CResP b f sz ia fi (f_X9_join b (nI p) (nI o) z (nI t) _ sz) _ _
            obtain ⟨c1, q1, hc1⟩ := cl h o ho ho0
            obtain ⟨c2, q2, hc2⟩ := cl h t ht ht0
            unfold f_X9_join
            simp only [ck_0, claimAt_t ho, claimAt_t ht, q1, q2, place_t hp, Option.bind_some, i10, if_false, qc]
            by_cases h0 : z < 0
            · rw [if_pos h0]
              exact CResP.same h hfr
            · rw [if_neg h0]
              obtain ⟨j, hj, rfl⟩ := nI_of h0
              rw [if_neg (show ¬ nI j ≤ (2 : Int32) from nI_ge (a := 2) (Nat.not_le.mp fun h => hz2 j h rfl) hj)]
              exact CResP.same h hfr
          · show MRes b f' ia fi qa (f_X10_join (b + 83) (nI p) (nI o) z (nI t) _) _ _
            unfold f_X10_join
            simp only [noPlace_t hp, ck_83, noClaim_t h.1.2 ho (e31 o ho), noClaim_t h.1.2 ht (e31 t ht), if_neg ho0, if_neg ht0, Option.bind_some, i00, if_true, show (2 : Int32) = nI 2 from rfl, in_f (m := 2) (by decide) hz2]
            exact MRes.same h
      · refine ⟨-1, Ω, w, fun ia fi fl qa h => ?_, fun f' ia fi fl qa h => ?_⟩
        · show CResP b f sz ia fi (f_X9_join b (nI p) (nI o) z u _ sz) _ _
          have hcu : f_X9_claimAt b u (wr (SK b) ia fi fl qa f) = some none := by
            by_cases hu5 : ∃ k, k < 5 ∧ u = nI k
            · obtain ⟨k, hk, rfl⟩ := hu5
              rw [claimAt_t hk]
              rcases h.1.2 k hk with ⟨_, h1⟩ | ⟨h1, _⟩
              · rw [h1]
              · exact absurd ⟨k, hk, rfl, by omega⟩ hu
            · exact claimAt_f (fun k hk e => hu5 ⟨k, hk, e⟩)
          unfold f_X9_join
          simp only [ck_0, claimAt_t ho, hcu, place_t hp, Option.bind_some, i10, if_false]
          cases hq : qa (b + 1 + 3) o with
          | none =>
            simp only [qc]
            exact CResP.same h hfr
          | some c =>
            simp only [qc]
            exact CResP.same h hfr
        · show MRes b f' ia fi qa (f_X10_join (b + 83) (nI p) (nI o) z u _) _ _
          have hcu : f_X10_noClaim (b + 83) u (wr (SK b) ia fi fl qa f') = some 1 := by
            by_cases hu5 : ∃ k, k < 5 ∧ u = nI k
            · obtain ⟨k, hk, rfl⟩ := hu5
              rw [noClaim_t h.1.2 hk (e31 k hk), if_pos (by
                by_cases h0 : Ω.1.2.2.2.1 k = 0
                · exact h0
                · exact absurd ⟨k, hk, rfl, h0⟩ hu)]
            · exact noClaim_f (fun k hk e => hu5 ⟨k, hk, e⟩)
          unfold f_X10_join
          simp only [noPlace_t hp, ck_83, noClaim_t h.1.2 ho (e31 o ho), if_neg ho0, hcu, Option.bind_some, i00, if_true, i10, if_false]
          exact MRes.same h
    · refine ⟨-1, Ω, w, fun ia fi fl qa h => ?_, fun f' ia fi fl qa h => ?_⟩
      · show CResP b f sz ia fi (f_X9_join b (nI p) y z u _ sz) _ _
        have hcy : f_X9_claimAt b y (wr (SK b) ia fi fl qa f) = some none := by
          by_cases hy5 : ∃ k, k < 5 ∧ y = nI k
          · obtain ⟨k, hk, rfl⟩ := hy5
            rw [claimAt_t hk]
            rcases h.1.2 k hk with ⟨_, h1⟩ | ⟨h1, _⟩
            · rw [h1]
            · exact absurd ⟨k, hk, rfl, by omega⟩ hy
          · exact claimAt_f (fun k hk e => hy5 ⟨k, hk, e⟩)
        have hcu : ∃ r, f_X9_claimAt b u (wr (SK b) ia fi fl qa f) = some r := by
          by_cases hu5 : ∃ k, k < 5 ∧ u = nI k
          · obtain ⟨k, hk, rfl⟩ := hu5
            exact ⟨_, claimAt_t hk⟩
          · exact ⟨_, claimAt_f (fun k hk e => hu5 ⟨k, hk, e⟩)⟩
        obtain ⟨r, hcu⟩ := hcu
        unfold f_X9_join
        simp only [ck_0, hcy, hcu, place_t hp, Option.bind_some, i10, if_false, qc]
        exact CResP.same h hfr
      · show MRes b f' ia fi qa (f_X10_join (b + 83) (nI p) y z u _) _ _
        have hcy : f_X10_noClaim (b + 83) y (wr (SK b) ia fi fl qa f') = some 1 := by
          by_cases hy5 : ∃ k, k < 5 ∧ y = nI k
          · obtain ⟨k, hk, rfl⟩ := hy5
            rw [noClaim_t h.1.2 hk (e31 k hk), if_pos (by
              by_cases h0 : Ω.1.2.2.2.1 k = 0
              · exact h0
              · exact absurd ⟨k, hk, rfl, h0⟩ hy)]
          · exact noClaim_f (fun k hk e => hy5 ⟨k, hk, e⟩)
        unfold f_X10_join
        simp only [noPlace_t hp, ck_83, hcy, Option.bind_some, i00, if_true, i10, if_false]
        exact MRes.same h
  · have hx2 : ∀ k, k < 5 → x ≠ nI k := fun k hk e => hx ⟨k, hk, e⟩
    refine ⟨-1, Ω, w, fun ia fi fl qa h => ?_, fun f' ia fi fl qa h => ?_⟩
    · show CResP b f sz ia fi (f_X9_join b x y z u _ sz) _ _
      have hc : ∀ v : Int32, ∃ r, f_X9_claimAt b v (wr (SK b) ia fi fl qa f) = some r := fun v => by
        by_cases hu5 : ∃ k, k < 5 ∧ v = nI k
        · obtain ⟨k, hk, rfl⟩ := hu5
          exact ⟨_, claimAt_t hk⟩
        · exact ⟨_, claimAt_f (fun k hk e => hu5 ⟨k, hk, e⟩)⟩
      obtain ⟨r1, hr1⟩ := hc y
      obtain ⟨r2, hr2⟩ := hc u
      unfold f_X9_join
      simp only [ck_0, hr1, hr2, place_f hx2, Option.bind_some, i00, if_true]
      exact CResP.same h hfr
    · show MRes b f' ia fi qa (f_X10_join (b + 83) x y z u _) _ _
      unfold f_X10_join
      simp only [noPlace_f hx2, Option.bind_some, i10, if_false]
      exact MRes.same h
end METH10
