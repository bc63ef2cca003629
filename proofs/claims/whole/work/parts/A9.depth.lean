/-! claim: depth, facts -/
def dUn (x : Nat) : Nat := 1 + max x 1
def dBn (_k x y : Nat) : Nat := 1 + max x y
theorem dUn_b {x n m : Nat} (h1 : 1 ≤ x ∧ x ≤ n + 1) (hn : n < m) : 1 ≤ dUn x ∧ dUn x ≤ m + 1 := by
  unfold dUn; omega
theorem dBn_b {t x y n n' m : Nat} (h1 : 1 ≤ x ∧ x ≤ n + 1) (h2 : 1 ≤ y ∧ y ≤ n' + 1) (hn : n < m) (hn' : n' < m) : 1 ≤ dBn t x y ∧ dBn t x y ≤ m + 1 := by
  unfold dBn; omega
def dN (g : Nat → Nat) : Nat → Nat := nv (fun _ => 1) dUn dBn g 0
def dP (kd lf rt : Nat → Nat) : Nat → Nat := pv (fun _ => 1) dUn dBn kd lf rt 0
theorem dN_b {g : Nat → Nat} {k : Nat} (ho : okp g k) : ∀ i, i < k → 1 ≤ dN g i ∧ dN g i ≤ i + 1 := by
  intro i
  induction i using Nat.strongRecOn with
  | _ i ih =>
    intro hi
    unfold dN
    by_cases h6 : g i < 6
    · rw [nv_lf h6]; omega
    · have hr := rc_lt ho hi (by omega)
      have ir := ih _ hr (by omega)
      unfold dN at ir
      by_cases h7 : g i = 6
      · rw [nv_un h7 hr]
        exact dUn_b ir hr
      · have hl := lc_lt ho hi (by omega)
        have il := ih _ hl (by omega)
        unfold dN at il
        rw [nv_bn (by omega) hl hr]
        exact dBn_b il ir hl hr
theorem dP_b {S : Nat} {kd lf rt : Nat → Nat} (ho : PTo S kd lf rt) : ∀ p, p < S → 1 ≤ dP kd lf rt p ∧ dP kd lf rt p ≤ p + 1 := by
  intro p
  induction p using Nat.strongRecOn with
  | _ p ih =>
    intro hp
    unfold dP
    by_cases h6 : p < 6
    · rw [pv_lf h6]; omega
    · obtain ⟨o1, o2, o3, o4, o5⟩ := ho.2.2.2.1 p (by omega) hp
      have il := ih _ o3 (by omega)
      have ir := ih _ o4 (by omega)
      unfold dP at il ir
      by_cases h7 : kd p = 6
      · rw [pv_un (by omega) h7 o3]
        exact dUn_b il o3
      · rw [pv_bn (by omega) h7 o3 o4]
        exact dBn_b il ir o3 o4
section DEPTH
variable {b : Nat} {ia fi : Nat → Nat → Int32} {fl : Nat → Nat → Int64} {qa : Nat → Nat → Option Nat} {f : mmF}
theorem m_dep_13 {base k : Nat} {g : Nat → Nat} (hb : base + k < 172) (hrow : ia (b + 84) base = nI k) (hg : ∀ j, j < k → ia (b + 84) (base + (1 + j)) = nI (g j)) (hv : VC k g) : ∀ (m i q : Nat) (R : Nat → Int32), i + m = k → m < q → (∀ d, d < dpt g i → R d = nI (dN g (sl g i d))) → ∃ R1 : Nat → Int32, f_X10_depth_13 q (b + 83) (nI base) (nI (dpt g i)) (nI (1 + i)) (wr (SK b) (rw2 ia (b + 92) R) fi fl qa f) = some (nI (dN g (k - 1)), wr (SK b) (rw2 ia (b + 92) R1) fi fl qa f) := by
  obtain ⟨k1, k30, hok, hdk⟩ := hv
  have e90 : b + 84 ≠ b + 92 := by omega
  intro m
  induction m with
  | zero =>
    intro i q R hi hm hR
    obtain ⟨q, rfl⟩ : ∃ k, q = k + 1 := ⟨q - 1, by omega⟩
    have hin : i = k := by omega
    subst hin
    refine ⟨R, ?_⟩
    have h0 := hR 0 (by omega)
    obtain ⟨i', rfl⟩ : ∃ j, i = j + 1 := ⟨i - 1, by omega⟩
    rw [sl_top g (by omega)] at h0
    rw [f_X10_depth_13]
    simp only [R_83_0, An_84 (show base < 172 by omega), Option.bind_some, rw2_n _ _ e90, hrow, if_pos (show nI (i' + 1) < nI (1 + (i' + 1)) from nI_lt (by omega) (by omega)), R_83_14]
    rw [show (0 : Int32) = nI 0 from rfl, An_92 (by decide), rw2_s, h0]
    rfl
  | succ m ih =>
    intro i q R hi hm hR
    obtain ⟨q, rfl⟩ : ∃ k, q = k + 1 := ⟨q - 1, by omega⟩
    have hik : i < k := by omega
    have hlt : ¬ nI k < nI (1 + i) := nI_nlt (by omega) (by omega)
    obtain ⟨g10, g6, g7⟩ := hok i hik
    have hdl := dpt_le g i
    have hdp := dpt_pos hok hik
    have hds := dpt_s g i
    have hat : nI base + nI (1 + i) = nI (base + (1 + i)) := nI_add _ _
    have next : ∀ (d : Nat) (x : Int32), d + 1 = dpt g (i + 1) → x = nI (dN g i) → ∃ R1 : Nat → Int32, f_X10_depth_13 q (b + 83) (nI base) (nI (dpt g (i + 1))) (nI (1 + i + 1)) (wr (SK b) (rw2 ia (b + 92) (fun j => if j = d then x else R j)) fi fl qa f) = some (nI (dN g (k - 1)), wr (SK b) (rw2 ia (b + 92) R1) fi fl qa f) := by
      intro d x hd hx
      rw [show 1 + i + 1 = 1 + (i + 1) by omega]
      refine ih (i + 1) q _ (by omega) (by omega) (fun e he => ?_)
      by_cases hed : e = d
      · subst hed
        rw [sl_top g hd]
        exact (if_pos rfl).trans hx
      · rw [sl_low g (by omega)]
        refine (if_neg hed).trans (hR e ?_)
        have := dpt_up g i
        omega
    rw [f_X10_depth_13]
    simp only [R_83_0, An_84 (show base < 172 by omega), Option.bind_some, rw2_n _ _ e90, hrow, if_neg hlt, hat, An_84 (show base + (1 + i) < 172 by omega), hg i hik]
    unfold f_X10_depth_124
    by_cases c6 : g i < 6
    · rw [if_pos c6] at hds
      have hH : dN g i = 1 := nv_lf c6
      rw [if_neg (show ¬ (6 : Int32) ≤ nI (g i) from nI_ge (b := 6) c6 (by decide))]
      simp only [R_83_14, Option.bind_some, sAn_92 (show dpt g i < 32 by omega), u2_rw2, nI_1, ← hds]
      exact next (dpt g i) _ (by omega) (by rw [hH]; rfl)
    · rw [if_neg c6] at hds
      have hd1 := g6 (by omega)
      have hrc := rc_lt hok hik (by omega)
      have hRr : R (dpt g i - 1) = nI (dN g (rc g i)) := hR _ (by omega)
      have hbr := dN_b hok _ (show rc g i < k by omega)
      rw [if_pos (show (6 : Int32) ≤ nI (g i) from nI_le (a := 6) (by omega) (by omega))]
      by_cases c7 : g i = 6
      · rw [if_pos c7] at hds
        have hH : dN g i = dUn (dN g (rc g i)) := nv_un c7 hrc
        rw [c7, if_pos (show nI 6 = (6 : Int32) from rfl)]
        simp only [R_83_14, Option.bind_some, nsub1 hd1, An_92 (show dpt g i - 1 < 32 by omega), rw2_s, hRr, sAn_92 (show dpt g i - 1 < 32 by omega), u2_rw2, nI_1]
        rw [← hds]
        exact next (dpt g (i + 1) - 1) _ (by omega) (by rw [hH, dUn]; congr 1; omega)
      · rw [if_neg c7] at hds
        have hd2 := g7 (by omega)
        have hlc := lc_lt hok hik (by omega)
        have hRl : R (dpt g i - 2) = nI (dN g (lc g i)) := hR _ (by omega)
        have hbl := dN_b hok _ (show lc g i < k by omega)
        have hH : dN g i = dBn (g i) (dN g (lc g i)) (dN g (rc g i)) := nv_bn (by omega) hlc hrc
        have e7 : ¬ nI (g i) = (6 : Int32) := fun e => c7 ((nI_eq (b := 6) (by omega) (by decide)).mp e)
        rw [if_neg e7]
        simp only [R_83_14, Option.bind_some, nadm1 hd1, nsub1 (show 1 ≤ dpt g i - 1 by omega), show dpt g i - 1 - 1 = dpt g i - 2 by omega, An_92 (show dpt g i - 1 < 32 by omega), An_92 (show dpt g i - 2 < 32 by omega), rw2_s, hRl, hRr]
        unfold f_X10_depth_122 f_X10_depth_124
        have e1 : ∀ v : Nat, (1 : Int32) + nI v = nI (1 + v) := fun v => nI_add 1 v
        by_cases hle : dN g (rc g i) ≤ dN g (lc g i)
        · rw [if_pos (show nI (dN g (rc g i)) ≤ nI (dN g (lc g i)) from nI_le hle (by omega))]
          simp only [sAn_92 (show dpt g i - 2 < 32 by omega), Option.bind_some, u2_rw2, e1, nI_1]
          rw [← hds]
          exact next (dpt g i - 2) _ (by omega) (by rw [hH, dBn]; congr 1; omega)
        · rw [if_neg (show ¬ nI (dN g (rc g i)) ≤ nI (dN g (lc g i)) from nI_ge (by omega) (by omega))]
          simp only [sAn_92 (show dpt g i - 2 < 32 by omega), Option.bind_some, u2_rw2, e1, nI_1]
          rw [← hds]
          exact next (dpt g i - 2) _ (by omega) (by rw [hH, dBn]; congr 1; omega)
variable {S : Nat} {kd lf rt : Nat → Nat}
theorem c_dep_2 {pl : Int32} {z : Nat} (hw : ∀ R : Nat → Int32, f_X4_whole (b + 22) pl (wr (SK b) (rw2 ia (b + 28) R) fi fl qa f) = some (nI z)) (hz : z < S) (hm : PTm b ia fi S kd lf rt) (ho : PTo S kd lf rt) : ∀ (m p q : Nat) (R : Nat → Int32), p + m = S → m < q → (∀ d, d < p → R d = nI (dP kd lf rt d)) → ∃ R1 : Nat → Int32, f_X4_depth_2 q (b + 22) pl (nI p) (wr (SK b) (rw2 ia (b + 28) R) fi fl qa f) = some (nI (dP kd lf rt z), wr (SK b) (rw2 ia (b + 28) R1) fi fl qa f) := by
  obtain ⟨o1, o2, o3, o4, o5⟩ := id ho
  obtain ⟨m1, m2, m3⟩ := hm
  have e24 : b + 24 ≠ b + 28 := by omega
  have e25 : b + 25 ≠ b + 28 := by omega
  intro m
  induction m with
  | zero =>
    intro p q R hp hq hR
    obtain ⟨q, rfl⟩ : ∃ k, q = k + 1 := ⟨q - 1, by omega⟩
    have hpS : p = S := by omega
    subst hpS
    refine ⟨R, ?_⟩
    rw [f_X4_depth_2]
    simp only [I_22_0, Option.bind_some, m1, if_pos (Int32.le_refl (nI p)), R_22_7, ck_22, hw, at_row L_28 (An_28 (show z < 151 by omega)) (show z < 151 by omega) (by decide), rw2_s, hR z hz]
  | succ m ih =>
    intro p q R hp hq hR
    obtain ⟨q, rfl⟩ : ∃ k, q = k + 1 := ⟨q - 1, by omega⟩
    have hpS : p < S := by omega
    have next : ∀ x : Int32, x = nI (dP kd lf rt p) → ∃ R1 : Nat → Int32, f_X4_depth_58 (fun a0 a1 a2 a3 => f_X4_depth_2 q a0 a1 a2 a3) (b + 22) pl (nI p) (b + 28) (nI p) x (wr (SK b) (rw2 ia (b + 28) R) fi fl qa f) = some (nI (dP kd lf rt z), wr (SK b) (rw2 ia (b + 28) R1) fi fl qa f) := by
      intro x hx
      obtain ⟨R1, hR1⟩ := ih (p + 1) q (fun j => if j = p then x else R j) (by omega) (by omega) (fun d hd => by
        by_cases hdp : d = p
        · subst hdp; exact (if_pos rfl).trans hx
        · exact (if_neg hdp).trans (hR d (by omega)))
      refine ⟨R1, ?_⟩
      unfold f_X4_depth_58
      simp only [sAn_28 (show p < 151 by omega), Option.bind_some, u2_rw2, nI_1]
      exact hR1
    rw [f_X4_depth_2]
    simp only [I_22_0, Option.bind_some, m1, if_neg (show ¬ nI S ≤ nI p from nI_ge (by omega) (by omega)), R_22_7, R_22_2, R_22_3, An_24 (show p < 151 by omega), An_25 (show p < 151 by omega), rw2_n _ _ e24, rw2_n _ _ e25]
    by_cases c6 : p < 6
    · obtain ⟨v1, hv1⟩ := at_any (μ := wr (SK b) (rw2 ia (b + 28) R) fi fl qa f) (x := ia (b + 24) p) L_28 (fun d hd => ⟨_, An_28 hd⟩) (by decide)
      obtain ⟨v2, hv2⟩ := at_any (μ := wr (SK b) (rw2 ia (b + 28) R) fi fl qa f) (x := ia (b + 25) p) L_28 (fun d hd => ⟨_, An_28 hd⟩) (by decide)
      simp only [hv1, hv2, Option.bind_some, if_neg (show ¬ (6 : Int32) ≤ nI p from nI_ge (b := 6) c6 (by decide))]
      exact next _ (by rw [show dP kd lf rt p = 1 from pv_lf c6]; rfl)
    · obtain ⟨a1, a2, a3, a4, a5⟩ := o4 p (by omega) hpS
      obtain ⟨b1, b2⟩ := m3 p (by omega) hpS
      have hdl := dP_b ho (lf p) (by omega)
      have hdr := dP_b ho (rt p) (by omega)
      have hH : dP kd lf rt p = 1 + max (dP kd lf rt (lf p)) (dP kd lf rt (rt p)) := by
        by_cases d6 : kd p = 6
        · have h5 : dP kd lf rt (rt p) = 1 := by
            rw [a5 d6]
            exact pv_lf (by decide)
          rw [h5]
          exact pv_un (by omega) d6 a3
        · exact pv_bn (by omega) d6 a3 a4
      simp only [b1, b2, at_row L_28 (An_28 (show lf p < 151 by omega)) (show lf p < 151 by omega) (by decide), at_row L_28 (An_28 (show rt p < 151 by omega)) (show rt p < 151 by omega) (by decide), rw2_s, hR _ a3, hR _ a4, Option.bind_some, if_pos (show (6 : Int32) ≤ nI p from nI_le (a := 6) (by omega) (by omega))]
      refine next _ ?_
      rw [hH]
      by_cases hlt : dP kd lf rt (lf p) < dP kd lf rt (rt p)
      · rw [if_pos (show nI (dP kd lf rt (lf p)) < nI (dP kd lf rt (rt p)) from nI_lt hlt (by omega)), Nat.max_eq_right (by omega)]
        exact nI_add 1 _
      · rw [if_neg (show ¬ nI (dP kd lf rt (lf p)) < nI (dP kd lf rt (rt p)) from nI_nlt (by omega) (by omega)), Nat.max_eq_left (by omega)]
        exact nI_add 1 _
end DEPTH
