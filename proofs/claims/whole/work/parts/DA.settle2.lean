/-! THE REFERENCE'S SEARCH: settles, the goal taken apart, all sweeps -/
section SETT2
variable {b d : Nat} {ia fi ia0 fi0 : Nat → Nat → Int32} {fl : Nat → Nat → Int64} {qa : Nat → Nat → Option Nat} {f : mmF} {J : Nat → (Nat → Nat) → (Nat → Nat) → (Nat → Nat) → (Nat → Bool) → Nat → Prop} {P : Nat} {op lf rt : Nat → Nat} {Γ : Nat → Bool} {pg : Nat}
/-- what is lost or got in frame d -/
theorem stG.w {Γ1 : Nat → Bool} {i : Nat} {x : Int32} (h : stG b d J ia0 fi0 ia fi P op lf rt Γ pg) (hi : 32 * d ≤ i ∧ i < 32 * d + 32) (hg : gv b (u2 ia (b + 97) i x) d Γ1) (h1 : inP P Γ1) (hj : J P op lf rt Γ1 pg) : stG b d J ia0 fi0 (u2 ia (b + 97) i x) fi P op lf rt Γ1 pg := by
  obtain ⟨a1, a2, a3, a4, a5, a6, a7, a8⟩ := h
  refine ⟨a1.w, a2, hg, h1, ?_, a6, hj, a8.tr (dE.w hi).fr⟩
  rw [u2_a _ _ (by omega)]; exact a5
theorem set_14 {k2 : Nat → Int32 → Int32 → mmF → Option (Int32 × mmF)} {μ0 : Nat} (hJ : jOK J) (hd : d < 600)
    (hk0 : ∀ (ia fi : Nat → Nat → Int32) (P : Nat) (op lf rt : Nat → Nat) (Γ : Nat → Bool) (pg : Nat), stG b d J ia0 fi0 ia fi P op lf rt Γ pg → (∀ p, p < P → Γ p = true → stR op lf rt Γ p) → chkR op Γ pg → RS b d fl qa f J ia0 fi0 (k2 (b + 83) (nI d) (nI 0) (wr (SK b) ia fi fl qa f)))
    (hk1 : ∀ (ia fi : Nat → Nat → Int32) (P : Nat) (op lf rt : Nat → Nat) (Γ : Nat → Bool) (pg : Nat), stG b d J ia0 fi0 ia fi P op lf rt Γ pg → muR op lf rt Γ pg < μ0 → RS b d fl qa f J ia0 fi0 (k2 (b + 83) (nI d) (nI 1) (wr (SK b) ia fi fl qa f))) :
    ∀ (m q : Nat) (ia : Nat → Nat → Int32) (Γ : Nat → Bool) (pg : Nat), pg < m → m < q → stG b d J ia0 fi0 ia fi P op lf rt Γ pg → Γ 0 = false → muR op lf rt Γ pg ≤ μ0 → RS b d fl qa f J ia0 fi0 (f_X10_settles_14 k2 q (b + 83) (nI d) (nI 0) (wr (SK b) ia fi fl qa f)) := by
  intro m
  induction m with
  | zero => intro q ia Γ pg h; exact absurd h (Nat.not_lt_zero _)
  | succ m ih =>
    intro q ia Γ pg hm hq h h0 hμ
    obtain ⟨q, rfl⟩ : ∃ k, q = k + 1 := ⟨q - 1, by omega⟩
    obtain ⟨a1, a2, a3, a4, a5, a6, a7, a8⟩ := id h
    have hP := hJ.1 _ _ _ _ _ _ a7
    obtain ⟨r1, r2, r3, r4⟩ := a1.row a6
    have eq : ∀ u v : Nat, u < 1000 → v < 1000 → (nI u = nI v) = (u = v) := fun u v hu hv => propext (nI_eq (by omega) (by omega))
    have hop := a1.op_lt a6
    rw [f_X10_settles_14]
    simp only [R_83_15, R_83_21, An_98 hd, a5, An_93 r4, r1, Option.bind_some, show (9 : Int32) = nI 9 from rfl, eq (op pg) 9 (by omega) (by decide)]
    by_cases c9 : op pg = 9
    · rw [if_pos c9]
      obtain ⟨l1, l2, l3, l4⟩ := a1.lf_lt a6 (by omega)
      obtain ⟨x1, e1, g1⟩ := gets_g (fi := fi) (fl := fl) (qa := qa) (f := f) a3 hd (show lf pg < 1024 by omega)
      have s1 := h.w (Γ1 := upB Γ (lf pg) true) (x := x1) (i := 32 * d + lf pg / 32) (by omega)
      obtain ⟨t1, t2, t3, t4⟩ := (a1.w (i := 32 * d + lf pg / 32) (x := x1)).row a6
      have e5 : u2 ia (b + 97) (32 * d + lf pg / 32) x1 (b + 98) d = nI pg := by rw [u2_a _ _ (by omega)]; exact a5
      simp only [R_83_16, R_83_17, R_83_21, An_98 hd, a5, An_94 r4, r2, ck_83, e1, e5, An_95 t4, t3, sAn_98 hd, Option.bind_some]
      have g2 : gv b (u2 (u2 ia (b + 97) (32 * d + lf pg / 32) x1) (b + 98) d (nI (rt pg))) d (upB Γ (lf pg) true) := g1.cg (fun w _ => u2_a _ _ (by omega))
      obtain ⟨x2, e2, g3⟩ := loses_g (fi := fi) (fl := fl) (qa := qa) (f := f) g2 hd (show 0 < 1024 by decide)
      simp only [show (0 : Int32) = nI 0 from rfl, e2, Option.bind_some]
      have A1 : RP b (u2 (u2 ia (b + 97) (32 * d + lf pg / 32) x1) (b + 98) d (nI (rt pg))) fi P op lf rt := (a1.w).fr (fun a _ h2 => u2_row _ _ (by omega))
      have hin : inP P (upB Γ (lf pg) true) := a4.up (by omega)
      have hj := hJ.2.2.2.1 _ _ _ _ _ _ a1.2.2.1 a2 a6 a4 c9 a7
      have S2 : stG b d J ia0 fi0 (u2 (u2 ia (b + 97) (32 * d + lf pg / 32) x1) (b + 98) d (nI (rt pg))) fi P op lf rt (upB Γ (lf pg) true) (rt pg) := ⟨A1, a2, g2, hin, u2_s _ _ _ _, by omega, hj, (a8.tr (dE.w (by omega)).fr).tr (fE.g _)⟩
      have S3 := S2.w (i := 32 * d + 0 / 32) (x := x2) (by omega) g3 (hin.up (by omega)) (hJ.2.2.1 _ _ _ _ _ _ a1.2.2.1 a2 (by omega) hin hj)
      refine ih q _ _ _ (by omega) (by omega) S3 (upB_s _ _ _) ?_
      have := mu_un (Γ := Γ) a1.2.2.1 hP.2 a6 c9
      omega
    · rw [if_neg c9]
      simp only [show (0 : Int32) = nI 0 from rfl, show (1 : Int32) = nI 1 from rfl, show (2 : Int32) = nI 2 from rfl, eq pg 0 (by omega) (by decide)]
      have fin : Prv P op lf rt Γ pg → RS b d fl qa f J ia0 fi0 (some (nI 1, wr (SK b) ia fi fl qa f)) := fun hp => ⟨1, ia, fi, P, op, lf, rt, Γ, pg, rfl, h, Or.inl ⟨rfl, hp⟩⟩
      by_cases c0 : pg = 0
      · rw [if_pos c0]
        subst c0
        exact fin (prv_0 a1.2.2.1 a6)
      rw [if_neg c0]
      simp only [ck_83, has_g a3 hd (show 1 < 1024 by decide), has_g a3 hd (show pg < 1024 by omega), Option.bind_some]
      by_cases c1 : Γ 1 = true
      · rw [if_pos c1, if_neg (show ¬ (1 : Int32) = nI 0 by decide)]
        exact fin (prv_1 a1.2.2.1 (by omega) c1 pg)
      rw [if_neg c1, if_pos (show (0 : Int32) = nI 0 from rfl)]
      by_cases c2 : Γ pg = true
      · rw [if_pos c2, if_neg (show ¬ (1 : Int32) = nI 0 by decide)]
        exact fin (prv_g a6 c2)
      rw [if_neg c2, if_pos (show (0 : Int32) = nI 0 from rfl)]
      obtain ⟨qf, hqf⟩ := FU_2000
      exact set_108 hJ hd hk0 hk1 998 2 FU ia fi P op lf rt Γ pg 0 (by omega) (by omega) (by decide) a2 h (Or.inl ⟨rfl, fun p hp hgp => by
        obtain rfl | rfl : p = 0 ∨ p = 1 := by omega
        · rw [h0] at hgp; cases hgp
        · exact absurd hgp c1, ⟨c9, c0, eq_false_of_ne_true c1, eq_false_of_ne_true c2, h0⟩, hμ⟩)
theorem set_2 (hJ : jOK J) (hd : d < 600) : ∀ (m q : Nat) (ia fi : Nat → Nat → Int32) (P : Nat) (op lf rt : Nat → Nat) (Γ : Nat → Bool) (pg : Nat), muR op lf rt Γ pg < m → m + 1 < q → stG b d J ia0 fi0 ia fi P op lf rt Γ pg → RS b d fl qa f J ia0 fi0 (f_X10_settles_2 q (b + 83) (nI d) (nI 1) (wr (SK b) ia fi fl qa f)) := by
  intro m
  induction m with
  | zero => intro q ia fi P op lf rt Γ pg h; exact absurd h (Nat.not_lt_zero _)
  | succ m ih =>
    intro q ia fi P op lf rt Γ pg hm hq h
    obtain ⟨q, rfl⟩ : ∃ k, q = k + 1 := ⟨q - 1, by omega⟩
    obtain ⟨a1, a2, a3, a4, a5, a6, a7, a8⟩ := id h
    have hP := hJ.1 _ _ _ _ _ _ a7
    rw [f_X10_settles_2, if_neg (show ¬ (nI 1 : Int32) = 0 by decide)]
    obtain ⟨x, e, g⟩ := loses_g (fi := fi) (fl := fl) (qa := qa) (f := f) a3 hd (show 0 < 1024 by decide)
    simp only [ck_83, show (0 : Int32) = nI 0 from rfl, e, Option.bind_some]
    have S := h.w (i := 32 * d + 0 / 32) (x := x) (by omega) g (a4.up (by omega)) (hJ.2.2.1 _ _ _ _ _ _ a1.2.2.1 a2 a6 a4 a7)
    have hμ : muR op lf rt (upB Γ 0 false) pg ≤ muR op lf rt Γ pg := by
      have := wS_dn' (fun p => 3 ^ rkR op lf rt p) Γ 0 1000
      unfold muR wtR
      omega
    obtain ⟨qf, hqf⟩ := FU_2000
    refine set_14 (μ0 := muR op lf rt Γ pg) hJ hd (fun ia fi P op lf rt Γ pg h1 h2 h3 => ?_) (fun ia fi P op lf rt Γ pg h1 h2 => ?_) (pg + 1) FU _ _ _ (Nat.lt_succ_self _) (by omega) S (upB_s _ _ _) hμ
    · -- nothing changed: small models
      obtain ⟨q, rfl⟩ : ∃ k, q = k + 1 := ⟨q - 1, by omega⟩
      obtain ⟨b1, b2, b3, b4, b5, b6, b7, b8⟩ := id h1
      rw [f_X10_settles_2, if_pos (show (nI 0 : Int32) = 0 from rfl)]
      rcases refutes_t (fl := fl) (qa := qa) (f := f) b1 b3 hd b6 b5 with ⟨e1, e2⟩ | ⟨e1, e2, k, k4, e3⟩ | ⟨e1, e2, e3⟩
      · simp only [ck_83, e1, Option.bind_some]
        rw [if_pos trivial]
        exact ⟨1, ia, fi, P, op, lf, rt, Γ, pg, rfl, h1, Or.inl ⟨rfl, plS_no b1.2.2.1 e2⟩⟩
      · simp only [ck_83, e1, Option.bind_some]
        rw [if_neg (by decide), if_pos trivial]
        exact ⟨0, ia, fi, P, op, lf, rt, Γ, pg, rfl, h1, Or.inr (Or.inl ⟨rfl, kpF_np b1.2.2.1 k4 b6 e3⟩)⟩
      · simp only [ck_83, e1, Option.bind_some]
        rw [if_neg (by decide), if_neg (by decide)]
        exact ⟨2, ia, fi, P, op, lf, rt, Γ, pg, rfl, h1, Or.inr (Or.inr ⟨rfl, h2, h3, e2, e3⟩)⟩
    · exact ih q ia fi P op lf rt Γ pg (by omega) (by omega) h1
/-- settles: 1 it is shown, 0 it cannot be, 2 it is settled; the property is kept -/
theorem settles_t (hJ : jOK J) (hd : d < 600) (h : stG b d J ia0 fi0 ia fi P op lf rt Γ pg) : RS b d fl qa f J ia0 fi0 (f_X10_settles (b + 83) (nI d) (wr (SK b) ia fi fl qa f)) := by
  have hP := hJ.1 _ _ _ _ _ _ h.2.2.2.2.2.2.1
  have hb := mu_bd (g := pg) (Γ := Γ) hP.2 h.2.2.2.1 (by have := h.2.2.2.2.2.1; omega)
  have hF := FU_ge
  exact set_2 hJ hd (muR op lf rt Γ pg + 1) FU ia fi P op lf rt Γ pg (Nat.lt_succ_self _) (by omega) h
end SETT2
