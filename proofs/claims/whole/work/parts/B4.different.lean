/-! claim 3: the reference's different, the class's different -/
noncomputable def difN (g : Nat → Nat) : Nat → Nat
  | 0 => 0
  | c + 1 => difN g c + @ite Nat (∃ e, e < c ∧ sR g c e) (Classical.propDecidable _) 0 1
theorem cnD_dif {g Pn kd lf rt : Nat → Nat} {S k : Nat} (ho : okp g k) (hp : PTo S kd lf rt) (hn : NP g S kd lf rt Pn k) : ∀ c, c ≤ k → cnD Pn c = difN g c := by
  intro c
  induction c with
  | zero => intro _; rfl
  | succ c ih =>
    intro hc
    rw [cnD, difN, ih (by omega)]
    congr 1
    by_cases h : ∃ e, e < c ∧ sR g c e
    · rw [if_pos h]
      obtain ⟨e, h1, h2⟩ := h
      rw [if_pos ((mN_bit Pn (Pn c) c).mpr ⟨e, h1, ((sR_pn ho hp hn c (by omega) e (by omega)).mp h2).symm⟩)]
    · rw [if_neg h, if_neg (fun hb => h (by
        obtain ⟨e, h1, h2⟩ := (mN_bit Pn (Pn c) c).mp hb
        exact ⟨e, h1, (sR_pn ho hp hn c (by omega) e (by omega)).mpr h2.symm⟩))]
theorem difN_le (g : Nat → Nat) : ∀ c, difN g c ≤ c := by
  intro c
  induction c with
  | zero => exact Nat.le_refl _
  | succ c ih =>
    rw [difN]
    by_cases h : ∃ e, e < c ∧ sR g c e
    · rw [if_pos h]; omega
    · rw [if_neg h]; omega
section DIFF
variable {b : Nat} {ia fi : Nat → Nat → Int32} {fl : Nat → Nat → Int64} {qa : Nat → Nat → Option Nat} {f : mmF} {Ω : mO}
theorem m_finds_10 {base k : Nat} {g : Nat → Nat} (hb : base + k < 172) (hrow : ia (b + 84) base = nI k) (hg : ∀ j, j < k → ia (b + 84) (base + (1 + j)) = nI (g j)) (ho : okp g k) (k30 : k ≤ 30) : ∀ (m i q : Nat) (R : Nat → Int32), i + m = k → m < q → (∀ j, j < i → R (j + 1) = nI (j + 2 - zN g j)) → ∃ R1 : Nat → Int32, f_X10_finds_10 q (b + 83) (nI base) (nI (1 + i)) (wr (SK b) (rw2 ia (b + 101) R) fi fl qa f) = some (wr (SK b) (rw2 ia (b + 101) R1) fi fl qa f) ∧ ∀ j, j < k → R1 (j + 1) = nI (j + 2 - zN g j) := by
  have e90 : b + 84 ≠ b + 101 := by omega
  intro m
  induction m with
  | zero =>
    intro i q R hi hm hR
    obtain ⟨q, rfl⟩ : ∃ k, q = k + 1 := ⟨q - 1, by omega⟩
    have hik : i = k := by omega
    subst hik
    refine ⟨R, ?_, hR⟩
    rw [f_X10_finds_10]
    simp only [R_83_0, An_84 (show base < 172 by omega), Option.bind_some, rw2_n _ _ e90, hrow, if_pos (show nI i < nI (1 + i) from nI_lt (by omega) (by omega))]
  | succ m ih =>
    intro i q R hi hm hR
    obtain ⟨q, rfl⟩ : ∃ k, q = k + 1 := ⟨q - 1, by omega⟩
    have hik : i < k := by omega
    obtain ⟨g10, g6, g7⟩ := ho i hik
    have hlt : ¬ nI k < nI (1 + i) := nI_nlt (by omega) (by omega)
    have hat : nI base + nI (1 + i) = nI (base + (1 + i)) := nI_add _ _
    have hz := zN_le ho i hik
    have next : ∀ x : Int32, x = nI (i + 2 - zN g i) → ∃ R1 : Nat → Int32, f_X10_finds_79 (fun a0 a1 a2 a3 => f_X10_finds_10 q a0 a1 a2 a3) (b + 83) (nI base) (nI (1 + i)) (b + 101) (nI (1 + i)) x (wr (SK b) (rw2 ia (b + 101) R) fi fl qa f) = some (wr (SK b) (rw2 ia (b + 101) R1) fi fl qa f) ∧ ∀ j, j < k → R1 (j + 1) = nI (j + 2 - zN g j) := by
      intro x hx
      obtain ⟨R1, hR1, hR2⟩ := ih (i + 1) q (fun j => if j = 1 + i then x else R j) (by omega) (by omega) (fun j hj => by
        by_cases hji : j + 1 = 1 + i
        · have : j = i := by omega
          subst this
          exact (if_pos hji).trans hx
        · exact (if_neg hji).trans (hR j (by omega)))
      refine ⟨R1, ?_, hR2⟩
      unfold f_X10_finds_79
      simp only [sAn_101 (show 1 + i < 31 by omega), Option.bind_some, u2_rw2, nI_1]
      exact hR1
    rw [f_X10_finds_10]
    simp only [R_83_0, An_84 (show base < 172 by omega), Option.bind_some, rw2_n _ _ e90, hrow, if_neg hlt, hat, An_84 (show base + (1 + i) < 172 by omega), hg i hik, R_83_24]
    by_cases c6 : g i < 6
    · rw [if_neg (show ¬ (6 : Int32) ≤ nI (g i) from nI_ge (b := 6) c6 (by decide))]
      exact next _ (by rw [zN_lf c6]; congr 1; omega)
    · rw [if_pos (show (6 : Int32) ≤ nI (g i) from nI_le (a := 6) (by omega) (by omega))]
      have r1 := rc_at ho hik (by omega)
      have zr := zN_le ho (rc g i) (by omega)
      have zp := zN_pos ho (show rc g i < k by omega)
      have hRr : R i = nI (rc g i + 2 - zN g (rc g i)) := by
        have := hR (rc g i) (by omega)
        rw [r1] at this
        exact this
      have e1 : nI (1 + i) - 1 = nI i := by rw [nsub1 (by omega)]; congr 1; omega
      by_cases c7 : g i = 6
      · rw [c7, if_pos (show nI 6 = (6 : Int32) from rfl)]
        simp only [e1, An_101 (show i < 31 by omega), rw2_s, Option.bind_some, hRr]
        exact next _ (by rw [zN_un ho hik c7]; congr 1; omega)
      · have e7 : ¬ nI (g i) = (6 : Int32) := fun e => c7 ((nI_eq (b := 6) (by omega) (by decide)).mp e)
        have l1 := lc_at ho hik (by omega)
        have zl := zN_le ho (lc g i) (by omega)
        rw [if_neg e7]
        have e2 : nI (rc g i + 2 - zN g (rc g i)) - 1 = nI (lc g i + 1) := by rw [nsub1 (by omega)]; congr 1; omega
        simp only [e1, An_101 (show i < 31 by omega), rw2_s, Option.bind_some, hRr, e2, An_101 (show lc g i + 1 < 31 by omega), hR (lc g i) (by omega)]
        exact next _ (by rw [zN_bn ho hik (by omega)]; congr 1; omega)
end DIFF
