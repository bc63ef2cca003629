/-! claim 3: areSame, and the count -/
section DIFF2
variable {b : Nat} {ia fi : Nat → Nat → Int32} {fl : Nat → Nat → Int64} {qa : Nat → Nat → Option Nat} {f : mmF} {Ω : mO}
/-- rows read from their beginning -/
theorem sR_fw {g : Nat → Nat} {k i j : Nat} (ho : okp g k) (hi : i < k) (hj : j < k) (hz : zN g i = zN g j) : sR g i j ↔ ∀ e, e < zN g i → g (i + 1 - zN g i + e) = g (j + 1 - zN g i + e) := by
  have zi := zN_le ho i hi
  have zj := zN_le ho j hj
  constructor
  · intro ⟨_, h⟩ e he
    have := h (zN g i - 1 - e) (by omega)
    rw [show i - (zN g i - 1 - e) = i + 1 - zN g i + e by omega, show j - (zN g i - 1 - e) = j + 1 - zN g i + e by omega] at this
    exact this
  · intro h
    refine ⟨hz, fun d hd => ?_⟩
    have := h (zN g i - 1 - d) (by omega)
    rw [show i + 1 - zN g i + (zN g i - 1 - d) = i - d by omega, show j + 1 - zN g i + (zN g i - 1 - d) = j - d by omega] at this
    exact this
theorem n10d : ¬ (1 : Int32) = 0 := by decide
def isI (v : Int32) (p : Prop) : Prop := v = 1 ∧ p ∨ v = 0 ∧ ¬ p
theorem m_areSame {base k : Nat} {g : Nat → Nat} (hb : base + k < 172) (hg : ∀ j, j < k → ia (b + 84) (base + (1 + j)) = nI (g j)) (hg10 : ∀ j, j < k → g j < 10) (ho : okp g k) (k30 : k ≤ 30) (hR : ∀ j, j < k → ia (b + 101) (j + 1) = nI (j + 2 - zN g j)) {i j : Nat} (hi : i < k) (hj : j < k) : ∃ v : Int32, f_X10_areSame (b + 83) (nI base) (nI (i + 1)) (nI (j + 1)) (wr (SK b) ia fi fl qa f) = some v ∧ isI v (sR g i j) := by
  obtain ⟨qf, hqf⟩ := FU_1000
  have zi := zN_le ho i hi
  have zj := zN_le ho j hj
  have pi' := zN_pos ho hi
  have pj := zN_pos ho hj
  have ei : nI (i + 1) - nI (i + 2 - zN g i) = nI (zN g i - 1) := by rw [pk_sub (by omega)]; congr 1; omega
  have ej : nI (j + 1) - nI (j + 2 - zN g j) = nI (zN g j - 1) := by rw [pk_sub (by omega)]; congr 1; omega
  have q1 : (nI (zN g i - 1) = nI (zN g j - 1)) = (zN g i - 1 = zN g j - 1) := propext (nI_eq (by omega) (by omega))
  have stop : ∀ (q : Nat) (d : Int32), f_X10_areSame_29 (wr (SK b) ia fi fl qa f) (q + 1) (b + 83) (nI base) (nI (i + 1)) (nI (j + 1)) 0 d = some 0 := by
    intro q d
    rw [f_X10_areSame_29]
    simp only [R_83_24, An_101 (show i + 1 < 31 by omega), hR i hi, Option.bind_some, if_true, rz_0, ite_self]
  unfold f_X10_areSame f_X10_areSame_24
  simp only [R_83_24, An_101 (show i + 1 < 31 by omega), An_101 (show j + 1 < 31 by omega), hR i hi, hR j hj, Option.bind_some, ei, ej, q1]
  by_cases hz : zN g i = zN g j
  · rw [if_pos (by omega)]
    have lp : ∀ (m d q : Nat), d + m = zN g i → m < q → (∀ e, e < d → g (i + 1 - zN g i + e) = g (j + 1 - zN g i + e)) → ∃ v : Int32, f_X10_areSame_29 (wr (SK b) ia fi fl qa f) q (b + 83) (nI base) (nI (i + 1)) (nI (j + 1)) 1 (nI d) = some v ∧ isI v (sR g i j) := by
      intro m
      induction m with
      | zero =>
        intro d q hd hq he
        obtain ⟨q, rfl⟩ : ∃ k, q = k + 1 := ⟨q - 1, by omega⟩
        refine ⟨1, ?_, Or.inl ⟨rfl, (sR_fw ho hi hj hz).mpr (fun e h => he e (by omega))⟩⟩
        rw [f_X10_areSame_29]
        simp only [R_83_24, An_101 (show i + 1 < 31 by omega), hR i hi, Option.bind_some, ei, if_pos (show nI (zN g i - 1) < nI d from nI_lt (by omega) (by omega)), rz_1]
      | succ m ih =>
        intro d q hd hq he
        obtain ⟨q, rfl⟩ : ∃ k, q = k + 1 := ⟨q - 1, by omega⟩
        have a1 : nI base + nI (i + 2 - zN g i) + nI d = nI (base + (1 + (i + 1 - zN g i + d))) := by rw [nI_add, nI_add]; congr 1; omega
        have a2 : nI base + nI (j + 2 - zN g j) + nI d = nI (base + (1 + (j + 1 - zN g i + d))) := by rw [nI_add, nI_add]; congr 1; omega
        have g1 := hg10 (i + 1 - zN g i + d) (by omega)
        have g2 := hg10 (j + 1 - zN g i + d) (by omega)
        have q2 : (nI (g (i + 1 - zN g i + d)) = nI (g (j + 1 - zN g i + d))) = (g (i + 1 - zN g i + d) = g (j + 1 - zN g i + d)) := propext (nI_eq (by omega) (by omega))
        rw [f_X10_areSame_29]
        simp only [R_83_24, R_83_0, An_101 (show i + 1 < 31 by omega), An_101 (show j + 1 < 31 by omega), hR i hi, hR j hj, Option.bind_some, ei, if_neg (show ¬ nI (zN g i - 1) < nI d from nI_nlt (by omega) (by omega)), i10, if_false, a1, a2, An_84 (show base + (1 + (i + 1 - zN g i + d)) < 172 by omega), An_84 (show base + (1 + (j + 1 - zN g i + d)) < 172 by omega), hg _ (show i + 1 - zN g i + d < k by omega), hg _ (show j + 1 - zN g i + d < k by omega), q2]
        unfold f_X10_areSame_87
        rw [nI_1]
        by_cases hs : g (i + 1 - zN g i + d) = g (j + 1 - zN g i + d)
        · rw [if_pos hs]
          exact ih (d + 1) q (by omega) (by omega) (fun e h => by
            by_cases hed : e = d
            · subst hed; exact hs
            · exact he e (by omega))
        · rw [if_neg hs]
          obtain ⟨q, rfl⟩ : ∃ k, q = k + 1 := ⟨q - 1, by omega⟩
          exact ⟨0, stop q _, Or.inr ⟨rfl, fun h => hs ((sR_fw ho hi hj hz).mp h d (by omega))⟩⟩
    exact lp (zN g i) 0 FU (by omega) (by omega) (fun e h => absurd h (Nat.not_lt_zero _))
  · rw [if_neg (by omega)]
    obtain ⟨q, hq⟩ : ∃ q, FU = q + 1 := ⟨FU - 1, by omega⟩
    rw [hq]
    exact ⟨0, stop q _, Or.inr ⟨rfl, fun h => hz h.1⟩⟩
theorem m_dif_35 {base k : Nat} {g : Nat → Nat} (hb : base + k < 172) (hg : ∀ j, j < k → ia (b + 84) (base + (1 + j)) = nI (g j)) (hg10 : ∀ j, j < k → g j < 10) (ho : okp g k) (k30 : k ≤ 30) (hR : ∀ j, j < k → ia (b + 101) (j + 1) = nI (j + 2 - zN g j)) {c : Nat} (hc : c < k) (k18 : Nat → Int32 → Int32 → Int32 → mmF → Option (Int32 × mmF)) : ∀ (m e q : Nat), e + m = c → m + 1 < q → (∀ e', e' < e → ¬ sR g c e') → f_X10_different_35 k18 q (b + 83) (nI base) (nI (difN g c)) (nI (c + 1)) 1 (nI (e + 1)) (wr (SK b) ia fi fl qa f) = k18 (b + 83) (nI base) (nI (difN g (c + 1))) (nI (c + 1 + 1)) (wr (SK b) ia fi fl qa f) := by
  intro m
  induction m with
  | zero =>
    intro e q he hq hn
    obtain ⟨q, rfl⟩ : ∃ k, q = k + 1 := ⟨q - 1, by omega⟩
    have hec : e = c := by omega
    subst hec
    rw [f_X10_different_35, if_pos (Int32.le_refl _)]
    unfold f_X10_different_72 f_X10_different_83
    rw [if_neg n10d, nI_1, nI_1, difN, if_neg (fun ⟨e', h1, h2⟩ => hn e' h1 h2)]
  | succ m ih =>
    intro e q he hq hn
    obtain ⟨q, rfl⟩ : ∃ k, q = k + 1 := ⟨q - 1, by omega⟩
    obtain ⟨v, hv, hs⟩ := m_areSame (fi := fi) (fl := fl) (qa := qa) (f := f) hb hg hg10 ho k30 hR hc (show e < k by omega)
    rw [f_X10_different_35, if_neg (show ¬ nI (c + 1) ≤ nI (e + 1) from nI_ge (by omega) (by omega)), if_neg n10d]
    simp only [ck_83, hv, Option.bind_some]
    unfold f_X10_different_64
    rcases hs with ⟨rfl, hs⟩ | ⟨rfl, hs⟩
    · rw [if_neg n10d]
      obtain ⟨q, rfl⟩ : ∃ k, q = k + 1 := ⟨q - 1, by omega⟩
      show f_X10_different_35 k18 (q + 1) (b + 83) (nI base) (nI (difN g c)) (nI (c + 1)) 0 (nI (e + 1) + 1) (wr (SK b) ia fi fl qa f) = _
      rw [f_X10_different_35, if_pos (show (0 : Int32) = 0 from rfl), ite_self]
      unfold f_X10_different_72 f_X10_different_83
      rw [if_pos (show (0 : Int32) = 0 from rfl), nI_1, difN, if_pos ⟨e, by omega, hs⟩, show (0 : Int32) = nI 0 from rfl, nI_add]
    · rw [if_pos (show (0 : Int32) = 0 from rfl), nI_1]
      exact ih (e + 1) q (by omega) (by omega) (fun e' h => by
        by_cases hee : e' = e
        · subst hee; exact hs
        · exact hn e' (by omega))
theorem m_dif_18 {base k : Nat} {g : Nat → Nat} (hb : base + k < 172) (hrow : ia (b + 84) base = nI k) (hg : ∀ j, j < k → ia (b + 84) (base + (1 + j)) = nI (g j)) (hg10 : ∀ j, j < k → g j < 10) (ho : okp g k) (k30 : k ≤ 30) (hR : ∀ j, j < k → ia (b + 101) (j + 1) = nI (j + 2 - zN g j)) : ∀ (m c q : Nat), c + m = k → m < q → f_X10_different_18 q (b + 83) (nI base) (nI (difN g c)) (nI (c + 1)) (wr (SK b) ia fi fl qa f) = some (nI (difN g k), wr (SK b) ia fi fl qa f) := by
  obtain ⟨qf, hqf⟩ := FU_1000
  intro m
  induction m with
  | zero =>
    intro c q hc hq
    obtain ⟨q, rfl⟩ : ∃ k, q = k + 1 := ⟨q - 1, by omega⟩
    have hck : c = k := by omega
    subst hck
    rw [f_X10_different_18]
    simp only [R_83_0, An_84 (show base < 172 by omega), Option.bind_some, hrow, if_pos (show nI c < nI (c + 1) from nI_lt (by omega) (by omega))]
  | succ m ih =>
    intro c q hc hq
    obtain ⟨q, rfl⟩ : ∃ k, q = k + 1 := ⟨q - 1, by omega⟩
    rw [f_X10_different_18]
    simp only [R_83_0, An_84 (show base < 172 by omega), Option.bind_some, hrow, if_neg (show ¬ nI k < nI (c + 1) from nI_nlt (by omega) (by omega))]
    rw [show (f_X10_different_35 (fun a0 a1 a2 a3 a4 => f_X10_different_18 q a0 a1 a2 a3 a4) FU (b + 83) (nI base) (nI (difN g c)) (nI (c + 1)) 1 1 (wr (SK b) ia fi fl qa f)) = _ from m_dif_35 (fi := fi) (fl := fl) (qa := qa) (f := f) hb hg hg10 ho k30 hR (show c < k by omega) (fun a0 a1 a2 a3 a4 => f_X10_different_18 q a0 a1 a2 a3 a4) c 0 FU (by omega) (by omega) (fun e' h => absurd h (Nat.not_lt_zero _))]
    exact ih (c + 1) q (by omega) (by omega)
theorem M_different (h : MR b ia fi Ω) (w : WO Ω) {p : Nat} (hp : p < 5) (h0 : 0 < Ω.1.2.2.2.1 p) : ∃ (ia1 : Nat → Nat → Int32), f_X10_different (b + 83) (nI p) (wr (SK b) ia fi fl qa f) = some (nI (difN (Ω.1.2.2.2.2 p) (Ω.1.2.2.2.1 p)), wr (SK b) ia1 fi fl qa f) ∧ MR b ia1 fi Ω ∧ lowE b ia fi ia1 fi := by
  obtain ⟨q, hq⟩ := FU_1000
  have hv := w.1.2 p hp h0
  have k30 := hv.2.1
  have hbk : 17 + 31 * p + Ω.1.2.2.2.1 p < 172 := by omega
  obtain ⟨R1, hR, hR2⟩ := m_finds_10 (fi := fi) (fl := fl) (qa := qa) (f := f) hbk (h.1.2 p hp).1 (h.1.2 p hp).2 hv.ok k30 (Ω.1.2.2.2.1 p) 0 FU (ia (b + 101)) (by omega) (by omega) (fun d hd => absurd hd (Nat.not_lt_zero _))
  rw [rw2_id] at hR
  have hS := h.scr (ia1 := rw2 ia (b + 101) R1) (fi1 := fi) (fun a ha => rw2_n _ _ (by omega)) (fun a j ha => rfl)
  refine ⟨_, ?_, hS.1, hS.2⟩
  have e90 : b + 84 ≠ b + 101 := by omega
  have hR' : f_X10_finds_10 FU (b + 83) (nI (17 + 31 * p)) 1 (wr (SK b) ia fi fl qa f) = some (wr (SK b) (rw2 ia (b + 101) R1) fi fl qa f) := hR
  unfold f_X10_different f_X10_finds
  simp only [ck_83, at17, Option.bind_some, hR']
  exact m_dif_18 (ia := rw2 ia (b + 101) R1) hbk (by rw [rw2_n _ _ e90]; exact (h.1.2 p hp).1) (fun j hj => by rw [rw2_n _ _ e90]; exact (h.1.2 p hp).2 j hj) (fun j hj => (hv.2.2.1 j hj).1) hv.ok k30 (fun j hj => by rw [rw2_s]; exact hR2 j hj) (Ω.1.2.2.2.1 p) 0 FU (by omega) (by omega)
theorem C_different {S p : Nat} {kd lf rt : Nat → Nat} {Pn : Nat → Nat → Nat} (w : WO Ω) (h0 : 0 < Ω.1.2.2.2.1 p) (hp : p < 5) (ht : TK b ia fi Ω.1.2.2.2.1 Ω.1.2.2.2.2 (2 ^ p) S kd lf rt Pn 5) : f_X4_different (b + 22) (wr (SK b) ia fi fl qa f) = some (nI (difN (Ω.1.2.2.2.2 p) (Ω.1.2.2.2.1 p))) := by
  have hv := w.1.2 p hp h0
  have hsel : ∀ p', selP Ω.1.2.2.2.1 (2 ^ p) p' → p' = p := fun p' hs => by
    have := hs.2
    rw [Nat.testBit_two_pow] at this
    exact (of_decide_eq_true this).symm
  obtain ⟨t1, t2, t3, t4, t5⟩ := ht
  rcases t5 p hp with ⟨_, hn, _⟩ | ⟨hn, _⟩
  · have hsj : ∀ r, 6 ≤ r → r < S → ∃ j, j < Ω.1.2.2.2.1 p ∧ Pn p j = r := fun r h1 h2 => by
      obtain ⟨p', j, a1, a2, a3, a4⟩ := t3.2 r h1 h2
      have := hsel p' a2
      subst this
      exact ⟨j, a3, a4⟩
    have hall := cnD_all t2.1 hn hsj (fun j hj => (hv.2.2.1 j hj).1)
    rw [cnD_dif hv.ok t2 hn _ (Nat.le_refl _)] at hall
    have hul := uLf_lt (Ω.1.2.2.2.2 p) (Ω.1.2.2.2.1 p)
    unfold f_X4_different
    simp only [I_22_0, I_22_5, Option.bind_some, t1.1, t4]
    rw [ULp_1 _ _ h0, if_pos hp, jb_eq (Nat.lt_trans hul (by decide)), show nI S - (6 : Int32) = nI (S - 6) from pk_sub (a := S) (b := 6) t2.1]
    simp only [Option.bind_some]
    rw [nI_add, hall]
  · exact absurd ⟨h0, by rw [Nat.testBit_two_pow]; exact decide_eq_true rfl⟩ hn
end DIFF2
