section FEW3
variable {b : Nat} {ia fi : Nat → Nat → Int32} {fl : Nat → Nat → Int64} {qa : Nat → Nat → Option Nat} {f : mmF} {S : Nat} {kd lf rt : Nat → Nat}
variable {K : Nat → Nat} {G : Nat → Nat → Nat} {W V : Nat} {Pn : Nat → Nat → Nat}
def fe2 (K : Nat → Nat) (Pn : Nat → Nat → Nat) (W p : Nat) (kd lf rt : Nat → Nat) (U last : Nat) : Prop := U.testBit last = true ∧ ∃ u, u < 16 ∧ sub4 u last ∧ rP K Pn W p kd lf rt false u last last
def fe3 (K : Nat → Nat) (Pn : Nat → Nat → Nat) (W p : Nat) (kd lf rt : Nat → Nat) (U last : Nat) : Prop := U.testBit last = true ∧ ((∃ t, 0 ≤ t ∧ t < last ∧ fkP K Pn W p kd lf rt U last t) ∨ ∃ t, t < last ∧ chP K Pn W p kd lf rt last t)
theorem c_thr_9 {kn : Nat} (hkn : KNf b f kn) (hW : W < 32) (hs : ∀ i, W.testBit i = true → selP K V i) {p : Nat} (hp : p < 5) (hsp : selP K V p) {U : Nat} (hU : U < 65536) : ∀ (m i q : Nat) (ia : Nat → Nat → Int32), i + m = 16 → m < q → TK b ia fi K G V S kd lf rt Pn 5 → rowQ b ia 30 S (Q1 kd lf rt) → ∃ ia1, eO b ia ia1 ∧ ((∃ t, i ≤ t ∧ t < 16 ∧ fe3 K Pn W p kd lf rt U t) ∧ f_X6_refutesWithThree_9 kn q (b + 21) (nI W) (nI p) (nI U) (nI i) (wr (SK b) ia fi fl qa f) = some (1, wr (SK b) ia1 fi fl qa f) ∨ (¬ ∃ t, i ≤ t ∧ t < 16 ∧ fe3 K Pn W p kd lf rt U t) ∧ f_X6_refutesWithThree_9 kn q (b + 21) (nI W) (nI p) (nI U) (nI i) (wr (SK b) ia fi fl qa f) = some (0, wr (SK b) ia1 fi fl qa f)) := by
  obtain ⟨qf, hqf⟩ := FU_1000
  intro m
  induction m with
  | zero =>
    intro i q ia hi hm ht hq
    obtain ⟨q, rfl⟩ : ∃ k, q = k + 1 := ⟨q - 1, by omega⟩
    have : i = 16 := by omega
    subst this
    refine ⟨ia, eO.rf, Or.inr ⟨fun ⟨t, h1, h2, _⟩ => by omega, ?_⟩⟩
    rw [f_X6_refutesWithThree_9, if_pos (show (16 : Int32) ≤ nI 16 by decide)]
  | succ m ih =>
    intro i q ia hi hm ht hq
    obtain ⟨q, rfl⟩ : ∃ k, q = k + 1 := ⟨q - 1, by omega⟩
    have hil : i < 16 := by omega
    have e1 : ¬ (16 : Int32) ≤ nI i := nI_ge (b := 16) hil (by decide)
    have next : ∀ ia1 : Nat → Nat → Int32, eO b ia ia1 → ¬ fe3 K Pn W p kd lf rt U i → ∃ ia2, eO b ia ia2 ∧ ((∃ t, i ≤ t ∧ t < 16 ∧ fe3 K Pn W p kd lf rt U t) ∧ f_X6_refutesWithThree_50 kn (fun a0 a1 a2 a3 a4 a5 => f_X6_refutesWithThree_9 kn q a0 a1 a2 a3 a4 a5) (b + 21) (nI W) (nI p) (nI U) (nI i) (wr (SK b) ia1 fi fl qa f) = some (1, wr (SK b) ia2 fi fl qa f) ∨ (¬ ∃ t, i ≤ t ∧ t < 16 ∧ fe3 K Pn W p kd lf rt U t) ∧ f_X6_refutesWithThree_50 kn (fun a0 a1 a2 a3 a4 a5 => f_X6_refutesWithThree_9 kn q a0 a1 a2 a3 a4 a5) (b + 21) (nI W) (nI p) (nI U) (nI i) (wr (SK b) ia1 fi fl qa f) = some (0, wr (SK b) ia2 fi fl qa f)) := by
      intro ia1 he hn
      obtain ⟨ia2, g1, g2⟩ := ih (i + 1) q ia1 (by omega) (by omega) (ht.eO he) (hq.eO he)
      have hiff : (∃ t, i ≤ t ∧ t < 16 ∧ fe3 K Pn W p kd lf rt U t) ↔ ∃ t, i + 1 ≤ t ∧ t < 16 ∧ fe3 K Pn W p kd lf rt U t := by
        constructor
        · rintro ⟨t, t1, t2, t3⟩
          by_cases e : t = i
          · subst e; exact absurd t3 hn
          · exact ⟨t, by omega, t2, t3⟩
        · rintro ⟨t, t1, t2, t3⟩; exact ⟨t, by omega, t2, t3⟩
      refine ⟨ia2, he.tr g1, ?_⟩
      unfold f_X6_refutesWithThree_50
      rw [hiff, nI_1]
      exact g2
    rw [f_X6_refutesWithThree_9, if_neg e1]
    simp only [has_t (show U < 2 ^ 31 from Nat.lt_trans hU (by decide)) (show i < 32 by omega), Option.bind_some]
    cases hb : U.testBit i with
    | false =>
      simp only [if_neg (show ¬ (false = true) by decide), i00, if_true]
      exact next ia eO.rf (fun h => by rw [h.1] at hb; cases hb)
    | true =>
      obtain ⟨ia1, g1, g2⟩ := c_forked_3 (fl := fl) (qa := qa) hkn hW hs hp hsp hil hU i 0 FU ia (by omega) (by omega) ht hq
      simp only [if_true, i10, if_false, ck_21, Option.bind_some]
      unfold f_X6_refutesForked
      rcases g2 with ⟨a1, a2⟩ | ⟨a1, a2⟩
      · rw [show (0 : Int32) = nI 0 from rfl, a2]
        simp only [Option.bind_some]
        rw [if_neg (show ¬ (1 : Int32) = nI 0 by decide)]
        exact ⟨ia1, g1, Or.inl ⟨⟨i, Nat.le_refl _, hil, hb, Or.inl a1⟩, rfl⟩⟩
      · rw [show (0 : Int32) = nI 0 from rfl, a2]
        simp only [Option.bind_some]
        rw [if_pos (show (0 : Int32) = nI 0 from rfl)]
        obtain ⟨ia2, j1, j2⟩ := c_chain (fl := fl) (qa := qa) hkn hW hs hp hsp hil (ht.eO g1) (hq.eO g1)
        rcases j2 with ⟨b1, b2⟩ | ⟨b1, b2⟩
        · rw [b2]
          simp only [ck_21, Option.bind_some]
          rw [if_neg (show ¬ (1 : Int32) = nI 0 by decide)]
          exact ⟨ia2, g1.tr j1, Or.inl ⟨⟨i, Nat.le_refl _, hil, hb, Or.inr b1⟩, rfl⟩⟩
        · rw [b2]
          simp only [ck_21, Option.bind_some]
          rw [if_pos (show (0 : Int32) = nI 0 from rfl)]
          exact next ia2 (g1.tr j1) (fun h => h.2.elim a1 b1)
theorem c_two_9 {kn : Nat} (hkn : KNf b f kn) (hW : W < 32) (hs : ∀ i, W.testBit i = true → selP K V i) {p : Nat} (hp : p < 5) (hsp : selP K V p) {U : Nat} (hU : U < 65536) : ∀ (m i q : Nat) (ia : Nat → Nat → Int32), i + m = 16 → m < q → TK b ia fi K G V S kd lf rt Pn 5 → rowQ b ia 30 S (Q1 kd lf rt) → (¬ ∃ t, t < i ∧ fe2 K Pn W p kd lf rt U t) → ∃ ia1, eO b ia ia1 ∧ ((∃ t, t < 16 ∧ fe2 K Pn W p kd lf rt U t) ∧ f_X6_refutesWithTwo_9 kn q (b + 21) (nI W) (nI p) (nI U) (nI i) (wr (SK b) ia fi fl qa f) = some (1, wr (SK b) ia1 fi fl qa f) ∨ (¬ ∃ t, t < 16 ∧ fe2 K Pn W p kd lf rt U t) ∧ f_X6_refutesWithTwo_9 kn q (b + 21) (nI W) (nI p) (nI U) (nI i) (wr (SK b) ia fi fl qa f) = some (0, wr (SK b) ia1 fi fl qa f)) := by
  intro m
  induction m with
  | zero =>
    intro i q ia hi hm ht hq hn
    obtain ⟨q, rfl⟩ : ∃ k, q = k + 1 := ⟨q - 1, by omega⟩
    have : i = 16 := by omega
    subst this
    refine ⟨ia, eO.rf, Or.inr ⟨hn, ?_⟩⟩
    rw [f_X6_refutesWithTwo_9, if_pos (show (16 : Int32) ≤ nI 16 by decide)]
  | succ m ih =>
    intro i q ia hi hm ht hq hn
    obtain ⟨q, rfl⟩ : ∃ k, q = k + 1 := ⟨q - 1, by omega⟩
    have hil : i < 16 := by omega
    have e1 : ¬ (16 : Int32) ≤ nI i := nI_ge (b := 16) hil (by decide)
    have ho := ht.2.1
    have hn1 : ¬ fe2 K Pn W p kd lf rt U i → ¬ ∃ t, t < i + 1 ∧ fe2 K Pn W p kd lf rt U t := by
      rintro h ⟨t, t1, t2⟩
      by_cases e : t = i
      · subst e; exact h t2
      · exact hn ⟨t, by omega, t2⟩
    rw [f_X6_refutesWithTwo_9, if_neg e1]
    simp only [has_t (show U < 2 ^ 31 from Nat.lt_trans hU (by decide)) (show i < 32 by omega), Option.bind_some]
    cases hb : U.testBit i with
    | false =>
      simp only [if_neg (show ¬ (false = true) by decide), i00, if_true]
      unfold f_X6_refutesWithTwo_48
      rw [nI_1]
      exact ih (i + 1) q ia (by omega) (by omega) ht hq (hn1 (fun h => by rw [h.1] at hb; cases hb))
    | true =>
      obtain ⟨R1, r1, r2⟩ := c_before (fl := fl) (qa := qa) hkn ht (r := 31) (h := 30) (c := false) (v := i) (w := i) (one := i) (oth := i) (Or.inl rfl) (Or.inl rfl) (by decide) hil hil hq (fun u hu d h6 hd => by rw [tP_s ho u i i hd, tP_t false ho u i i hd]; rfl) hW hs hp hsp
      have he : eO b ia (rw2 ia (b + 31) R1) := eO.rw R1 (Or.inl rfl)
      rw [Nat.and_self] at r2
      simp only [if_true, i10, if_false, R_21_3, R_21_2, ck_21, Option.bind_some]
      rcases r2 with ⟨a1, a2⟩ | ⟨a1, a2⟩
      · simp only [a2, Option.bind_some, i10, if_false]
        exact ⟨_, he, Or.inl ⟨⟨i, hil, hb, a1⟩, rfl⟩⟩
      · simp only [a2, Option.bind_some, i00, if_true]
        unfold f_X6_refutesWithTwo_48
        rw [nI_1]
        obtain ⟨ia2, j1, j2⟩ := ih (i + 1) q _ (by omega) (by omega) (ht.eO he) (hq.eO he) (hn1 (fun h => a1 h.2))
        exact ⟨ia2, he.tr j1, j2⟩
/-- the class's answer to 'plainly' -/
theorem c_plain (hW : W < 32) (hs : ∀ i, W.testBit i = true → selP K V i) {p : Nat} (hp : p < 5) (hsp : selP K V p) (ht : TK b ia fi K G V S kd lf rt Pn 5) (hq : rowQ b ia 30 S (Q1 kd lf rt)) : (∃ u, u < 16 ∧ rP K Pn W p kd lf rt false u u u) ∧ f_X6_entailsPlainly (b + 21) (nI W) (nI p) (wr (SK b) ia fi fl qa f) = some 0 ∨ (¬ ∃ u, u < 16 ∧ rP K Pn W p kd lf rt false u u u) ∧ f_X6_entailsPlainly (b + 21) (nI W) (nI p) (wr (SK b) ia fi fl qa f) = some 1 := by
  obtain ⟨X, x1, x2, x3⟩ := c_ref (fl := fl) (qa := qa) (f := f) ht ht.2.1 (Or.inl rfl) hq hW hs hp hsp
  have h0 : (nI X = 0) = (X = 0) := propext (nI_eq (b := 0) (Nat.lt_trans x1 (by decide)) (by decide))
  unfold f_X6_entailsPlainly
  simp only [R_21_2, ck_21, x2, Option.bind_some, h0]
  by_cases hz : X = 0
  · refine Or.inr ⟨?_, by rw [if_pos hz]⟩
    rintro ⟨u, hu, hr⟩
    have := (w16_0 x1).mp hz u hu
    rw [(x3 u hu).mpr hr] at this
    cases this
  · refine Or.inl ⟨?_, by rw [if_neg hz]⟩
    apply Classical.byContradiction
    intro h
    apply hz
    refine (w16_0 x1).mpr (fun u hu => ?_)
    cases hx : X.testBit u with
    | false => rfl
    | true => exact absurd ⟨u, hu, (x3 u hu).mp hx⟩ h
/-- what may come last -/
def usU (K : Nat → Nat) (G : Nat → Nat → Nat) (W V : Nat) (Pn : Nat → Nat → Nat) (kd lf rt : Nat → Nat) (U : Nat) : Prop := U < 65536 ∧ ∀ u, u < 16 → (U.testBit u = true ↔ sub4 u (ULp K G V 5) ∧ sP K Pn W kd lf rt false u u u)
theorem c_use {kn : Nat} (hkn : KNf b f kn) (hW : W < 32) (hs : ∀ i, W.testBit i = true → selP K V i) (ht : TK b ia fi K G V S kd lf rt Pn 5) (hq : rowQ b ia 30 S (Q1 kd lf rt)) : ∃ U, usU K G W V Pn kd lf rt U ∧ f_X6_usefulLast kn (b + 21) (nI W) (wr (SK b) ia fi fl qa f) = some (nI U) := by
  obtain ⟨X, x1, x2, x3⟩ := c_sup (fl := fl) (qa := qa) (f := f) ht ht.2.1 (r := 30) (Or.inl rfl) hq hW hs
  have hF : ULp K G V 5 &&& 15 < 16 := Nat.lt_of_le_of_lt Nat.and_le_right (by decide)
  obtain ⟨Y, y1, y2, y3⟩ := c_below (ia := ia) (fi := fi) (fl := fl) (qa := qa) (F := ULp K G V 5 &&& 15) hkn (Nat.lt_trans hF (by decide))
  have hU : Y &&& X < 65536 := Nat.lt_of_le_of_lt Nat.and_le_left y1
  have hsub : ∀ u, sub4 u (ULp K G V 5 &&& 15) ↔ sub4 u (ULp K G V 5) := fun u => by
    have e : ∀ k, k < 4 → (ULp K G V 5 &&& 15).testBit k = (ULp K G V 5).testBit k := fun k hk => by
      rw [Nat.testBit_and, show (15 : Nat) = 2 ^ 4 - 1 from rfl, Nat.testBit_two_pow_sub_one, decide_eq_true hk, Bool.and_true]
    exact ⟨fun h k hk hu => (e k hk) ▸ h k hk hu, fun h k hk hu => (e k hk).symm ▸ h k hk hu⟩
  refine ⟨Y &&& X, ⟨hU, fun u hu => ?_⟩, ?_⟩
  · rw [Nat.testBit_and, Bool.and_eq_true, y3 u hu, x3 u hu, hsub]
    exact Iff.rfl
  · have eu : f_X4_usedFacts (b + 22) (wr (SK b) ia fi fl qa f) = some (nI (ULp K G V 5 &&& 15)) := by
      unfold f_X4_usedFacts
      simp only [I_22_5, Option.bind_some, ht.2.2.2.1]
      rw [show (15 : Int32) = nI 15 from rfl, fa_and]
    unfold f_X6_usefulLast
    simp only [R_21_0, ck_22, eu, Option.bind_some, y2, R_21_2, ck_21, x2, fa_and Y X]
theorem c_two {kn : Nat} (hkn : KNf b f kn) (hW : W < 32) (hs : ∀ i, W.testBit i = true → selP K V i) {p : Nat} (hp : p < 5) (hsp : selP K V p) (ht : TK b ia fi K G V S kd lf rt Pn 5) (hq : rowQ b ia 30 S (Q1 kd lf rt)) : ∃ U, usU K G W V Pn kd lf rt U ∧ ∃ ia1, eO b ia ia1 ∧ ((∃ t, t < 16 ∧ fe2 K Pn W p kd lf rt U t) ∧ f_X6_refutesWithTwo kn (b + 21) (nI W) (nI p) (wr (SK b) ia fi fl qa f) = some (1, wr (SK b) ia1 fi fl qa f) ∨ (¬ ∃ t, t < 16 ∧ fe2 K Pn W p kd lf rt U t) ∧ f_X6_refutesWithTwo kn (b + 21) (nI W) (nI p) (wr (SK b) ia fi fl qa f) = some (0, wr (SK b) ia1 fi fl qa f)) := by
  obtain ⟨qf, hqf⟩ := FU_1000
  obtain ⟨U, u1, u2⟩ := c_use (fl := fl) (qa := qa) (f := f) hkn hW hs ht hq
  obtain ⟨ia1, g1, g2⟩ := c_two_9 (fl := fl) (qa := qa) hkn hW hs hp hsp u1.1 16 0 FU ia (by omega) (by omega) ht hq (fun ⟨t, h, _⟩ => absurd h (Nat.not_lt_zero _))
  refine ⟨U, u1, ia1, g1, ?_⟩
  unfold f_X6_refutesWithTwo
  simp only [ck_21, u2, Option.bind_some]
  exact g2
theorem c_three {kn : Nat} (hkn : KNf b f kn) (hW : W < 32) (hs : ∀ i, W.testBit i = true → selP K V i) {p : Nat} (hp : p < 5) (hsp : selP K V p) (ht : TK b ia fi K G V S kd lf rt Pn 5) (hq : rowQ b ia 30 S (Q1 kd lf rt)) : ∃ U, usU K G W V Pn kd lf rt U ∧ ∃ ia1, eO b ia ia1 ∧ ((∃ t, 0 ≤ t ∧ t < 16 ∧ fe3 K Pn W p kd lf rt U t) ∧ f_X6_refutesWithThree kn (b + 21) (nI W) (nI p) (wr (SK b) ia fi fl qa f) = some (1, wr (SK b) ia1 fi fl qa f) ∨ (¬ ∃ t, 0 ≤ t ∧ t < 16 ∧ fe3 K Pn W p kd lf rt U t) ∧ f_X6_refutesWithThree kn (b + 21) (nI W) (nI p) (wr (SK b) ia fi fl qa f) = some (0, wr (SK b) ia1 fi fl qa f)) := by
  obtain ⟨qf, hqf⟩ := FU_1000
  obtain ⟨U, u1, u2⟩ := c_use (fl := fl) (qa := qa) (f := f) hkn hW hs ht hq
  obtain ⟨ia1, g1, g2⟩ := c_thr_9 (fl := fl) (qa := qa) hkn hW hs hp hsp u1.1 16 0 FU ia (by omega) (by omega) ht hq
  refine ⟨U, u1, ia1, g1, ?_⟩
  unfold f_X6_refutesWithThree
  simp only [ck_21, u2, Option.bind_some]
  exact g2
end FEW3
