section FEW2
variable {b : Nat} {ia fi : Nat → Nat → Int32} {fl : Nat → Nat → Int64} {qa : Nat → Nat → Option Nat} {f : mmF} {S : Nat} {kd lf rt : Nat → Nat}
variable {K : Nat → Nat} {G : Nat → Nat → Nat} {W V : Nat} {Pn : Nat → Nat → Nat}
theorem tP_s (ho : PTo S kd lf rt) (u v w : Nat) {d : Nat} (hd : d < S) : (tP false u v w kd lf rt d).2.1 = (tP false v v v kd lf rt d).1 :=
  (tP_rel (k3S false) (fun k _ => ⟨(b3Lf_e1 u v w k).2.1, b3Lf_e v k⟩) ho d hd).1
theorem tP_t (c : Bool) (ho : PTo S kd lf rt) (u v w : Nat) {d : Nat} (hd : d < S) : (tP c u v w kd lf rt d).2.2 = (tP false w w w kd lf rt d).1 :=
  (tP_rel (k3T c false) (fun k _ => ⟨(b3Lf_e1 u v w k).2.2, b3Lf_e w k⟩) ho d hd).1
theorem tP_c (ho : PTo S kd lf rt) (u v w : Nat) {d : Nat} (hd : d < S) : (tP true u v w kd lf rt d).2.1 = (tP false v w w kd lf rt d).1 :=
  (tP_rel (k3C false) (fun k _ => ⟨(b3Lf_e1 u v w k).2.1.trans (b3Lf_e1 v w w k).1.symm, (b3Lf_e1 u v w k).2.2.trans (b3Lf_e1 v w w k).2.1.symm, (b3Lf_e1 v w w k).2.2.trans (b3Lf_e1 v w w k).2.1.symm⟩) ho d hd).1
theorem b3Lf_p {u v w : Nat} (h1 : sub4 u v) (h2 : sub4 u w) (k : Nat) : r3P (b3Lf u v w k) (b3Lf u v w k) := by
  unfold b3Lf r3P
  by_cases h : k < 4
  · simp only [if_pos h]; exact ⟨h1 k h, h2 k h⟩
  · by_cases h4 : k = 4
    · simp only [if_neg h, if_pos h4]; exact ⟨id, id⟩
    · simp only [if_neg h, if_neg h4]; exact ⟨id, id⟩
theorem tP_p (c : Bool) (ho : PTo S kd lf rt) {u v w : Nat} (h1 : sub4 u v) (h2 : sub4 u w) {d : Nat} (hd : d < S) : ((tP c u v w kd lf rt d).1 = true → (tP c u v w kd lf rt d).2.1 = true) ∧ ((tP c u v w kd lf rt d).1 = true → (tP c u v w kd lf rt d).2.2 = true) :=
  tP_rel (k3P c c) (fun k _ => b3Lf_p h1 h2 k) ho d hd
/-- what a fork, or a chain, can show -/
def fkP (K : Nat → Nat) (Pn : Nat → Nat → Nat) (W p : Nat) (kd lf rt : Nat → Nat) (U last first : Nat) : Prop := U.testBit first = true ∧ ∃ u, u < 16 ∧ sub4 u (first &&& last) ∧ rP K Pn W p kd lf rt false u first last
def chP (K : Nat → Nat) (Pn : Nat → Nat → Nat) (W p : Nat) (kd lf rt : Nat → Nat) (last mid : Nat) : Prop := (sub4 mid last ∧ sP K Pn W kd lf rt false mid last last) ∧ ∃ u, u < 16 ∧ sub4 u mid ∧ rP K Pn W p kd lf rt true u mid last
def Q1 (kd lf rt : Nat → Nat) : Nat → Nat → Bool := fun u d => (tP false u u u kd lf rt d).1
theorem c_forked_3 {kn : Nat} (hkn : KNf b f kn) (hW : W < 32) (hs : ∀ i, W.testBit i = true → selP K V i) {p : Nat} (hp : p < 5) (hsp : selP K V p) {last U : Nat} (hl : last < 16) (hU : U < 65536) : ∀ (m i q : Nat) (ia : Nat → Nat → Int32), i + m = last → m < q → TK b ia fi K G V S kd lf rt Pn 5 → rowQ b ia 30 S (Q1 kd lf rt) → ∃ ia1, eO b ia ia1 ∧ ((∃ t, i ≤ t ∧ t < last ∧ fkP K Pn W p kd lf rt U last t) ∧ f_X6_refutesForked_3 kn q (b + 21) (nI last) (nI U) (nI W) (nI p) (nI i) (wr (SK b) ia fi fl qa f) = some (1, wr (SK b) ia1 fi fl qa f) ∨ (¬ ∃ t, i ≤ t ∧ t < last ∧ fkP K Pn W p kd lf rt U last t) ∧ f_X6_refutesForked_3 kn q (b + 21) (nI last) (nI U) (nI W) (nI p) (nI i) (wr (SK b) ia fi fl qa f) = some (0, wr (SK b) ia1 fi fl qa f)) := by
  intro m
  induction m with
  | zero =>
    intro i q ia hi hm ht hq
    obtain ⟨q, rfl⟩ : ∃ k, q = k + 1 := ⟨q - 1, by omega⟩
    have : i = last := by omega
    subst this
    refine ⟨ia, eO.rf, Or.inr ⟨fun ⟨t, h1, h2, _⟩ => by omega, ?_⟩⟩
    rw [f_X6_refutesForked_3, if_pos (Int32.le_refl _)]
  | succ m ih =>
    intro i q ia hi hm ht hq
    obtain ⟨q, rfl⟩ : ∃ k, q = k + 1 := ⟨q - 1, by omega⟩
    have hil : i < last := by omega
    have e1 : ¬ nI last ≤ nI i := nI_ge (by omega) (by omega)
    have ho := ht.2.1
    have next : ∀ ia1, eO b ia ia1 → ¬ fkP K Pn W p kd lf rt U last i → ∃ ia2, eO b ia ia2 ∧ ((∃ t, i ≤ t ∧ t < last ∧ fkP K Pn W p kd lf rt U last t) ∧ f_X6_refutesForked_41 kn (fun a0 a1 a2 a3 a4 a5 a6 => f_X6_refutesForked_3 kn q a0 a1 a2 a3 a4 a5 a6) (b + 21) (nI last) (nI U) (nI W) (nI p) (nI i) (wr (SK b) ia1 fi fl qa f) = some (1, wr (SK b) ia2 fi fl qa f) ∨ (¬ ∃ t, i ≤ t ∧ t < last ∧ fkP K Pn W p kd lf rt U last t) ∧ f_X6_refutesForked_41 kn (fun a0 a1 a2 a3 a4 a5 a6 => f_X6_refutesForked_3 kn q a0 a1 a2 a3 a4 a5 a6) (b + 21) (nI last) (nI U) (nI W) (nI p) (nI i) (wr (SK b) ia1 fi fl qa f) = some (0, wr (SK b) ia2 fi fl qa f)) := by
      intro ia1 he hn
      obtain ⟨ia2, g1, g2⟩ := ih (i + 1) q ia1 (by omega) (by omega) (ht.eO he) (hq.eO he)
      have hiff : (∃ t, i ≤ t ∧ t < last ∧ fkP K Pn W p kd lf rt U last t) ↔ ∃ t, i + 1 ≤ t ∧ t < last ∧ fkP K Pn W p kd lf rt U last t := by
        constructor
        · rintro ⟨t, t1, t2, t3⟩
          by_cases e : t = i
          · subst e; exact absurd t3 hn
          · exact ⟨t, by omega, t2, t3⟩
        · rintro ⟨t, t1, t2, t3⟩; exact ⟨t, by omega, t2, t3⟩
      refine ⟨ia2, he.tr g1, ?_⟩
      unfold f_X6_refutesForked_41
      rw [hiff, nI_1]
      exact g2
    rw [f_X6_refutesForked_3, if_neg e1]
    simp only [has_t (show U < 2 ^ 31 from Nat.lt_trans hU (by decide)) (show i < 32 by omega), Option.bind_some]
    cases hb : U.testBit i with
    | false =>
      simp only [if_neg (show ¬ (false = true) by decide), i00, if_true]
      exact next ia eO.rf (fun h => by rw [h.1] at hb; cases hb)
    | true =>
      obtain ⟨R1, r1, r2⟩ := c_before (fl := fl) (qa := qa) hkn ht (r := 32) (h := 30) (c := false) (v := i) (w := last) (one := i) (oth := last) (Or.inr rfl) (Or.inl rfl) (by decide) (by omega) hl hq (fun u hu d h6 hd => by rw [tP_s ho u i last hd, tP_t false ho u i last hd]; rfl) hW hs hp hsp
      have he : eO b ia (rw2 ia (b + 32) R1) := eO.rw R1 (Or.inr rfl)
      simp only [if_true, i10, if_false, R_21_4, R_21_2, ck_21, Option.bind_some]
      rcases r2 with ⟨a1, a2⟩ | ⟨a1, a2⟩
      · simp only [a2, Option.bind_some, i10, if_false]
        exact ⟨_, he, Or.inl ⟨⟨i, Nat.le_refl _, hil, hb, a1⟩, rfl⟩⟩
      · simp only [a2, Option.bind_some, i00, if_true]
        exact next _ he (fun h => a1 h.2)
theorem c_chain_33 {kn : Nat} (hkn : KNf b f kn) (hW : W < 32) (hs : ∀ i, W.testBit i = true → selP K V i) {p : Nat} (hp : p < 5) (hsp : selP K V p) {last U : Nat} (hl : last < 16) (hU : U < 65536) (hUb : ∀ t, t < 16 → (U.testBit t = true ↔ sub4 t last ∧ sP K Pn W kd lf rt false t last last)) : ∀ (m i q : Nat) (ia : Nat → Nat → Int32), i + m = last → m < q → TK b ia fi K G V S kd lf rt Pn 5 → rowQ b ia 31 S (fun u d => (tP false u last last kd lf rt d).1) → ∃ ia1, eO b ia ia1 ∧ ((∃ t, i ≤ t ∧ t < last ∧ chP K Pn W p kd lf rt last t) ∧ f_X6_refutesInChain_33 kn q (b + 21) (nI last) (nI W) (nI p) (nI U) (nI i) (wr (SK b) ia fi fl qa f) = some (1, wr (SK b) ia1 fi fl qa f) ∨ (¬ ∃ t, i ≤ t ∧ t < last ∧ chP K Pn W p kd lf rt last t) ∧ f_X6_refutesInChain_33 kn q (b + 21) (nI last) (nI W) (nI p) (nI U) (nI i) (wr (SK b) ia fi fl qa f) = some (0, wr (SK b) ia1 fi fl qa f)) := by
  intro m
  induction m with
  | zero =>
    intro i q ia hi hm ht hq
    obtain ⟨q, rfl⟩ : ∃ k, q = k + 1 := ⟨q - 1, by omega⟩
    have : i = last := by omega
    subst this
    refine ⟨ia, eO.rf, Or.inr ⟨fun ⟨t, h1, h2, _⟩ => by omega, ?_⟩⟩
    rw [f_X6_refutesInChain_33, if_pos (Int32.le_refl _)]
  | succ m ih =>
    intro i q ia hi hm ht hq
    obtain ⟨q, rfl⟩ : ∃ k, q = k + 1 := ⟨q - 1, by omega⟩
    have hil : i < last := by omega
    have e1 : ¬ nI last ≤ nI i := nI_ge (by omega) (by omega)
    have ho := ht.2.1
    have next : ∀ ia1 : Nat → Nat → Int32, eO b ia ia1 → rowQ b ia1 31 S (fun u d => (tP false u last last kd lf rt d).1) → ¬ chP K Pn W p kd lf rt last i → ∃ ia2, eO b ia ia2 ∧ ((∃ t, i ≤ t ∧ t < last ∧ chP K Pn W p kd lf rt last t) ∧ f_X6_refutesInChain_72 kn (fun a0 a1 a2 a3 a4 a5 a6 => f_X6_refutesInChain_33 kn q a0 a1 a2 a3 a4 a5 a6) (b + 21) (nI last) (nI W) (nI p) (nI U) (nI i) (wr (SK b) ia1 fi fl qa f) = some (1, wr (SK b) ia2 fi fl qa f) ∨ (¬ ∃ t, i ≤ t ∧ t < last ∧ chP K Pn W p kd lf rt last t) ∧ f_X6_refutesInChain_72 kn (fun a0 a1 a2 a3 a4 a5 a6 => f_X6_refutesInChain_33 kn q a0 a1 a2 a3 a4 a5 a6) (b + 21) (nI last) (nI W) (nI p) (nI U) (nI i) (wr (SK b) ia1 fi fl qa f) = some (0, wr (SK b) ia2 fi fl qa f)) := by
      intro ia1 he hq1 hn
      obtain ⟨ia2, g1, g2⟩ := ih (i + 1) q _ (by omega) (by omega) (ht.eO he) hq1
      have hiff : (∃ t, i ≤ t ∧ t < last ∧ chP K Pn W p kd lf rt last t) ↔ ∃ t, i + 1 ≤ t ∧ t < last ∧ chP K Pn W p kd lf rt last t := by
        constructor
        · rintro ⟨t, t1, t2, t3⟩
          by_cases e : t = i
          · subst e; exact absurd t3 hn
          · exact ⟨t, by omega, t2, t3⟩
        · rintro ⟨t, t1, t2, t3⟩; exact ⟨t, by omega, t2, t3⟩
      refine ⟨ia2, he.tr g1, ?_⟩
      unfold f_X6_refutesInChain_72
      rw [hiff, nI_1]
      exact g2
    rw [f_X6_refutesInChain_33, if_neg e1]
    simp only [has_t (show U < 2 ^ 31 from Nat.lt_trans hU (by decide)) (show i < 32 by omega), Option.bind_some]
    cases hb : U.testBit i with
    | false =>
      simp only [if_neg (show ¬ (false = true) by decide), i00, if_true]
      exact next ia eO.rf hq (fun h => by rw [(hUb i (by omega)).mpr h.1] at hb; cases hb)
    | true =>
      have hub := (hUb i (by omega)).mp hb
      obtain ⟨R1, r1, r2⟩ := c_before (fl := fl) (qa := qa) hkn ht (r := 32) (h := 31) (c := true) (v := i) (w := last) (one := i) (oth := i) (Or.inr rfl) (Or.inr rfl) (by decide) (by omega) (by omega) hq (fun u hu d h6 hd => by
        rw [tP_c ho u i last hd, tP_t true ho u i last hd, ← tP_t false ho i last last hd]
        have hp := (tP_p false ho hub.1 hub.1 hd).2
        revert hp
        cases (tP false i last last kd lf rt d).1 <;> cases (tP false i last last kd lf rt d).2.2 <;> simp) hW hs hp hsp
      rw [Nat.and_self] at r2
      simp only [if_true, i10, if_false, R_21_4, R_21_3, ck_21, Option.bind_some]
      rcases r2 with ⟨a1, a2⟩ | ⟨a1, a2⟩
      · simp only [a2, Option.bind_some, i10, if_false]
        exact ⟨_, eO.rw R1 (Or.inr rfl), Or.inl ⟨⟨i, Nat.le_refl _, hil, hub, a1⟩, rfl⟩⟩
      · simp only [a2, Option.bind_some, i00, if_true]
        exact next _ (eO.rw R1 (Or.inr rfl)) (hq.ne (by decide)) (fun h => a1 h.2)
theorem c_chain {kn : Nat} (hkn : KNf b f kn) (hW : W < 32) (hs : ∀ i, W.testBit i = true → selP K V i) {p : Nat} (hp : p < 5) (hsp : selP K V p) {last : Nat} (hl : last < 16) (ht : TK b ia fi K G V S kd lf rt Pn 5) (hq : rowQ b ia 30 S (Q1 kd lf rt)) : ∃ ia1, eO b ia ia1 ∧ ((∃ t, t < last ∧ chP K Pn W p kd lf rt last t) ∧ f_X6_refutesInChain kn (b + 21) (nI last) (nI W) (nI p) (wr (SK b) ia fi fl qa f) = some (1, wr (SK b) ia1 fi fl qa f) ∨ (¬ ∃ t, t < last ∧ chP K Pn W p kd lf rt last t) ∧ f_X6_refutesInChain kn (b + 21) (nI last) (nI W) (nI p) (wr (SK b) ia fi fl qa f) = some (0, wr (SK b) ia1 fi fl qa f)) := by
  have ho := ht.2.1
  obtain ⟨qf, hqf⟩ := FU_1000
  obtain ⟨Rv, hR⟩ := id hq
  obtain ⟨R1, e1, e2⟩ := c_fillR (fl := fl) (qa := qa) hkn (r := 31) (h := 30) (Or.inr (Or.inl rfl)) (Or.inr (Or.inl rfl)) (by decide) ht.1 ho (Bh := Rv) (fun d hd => ⟨(hR d hd).1, (hR d hd).2.1⟩) hl hl
  have hq1 : rowQ b (rw2 ia (b + 31) R1) 31 S (fun u d => (tP false u last last kd lf rt d).1) := by
    refine ⟨fN kd lf rt Rv last last, fun d hd => ⟨?_, fN_lt Rv last last ho d hd, fun u hu => ?_⟩⟩
    · rw [rw2_s]; exact e2 d hd
    · refine fN_bit ho hu (fun d h6 hd => ?_) d hd
      rw [(hR d hd).2.2 last hl, tP_s ho u last last hd, tP_t false ho u last last hd]
      rfl
  have he : eO b ia (rw2 ia (b + 31) R1) := eO.rw R1 (Or.inl rfl)
  have ht1 := ht.eO he
  obtain ⟨X, x1, x2, x3⟩ := c_sup (fl := fl) (qa := qa) (f := f) ht1 ho (r := 31) (Or.inr (Or.inl rfl)) hq1 hW hs
  obtain ⟨Y, y1, y2, y3⟩ := c_below (ia := rw2 ia (b + 31) R1) (fi := fi) (fl := fl) (qa := qa) (F := last) hkn (Nat.lt_trans hl (by decide))
  have hUb : ∀ t, t < 16 → ((Y &&& X).testBit t = true ↔ sub4 t last ∧ sP K Pn W kd lf rt false t last last) := fun t ht => by
    rw [Nat.testBit_and, Bool.and_eq_true, y3 t ht, x3 t ht]
    exact Iff.rfl
  obtain ⟨ia1, g1, g2⟩ := c_chain_33 (fl := fl) (qa := qa) hkn hW hs hp hsp hl (Nat.lt_of_le_of_lt Nat.and_le_left y1) hUb last 0 FU _ (by omega) (by omega) ht1 hq1
  refine ⟨ia1, he.tr g1, ?_⟩
  have hiff : (∃ t, t < last ∧ chP K Pn W p kd lf rt last t) ↔ ∃ t, 0 ≤ t ∧ t < last ∧ chP K Pn W p kd lf rt last t := ⟨fun ⟨t, a, c⟩ => ⟨t, Nat.zero_le _, a, c⟩, fun ⟨t, _, a, c⟩ => ⟨t, a, c⟩⟩
  unfold f_X6_refutesInChain
  simp only [R_21_3, R_21_2, ck_21, e1, Option.bind_some, x2, y2, fa_and Y X]
  rw [hiff]
  exact g2
end FEW2
