/-! THE CLASS'S ANSWERS OF SMALL MODELS -/
section FR
variable {b : Nat} {ia fi : Nat → Nat → Int32} {fl : Nat → Nat → Int64} {qa : Nat → Nat → Option Nat} {f : mmF} {S : Nat} {kd lf rt : Nat → Nat} {Ω : mO}
variable {K : Nat → Nat} {G : Nat → Nat → Nat} {W V p : Nat} {Pn : Nat → Nat → Nat}
/-- the parts' values are the claims' -/
theorem rP_S (ho : PTo S kd lf rt) (hk : okC K G W p) (hp : p < 5) (hn : ∀ j, j < 5 → (W.testBit j = true ∨ j = p) → NP (G j) S kd lf rt (Pn j) (K j)) (c : Bool) (u v w : Nat) : (rP K Pn W p kd lf rt c u v w ↔ rfS K G W p c u v w) ∧ (sP K Pn W kd lf rt c u v w ↔ vS K G W c u v w) := by
  have e : ∀ j, j < 5 → (W.testBit j = true ∨ j = p) → tP c u v w kd lf rt (Pn j (K j - 1)) = tN c u v w (G j) (K j - 1) := fun j hj h => by
    have o := hk j hj h
    exact (hn j hj h).val ho o.2 (K j - 1) (by omega)
  have e1 : sP K Pn W kd lf rt c u v w ↔ vS K G W c u v w := by
    unfold sP vS
    constructor
    · intro h j hj hw; rw [← e j hj (Or.inl hw)]; exact h j hj hw
    · intro h j hj hw; rw [e j hj (Or.inl hw)]; exact h j hj hw
  refine ⟨?_, e1⟩
  unfold rP rfS
  rw [e p hp (Or.inr rfl)]
  exact ⟨fun h => ⟨e1.mp h.1, h.2⟩, fun h => ⟨e1.mpr h.1, h.2⟩⟩
theorem fe_fw (ho : PTo S kd lf rt) (hk : okC K G W p) (hp : p < 5) (hn : ∀ j, j < 5 → (W.testBit j = true ∨ j = p) → NP (G j) S kd lf rt (Pn j) (K j)) {U F : Nat} (hF : ∀ i, i < 5 → (W.testBit i = true ∨ i = p) → ∀ j, j < K i → G i j < 4 → F.testBit (G i j) = true) (hU : ∀ u, u < 16 → (U.testBit u = true ↔ sub4 u F ∧ sP K Pn W kd lf rt false u u u)) : ((∃ t, t < 16 ∧ fe2 K Pn W p kd lf rt U t) ↔ fw2 K G W p) ∧ (¬ fw2 K G W p → ((∃ t, 0 ≤ t ∧ t < 16 ∧ fe3 K Pn W p kd lf rt U t) ↔ fw3 K G W p)) := by
  have eR := fun c u v w => (rP_S ho hk hp hn c u v w).1
  have eS := fun c u v w => (rP_S ho hk hp hn c u v w).2
  have hU' : ∀ u, u < 16 → (U.testBit u = true ↔ sub4 u F ∧ vS K G W false u u u) := fun u hu => by rw [hU u hu, eS]
  refine ⟨?_, fun n2 => ?_⟩
  · constructor
    · rintro ⟨t, ht, h1, u, hu, h2, h3⟩
      exact ⟨u, t, hu, ht, h2, (eR _ _ _ _).mp h3⟩
    · rintro ⟨u, v, hu, hv, h1, h2⟩
      have h3 := rfS_f hk hp hF h2
      have h4 := sub4_and (F := F) h1
      exact ⟨v &&& F, and16_lt F hv, (hU' _ (and16_lt F hv)).mpr ⟨sub4_r v F, vS_t hk h4 h4 h3.1⟩, u &&& F, and16_lt F hu, h4, (eR _ _ _ _).mpr h3⟩
  · constructor
    · rintro ⟨t, _, ht, h1, ⟨i, _, hi, h2, u, hu, h3, h4⟩ | ⟨i, hi, ⟨h2, h3⟩, u, hu, h4, h5⟩⟩
      · exact ⟨u, i, t, hu, by omega, ht, (sub4_l h3).1, (sub4_l h3).2, Or.inl ((eR _ _ _ _).mp h4)⟩
      · exact ⟨u, i, t, hu, by omega, ht, h4, fun k hk hb => h2 k hk (h4 k hk hb), Or.inr ⟨h2, (eR _ _ _ _).mp h5⟩⟩
    · rintro ⟨u, v, w, hu, hv, hw, h1, h2, h3 | ⟨h3, h4⟩⟩
      · have g3 := rfS_f hk hp hF h3
        have g1 := sub4_and (F := F) h1
        have g2 := sub4_and (F := F) h2
        have lu := and16_lt F hu
        have lv := and16_lt F hv
        have lw := and16_lt F hw
        have sv := vS_s hk g1 g2 g3.1
        have sw := vS_t hk g1 g2 g3.1
        have uv := (hU' _ lv).mpr ⟨sub4_r v F, sv⟩
        have uw := (hU' _ lw).mpr ⟨sub4_r w F, sw⟩
        have g4 := rfS_w hk hp g3
        rcases Nat.lt_trichotomy (v &&& F) (w &&& F) with h | h | h
        · exact ⟨w &&& F, Nat.zero_le _, lw, uw, Or.inl ⟨v &&& F, Nat.zero_le _, h, uv, u &&& F, lu, sub4_2 g1 g2, (eR _ _ _ _).mpr g3⟩⟩
        · rw [← h] at g3
          exact absurd ⟨_, _, lu, lv, g1, g3⟩ n2
        · exact ⟨v &&& F, Nat.zero_le _, lv, uv, Or.inl ⟨w &&& F, Nat.zero_le _, h, uw, u &&& F, lu, sub4_2 g2 g1, (eR _ _ _ _).mpr g4⟩⟩
      · have g4 := rfS_f hk hp hF h4
        have g1 := sub4_and (F := F) h1
        have g2 := sub4_and (F := F) h2
        have g3 := sub4_and (F := F) h3
        have lu := and16_lt F hu
        have lv := and16_lt F hv
        have lw := and16_lt F hw
        have sw := vS_t hk g1 g2 g4.1
        have uw := (hU' _ lw).mpr ⟨sub4_r w F, sw⟩
        have sc := vS_c hk g1 g2 g4.1
        have hle := sub4_le _ lv _ lw g3
        rcases Nat.lt_or_eq_of_le hle with h | h
        · exact ⟨w &&& F, Nat.zero_le _, lw, uw, Or.inr ⟨v &&& F, h, ⟨g3, (eS _ _ _ _).mpr sc⟩, u &&& F, lu, g1, (eR _ _ _ _).mpr g4⟩⟩
        · rw [← h] at g4
          exact absurd ⟨_, _, lu, lv, g1, rfS_d hk hp g4⟩ n2
theorem qOk.ok (w : WO Ω) (h : qOk Ω W p) : okC Ω.1.2.2.2.1 Ω.1.2.2.2.2 W p := fun j hj hw => by
  have h0 : 0 < Ω.1.2.2.2.1 j := by
    rcases hw with hw | rfl
    · exact (h.2.2.2 j hw).2
    · exact h.2.2.1
  exact ⟨h0, (w.1.2 j hj h0).ok⟩
theorem or_bit {W p j : Nat} : (W ||| 2 ^ p).testBit j = true ↔ (W.testBit j = true ∨ j = p) := by
  rw [Nat.testBit_or, Nat.testBit_two_pow, Bool.or_eq_true, decide_eq_true_eq]
  exact ⟨fun h => h.imp id Eq.symm, fun h => h.imp id Eq.symm⟩
theorem qOk.sel (h : qOk Ω W p) {i : Nat} (hi : W.testBit i = true ∨ i = p) : i < 5 ∧ selP Ω.1.2.2.2.1 (W ||| 2 ^ p) i := by
  rcases hi with hi | rfl
  · exact ⟨(h.2.2.2 i hi).1, (h.2.2.2 i hi).2, or_bit.mpr (Or.inl hi)⟩
  · exact ⟨h.2.1, h.2.2.1, or_bit.mpr (Or.inr rfl)⟩
theorem qOk.W32 (h : qOk Ω W p) : W ||| 2 ^ p < 32 := or_lt (n := 5) h.1 (Nat.pow_lt_pow_right (by decide) h.2.1)
theorem TK.np (ht : TK b ia fi K G V S kd lf rt Pn 5) {j : Nat} (hj : j < 5) (hs : selP K V j) : NP (G j) S kd lf rt (Pn j) (K j) := by
  rcases ht.2.2.2.2 j hj with ⟨_, hn, _⟩ | ⟨hn, _⟩
  · exact hn
  · exact absurd hs hn
theorem LKA.q (h : LKA b ia fi K G V S kd lf rt Pn) : rowQ b ia 30 S (Q1 kd lf rt) :=
  ⟨fN kd lf rt (fun _ => 65535) 0 0, fun d hd => ⟨h.2.1 d hd, fN_lt _ 0 0 h.1.2.1 d hd, fun u hu => fN_single h.1.2.1 hu false d hd⟩⟩
/-- the class looks at the claims of a question -/
theorem C_asks (h : CR b ia fi qa f Ω) (w : WO Ω) {kn : Nat} (hkn : KNf b f kn) (hq : qOk Ω W p) : ∃ (ia1 fi1 : Nat → Nat → Int32) (S : Nat) (kd lf rt : Nat → Nat) (Pn : Nat → Nat → Nat), f_X9_lookAt kn b (nI W ||| ((1 : Int32) <<< (nI p &&& 31))) (wr (SK b) ia fi fl qa f) = some (wr (SK b) ia1 fi1 fl qa f) ∧ LKA b ia1 fi1 Ω.1.2.2.2.1 Ω.1.2.2.2.2 (W ||| 2 ^ p) S kd lf rt Pn ∧ CR b ia1 fi1 qa f Ω ∧ highE b ia fi ia1 fi1 := by
  rw [bt_shl (show p < 32 by have := hq.2.1; omega), fa_or]
  exact C_look h w hkn hq.W32
theorem CR.eO {ia1 : Nat → Nat → Int32} (h : CR b ia fi qa f Ω) (e : eO b ia ia1) : CR b ia1 fi qa f Ω ∧ highE b ia fi ia1 fi := h.scr2 (fun a ha => e a (by omega) (by omega)) (fun i _ => by rw [e _ (by omega) (by omega)]) (fun _ _ _ => rfl)
noncomputable def plV (K : Nat → Nat) (G : Nat → Nat → Nat) (W p : Nat) : Int32 := @ite Int32 (fw1 K G W p) (Classical.propDecidable _) 0 1
theorem C_plain (h : CR b ia fi qa f Ω) (w : WO Ω) (hq : qOk Ω W p) {V : Nat} {S : Nat} {kd lf rt : Nat → Nat} {Pn : Nat → Nat → Nat} (z2 : LKA b ia fi Ω.1.2.2.2.1 Ω.1.2.2.2.2 V S kd lf rt Pn) (hV : ∀ i, (W.testBit i = true ∨ i = p) → selP Ω.1.2.2.2.1 V i) : f_X6_entailsPlainly (b + 21) (nI W) (nI p) (wr (SK b) ia fi fl qa f) = some (plV Ω.1.2.2.2.1 Ω.1.2.2.2.2 W p) := by
  have hp := hq.2.1
  have hk := hq.ok w
  have ho := z2.1.2.1
  have hn : ∀ j, j < 5 → (W.testBit j = true ∨ j = p) → NP (Ω.1.2.2.2.2 j) S kd lf rt (Pn j) (Ω.1.2.2.2.1 j) := fun j hj hw => z2.1.np hj (hV j hw)
  have e1 : (∃ u, u < 16 ∧ rP Ω.1.2.2.2.1 Pn W p kd lf rt false u u u) ↔ fw1 Ω.1.2.2.2.1 Ω.1.2.2.2.2 W p := by
    constructor
    · rintro ⟨u, hu, hr⟩; exact ⟨u, hu, (rP_S ho hk hp hn _ _ _ _).1.mp hr⟩
    · rintro ⟨u, hu, hr⟩; exact ⟨u, hu, (rP_S ho hk hp hn _ _ _ _).1.mpr hr⟩
  unfold plV
  rcases c_plain (fl := fl) (qa := qa) (f := f) hq.1 (fun i hi => hV i (Or.inl hi)) hp (hV p (Or.inr rfl)) z2.1 z2.q with ⟨a1, a2⟩ | ⟨a1, a2⟩
  · rw [if_pos (e1.mp a1), a2]
  · rw [if_neg (fun e => a1 (e1.mpr e)), a2]
theorem plV_t (K : Nat → Nat) (G : Nat → Nat → Nat) (W p : Nat) (μ : mmF) : f_X9_truth (plV K G W p) μ = some (plV K G W p) := by
  unfold plV f_X9_truth
  by_cases h : fw1 K G W p
  · rw [if_pos h]; rfl
  · rw [if_neg h]; rfl
theorem C_followsPlainly (h : CR b ia fi qa f Ω) (w : WO Ω) {kn : Nat} (hkn : KNf b f kn) (hq : qOk Ω W p) (h0 : f_X9_questionError b (nI W) (nI p) (wr (SK b) ia fi fl qa f) = some 0) : CRes b f ia fi (f_X9_followsPlainly kn b (nI W) (nI p) (wr (SK b) ia fi fl qa f)) (plV Ω.1.2.2.2.1 Ω.1.2.2.2.2 W p) Ω := by
  obtain ⟨ia1, fi1, S, kd, lf, rt, Pn, z1, z2, z3, z4⟩ := C_asks (fl := fl) h w hkn hq
  have hpl := C_plain (fl := fl) z3 w hq z2 (fun i hi => (hq.sel hi).2)
  unfold f_X9_followsPlainly
  simp only [ck_0, h0, z1, Option.bind_some, if_true, R_0_7, ck_21, hpl, plV_t]
  exact ⟨ia1, fi1, fl, qa, rfl, z3, z4⟩
end FR
