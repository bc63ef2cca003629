/-! THE DEPTH: at a nest some valuation has more than the atoms that are given -/
/-- atoms k, and a valuation m that has all of them and one more -/
def EV (k m : Nat) : Prop := k < 16 ∧ m < 16 ∧ (∀ i, i < 4 → k.testBit i = true → m.testBit i = true) ∧ ∃ i, i < 4 ∧ m.testBit i = true ∧ k.testBit i = false
section DECIDED
variable {P : Nat} {op lf rt : Nat → Nat} {Γ : Nat → Bool} {g : Nat}
theorem mask_ex (A : Nat → Prop) : ∃ k, k < 16 ∧ ∀ i, i < 4 → (k.testBit i = true ↔ A i) := by
  have hb := b4_bit (@decide (A 0) (Classical.propDecidable _)) (@decide (A 1) (Classical.propDecidable _)) (@decide (A 2) (Classical.propDecidable _)) (@decide (A 3) (Classical.propDecidable _))
  refine ⟨_, hb.1, fun i hi => ?_⟩
  rcases k4 hi with rfl | rfl | rfl | rfl
  · rw [hb.2.1]; exact @decide_eq_true_iff _ (Classical.propDecidable _)
  · rw [hb.2.2.1]; exact @decide_eq_true_iff _ (Classical.propDecidable _)
  · rw [hb.2.2.2.1]; exact @decide_eq_true_iff _ (Classical.propDecidable _)
  · rw [hb.2.2.2.2]; exact @decide_eq_true_iff _ (Classical.propDecidable _)
/-- where all valuations are one and its atoms are given, all stages are that one -/
theorem all_one (ho : RPo P op lf rt) (hi : inP P Γ) {m0 : Nat} (hA : ∀ i, i < 4 → m0.testBit i = true → ∃ q, Γ q = true ∧ op q = i) (h1 : ∀ m, m < 16 → pvW op lf rt Γ m → ∀ i, i < 4 → m.testBit i = true → m0.testBit i = true) {p : Nat} (hp : p < P) (ht : kT1 m0 op lf rt p) : Prv P op lf rt Γ p := by
  intro W R V w hk hw
  have key : ∀ p, p < P → ∀ u, R w u → (kT R V op lf rt p u ↔ kT1 m0 op lf rt p) := by
    intro p
    induction p using Nat.strongRecOn with
    | _ p ih =>
      intro hp u hu
      unfold kT1
      by_cases h6 : op p < 6
      · rw [kT_lf h6, kT_lf h6]
        by_cases h4 : op p < 4
        · rw [if_pos h4, if_pos h4]
          constructor
          · intro hV
            obtain ⟨v, w', hv, b1, b2⟩ := end_t (S := P) hk ho.to u
            have hpv : pvW op lf rt Γ v := (pvT_kT ho hi v).mpr fun q hq hg => (b2 q hq w' (hk.1 w')).mp (kT_up hk ho.to q hq _ _ (hk.2.1 _ _ _ hu b1) (hw q hq hg))
            have hpp := (b2 p hp w' (hk.1 w')).mp ((kT_lf h6 w').mpr (by rw [if_pos h4]; exact hk.2.2 _ _ _ b1 hV))
            unfold kT1 at hpp
            rw [kT_lf h6, if_pos h4] at hpp
            exact h1 v hv hpv _ h4 hpp
          · intro hb
            obtain ⟨q, hq, e⟩ := hA _ h4 hb
            have := hw q (hi q hq) hq
            rw [kT_lf (by omega), if_pos (by omega), e] at this
            exact hk.2.2 _ _ _ hu this
        · rw [if_neg h4, if_neg h4]
      · obtain ⟨o1, o2, o3, o4, o5, o6, o7, o8, o9⟩ := ho.two hp (by omega)
        have il := ih _ o5 (by omega)
        have ir := ih _ o7 (by omega)
        unfold kT1 at il ir
        obtain e | e | e : op p = 7 ∨ op p = 8 ∨ op p = 9 := by omega
        · rw [kT_7 ho.to hp e, kT_7 ho.to hp e, il u hu, ir u hu]
        · rw [kT_8 ho.to hp e, kT_8 ho.to hp e, il u hu, ir u hu]
        · rw [kT_9 ho.to hp e, kT_9 ho.to hp e]
          exact ⟨fun h x _ hx => (ir u hu).mp (h u (hk.1 u) ((il u hu).mpr hx)), fun h x hx hxx => (ir x (hk.2.1 _ _ _ hu hx)).mpr (h () trivial ((il x (hk.2.1 _ _ _ hu hx)).mp hxx))⟩
  exact (key p hp w (hk.1 w)).mpr ht
theorem decided (ho : RPo P op lf rt) (h2 : 2 ≤ P) (hi : inP P Γ) (hg : g < P) (hs : setd P op lf rt Γ g) (h8 : ∀ p, p < P → Γ p = true → op p ≠ 8) (h7 : op g ≠ 7) (hor : op g = 8 → ¬ Prv P op lf rt Γ (lf g) ∧ ¬ Prv P op lf rt Γ (rt g)) : ∃ k m, EV k m ∧ ∀ q, Γ q = true → okR (vB k) (vB m) op lf rt q = true := by
  obtain ⟨k, hk, hkA⟩ := mask_ex fun i => ∃ q, Γ q = true ∧ op q = i
  -- what is given is true in m: its atoms too
  have sub : ∀ m, pvW op lf rt Γ m → ∀ i, i < 4 → k.testBit i = true → m.testBit i = true := fun m hm i h4 hb => by
    obtain ⟨q, hq, e⟩ := (hkA i h4).mp hb
    have := hm q hq
    rw [(q2_l (by omega)).1, if_pos (by omega), e] at this
    exact this
  by_cases hex : ∃ m, m < 16 ∧ pvW op lf rt Γ m ∧ ∃ i, i < 4 ∧ m.testBit i = true ∧ k.testBit i = false
  · obtain ⟨m, hm, hp, hi4⟩ := hex
    refine ⟨k, m, ⟨hk, hm, sub m hp, hi4⟩, fun q hq => ?_⟩
    have hqP := hi q hq
    have ht := hp q hq
    rw [t2_E ho (vB k) q hqP] at ht
    by_cases h6 : op q < 6
    · unfold okR
      rw [oq_lf h6]
      rw [(q2_l h6).1] at ht
      show (if op q < 4 then vB k (op q) && vB m (op q) else decide (op q = 4)) = true
      by_cases h4 : op q < 4
      · rw [if_pos h4] at ht ⊢
        rw [Bool.and_eq_true]
        exact ⟨(hkA _ h4).mpr ⟨q, hq, rfl⟩, ht⟩
      · rw [if_neg h4] at ht ⊢
        exact ht
    · rcases hs.1 q hqP hq with h | ⟨h, _⟩ | ⟨h, _⟩
      · obtain ⟨o1, o2, _⟩ := ho.two hqP (by omega)
        omega
      · exact absurd h (h8 q hqP hq)
      · rw [ok_9 ho hqP h]; exact ht
  · exfalso
    have all : ∀ m, m < 16 → pvW op lf rt Γ m → ∀ i, i < 4 → m.testBit i = true → k.testBit i = true := fun m hm hp i h4 hb => by
      apply Classical.byContradiction
      intro c
      exact hex ⟨m, hm, hp, i, h4, hb, eq_false_of_ne_true c⟩
    obtain ⟨m0, hm0, hp0⟩ := setd_pl ho hi hs
    have hA : ∀ i, i < 4 → m0.testBit i = true → ∃ q, Γ q = true ∧ op q = i := fun i h4 hb => (hkA i h4).mp (all m0 hm0 hp0 i h4 hb)
    have h1 : ∀ m, m < 16 → pvW op lf rt Γ m → ∀ i, i < 4 → m.testBit i = true → m0.testBit i = true := fun m hm hp i h4 hb => sub m0 hp0 i h4 (all m hm hp i h4 hb)
    have tg := setd_g ho hi hg hs hm0 hp0
    obtain ⟨c9, c0, c1, cg, c00⟩ := hs.2.1
    by_cases h6 : op g < 6
    · rw [(q2_l h6).1] at tg
      by_cases h4 : op g < 4
      · rw [if_pos h4] at tg
        obtain ⟨q, hq, e⟩ := hA _ h4 tg
        have : q = g := by
          have a1 := ho.1 q (hi q hq)
          have a2 := ho.1 g hg
          exact ho.2 q g (hi q hq) hg e (by omega) (by omega)
        rw [this, cg] at hq
        cases hq
      · rw [if_neg h4] at tg
        have e4 : op g = 4 := of_decide_eq_true tg
        have a2 := ho.1 g hg
        omega
    · obtain ⟨o1, o2, o3, o4, o5, o6, o7, o8, o9⟩ := ho.two hg (by omega)
      have e8 : op g = 8 := by omega
      rw [(q2_8 ho hg e8).1, Bool.or_eq_true, t2_kT ho m0 _ (by omega), t2_kT ho m0 _ (by omega)] at tg
      obtain ⟨n1, n2⟩ := hor e8
      rcases tg with h | h
      · exact n1 (all_one ho hi hA h1 (by omega) h)
      · exact n2 (all_one ho hi hA h1 (by omega) h)
end DECIDED
