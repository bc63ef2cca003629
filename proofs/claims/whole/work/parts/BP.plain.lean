/-! BOTH SIDES' SMALL MODELS -/
/-- what holds first holds later; in a chain, also from the second to the third -/
def gd3 (c : Bool) (x : Bool × Bool × Bool) : Prop := (x.1 = true → x.2.1 = true) ∧ (x.1 = true → x.2.2 = true) ∧ (c = true → x.2.1 = true → x.2.2 = true)
def mon3 (c : Bool) (u v w : Nat) : Prop := sub4 u v ∧ sub4 u w ∧ (c = true → sub4 v w)
theorem gd3_lf {c : Bool} {u v w : Nat} (h : mon3 c u v w) (k : Nat) : gd3 c (b3Lf u v w k) := by
  unfold b3Lf gd3
  by_cases h4 : k < 4
  · simp only [if_pos h4]; exact ⟨h.1 k h4, h.2.1 k h4, fun hc => h.2.2 hc k h4⟩
  · by_cases e : k = 4
    · simp only [if_neg h4, if_pos e]; exact ⟨id, id, fun _ => id⟩
    · simp only [if_neg h4, if_neg e]; exact ⟨id, id, fun _ => id⟩
def gb3 (c : Bool) (x : Bool × Bool × Bool) : Bool := (!x.1 || x.2.1) && ((!x.1 || x.2.2) && (!c || (!x.2.1 || x.2.2)))
theorem gb3_b : ∀ c a1 a2 a3 b1 b2 b3 : Bool, (!(gb3 c (a1, a2, a3) && gb3 c (b1, b2, b3)) || (gb3 c (a1 && b1, a2 && b2, a3 && b3) && (gb3 c (a1 || b1, a2 || b2, a3 || b3) && gb3 c (b3If c (a1, a2, a3) (b1, b2, b3))))) = true := by decide
theorem gb3_i : ∀ c a1 a2 a3 : Bool, gd3 c (a1, a2, a3) ↔ gb3 c (a1, a2, a3) = true := by unfold gd3; decide
theorem gd3_b (c a1 a2 a3 b1 b2 b3 : Bool) (h1 : gd3 c (a1, a2, a3)) (h2 : gd3 c (b1, b2, b3)) : gd3 c (a1 && b1, a2 && b2, a3 && b3) ∧ gd3 c (a1 || b1, a2 || b2, a3 || b3) ∧ gd3 c (b3If c (a1, a2, a3) (b1, b2, b3)) := by
  have h := gb3_b c a1 a2 a3 b1 b2 b3
  rw [(gb3_i c a1 a2 a3).mp h1, (gb3_i c b1 b2 b3).mp h2, Bool.and_true, Bool.not_true, Bool.false_or, Bool.and_eq_true, Bool.and_eq_true] at h
  exact ⟨(gb3_i c _ _ _).mpr h.1, (gb3_i c _ _ _).mpr h.2.1, (gb3_i c _ _ _).mpr h.2.2⟩
theorem ga3_b : ∀ c a1 a2 a3 : Bool, gd3 c (a1, a2, a3) → b3If c (true, true, true) (a1, a2, a3) = (a1, a2, a3) ∧ b3If c (false, false, false) (a1, a2, a3) = (true, true, true) ∧ b3If c (a1, a2, a3) (true, true, true) = (true, true, true) ∧ b3If c (a1, a2, a3) (a1, a2, a3) = (true, true, true) := by unfold gd3 b3If; decide
theorem ga3_c : ∀ a1 a2 a3 : Bool, ((true && a1, true && a2, true && a3) = (a1, a2, a3) ∧ (a1 && a1, a2 && a2, a3 && a3) = (a1, a2, a3) ∧ (a1 && true, a2 && true, a3 && true) = (a1, a2, a3) ∧ (false && a1, false && a2, false && a3) = (false, false, false) ∧ (a1 && false, a2 && false, a3 && false) = (false, false, false)) ∧ (false || a1, false || a2, false || a3) = (a1, a2, a3) ∧ (a1 || a1, a2 || a2, a3 || a3) = (a1, a2, a3) ∧ (a1 || false, a2 || false, a3 || false) = (a1, a2, a3) ∧ (true || a1, true || a2, true || a3) = (true, true, true) ∧ (a1 || true, a2 || true, a3 || true) = (true, true, true) := by decide
theorem GA3 {c : Bool} {u v w : Nat} (h : mon3 c u v w) : GA (b3Lf u v w) (b3Un c) (b3Bn c) (gd3 c) := by
  refine ⟨fun k _ => gd3_lf h k, fun k x y h7 h10 hx hy => ?_, fun x _ => rfl, fun x _ => ?_, fun x _ => ?_, fun x hx => ?_⟩
  · obtain ⟨a1, a2, a3⟩ := x
    obtain ⟨b1, b2, b3⟩ := y
    have hb := gd3_b c a1 a2 a3 b1 b2 b3 hx hy
    unfold b3Bn
    by_cases e7 : k = 7
    · rw [if_pos e7]; exact hb.1
    · rw [if_neg e7]
      by_cases e8 : k = 8
      · rw [if_pos e8]; exact hb.2.1
      · rw [if_neg e8]; exact hb.2.2
  · obtain ⟨a1, a2, a3⟩ := x; exact (ga3_c a1 a2 a3).1
  · obtain ⟨a1, a2, a3⟩ := x; exact (ga3_c a1 a2 a3).2
  · obtain ⟨a1, a2, a3⟩ := x; exact ga3_b c a1 a2 a3 hx
theorem knB_mon {k m s t i : Nat} (h3 : k < 3 ∨ s = 0) (hst : s ≤ t) (h : knB k m s i = true) : knB k m t i = true := by
  unfold knB at h ⊢
  by_cases hk : k < 3
  · rw [if_pos hk, decide_eq_true_eq] at h ⊢
    omega
  · rw [if_neg hk] at h ⊢
    have h0 : s = 0 := by omega
    rw [h0, decide_eq_false (Nat.lt_irrefl 0), Bool.false_and, Bool.or_false] at h
    rw [h, Bool.true_or]
theorem vl_mon {k m s t : Nat} (h3 : k < 3 ∨ s = 0) (hst : s ≤ t) : sub4 (vl k m s) (vl k m t) := fun i hi h => by
  rw [vl_bit k m _ hi] at h ⊢
  exact knB_mon h3 hst h
theorem vl_mon3 {k : Nat} (hk : k < 4) (m : Nat) : mon3 (kC k) (vl k m 0) (vl k m (s1 k)) (vl k m (s2 k)) :=
  ⟨vl_mon (Or.inr rfl) (Nat.zero_le _), vl_mon (Or.inr rfl) (Nat.zero_le _), fun hc => by
    have e : k = 2 := of_decide_eq_true hc
    subst e
    exact vl_mon (Or.inl (by decide)) (by decide)⟩
/-- the model that has some stages -/
def bt4 (u i : Nat) : Nat := (u.testBit i).toNat
def md1 (u v : Nat) : Nat := (bt4 u 0 + bt4 v 0) + 3 * (bt4 u 1 + bt4 v 1) + 9 * (bt4 u 2 + bt4 v 2) + 27 * (bt4 u 3 + bt4 v 3)
def md2 (u v w : Nat) : Nat := (bt4 u 0 + bt4 v 0 + bt4 w 0) + 4 * (bt4 u 1 + bt4 v 1 + bt4 w 1) + 16 * (bt4 u 2 + bt4 v 2 + bt4 w 2) + 64 * (bt4 u 3 + bt4 v 3 + bt4 w 3)
def wy3 (u v w i : Nat) : Nat := if u.testBit i then 4 else bt4 v i + 2 * bt4 w i
def md3 (u v w : Nat) : Nat := wy3 u v w 0 + 5 * wy3 u v w 1 + 25 * wy3 u v w 2 + 125 * wy3 u v w 3
theorem md0_t : ∀ u, u < 16 → u < kM 0 ∧ vl 0 u 0 = u := by decide +kernel
theorem md1_t : ∀ u, u < 16 → ∀ v, v < 16 → (∀ k, k < 4 → u.testBit k = true → v.testBit k = true) → md1 u v < kM 1 ∧ vl 1 (md1 u v) 0 = u ∧ vl 1 (md1 u v) 1 = v := by decide +kernel
def sb4 (u v : Nat) : Bool := u &&& v == u
theorem sb4_t {u v : Nat} (hu : u < 16) (h : sub4 u v) : sb4 u v = true := by
  unfold sb4
  rw [beq_iff_eq]
  apply Nat.eq_of_testBit_eq
  intro i
  rw [Nat.testBit_and]
  by_cases hi : i < 4
  · cases hb : u.testBit i with
    | false => rfl
    | true => rw [h i hi hb]; rfl
  · rw [Nat.testBit_lt_two_pow (Nat.lt_of_lt_of_le hu (show 2 ^ 4 ≤ 2 ^ i from Nat.pow_le_pow_right (by decide) (by omega)))]
    rfl
def ck2 : Bool := (List.range 16).all fun u => (List.range 16).all fun v => (List.range 16).all fun w => !(sb4 u v && sb4 v w) || (Nat.blt (md2 u v w) 256 && (vl 2 (md2 u v w) 0 == u && (vl 2 (md2 u v w) 1 == v && vl 2 (md2 u v w) 2 == w)))
def ck3 : Bool := (List.range 16).all fun u => (List.range 16).all fun v => (List.range 16).all fun w => !(sb4 u v && sb4 u w) || (Nat.blt (md3 u v w) 625 && (vl 3 (md3 u v w) 0 == u && (vl 3 (md3 u v w) 1 == v && vl 3 (md3 u v w) 2 == w)))
theorem ck2_t : ck2 = true := by decide +kernel
theorem ck3_t : ck3 = true := by decide +kernel
theorem md2_t (u : Nat) (hu : u < 16) (v : Nat) (hv : v < 16) (w : Nat) (hw : w < 16) (h1 : sub4 u v) (h2 : sub4 v w) : md2 u v w < kM 2 ∧ vl 2 (md2 u v w) 0 = u ∧ vl 2 (md2 u v w) 1 = v ∧ vl 2 (md2 u v w) 2 = w := by
  have h := List.all_eq_true.mp (List.all_eq_true.mp (List.all_eq_true.mp ck2_t u (List.mem_range.mpr hu)) v (List.mem_range.mpr hv)) w (List.mem_range.mpr hw)
  rw [sb4_t hu h1, sb4_t hv h2] at h
  simp only [Bool.and_self, Bool.not_true, Bool.false_or, Bool.and_eq_true, beq_iff_eq, Nat.blt_eq] at h
  exact h
theorem md3_t (u : Nat) (hu : u < 16) (v : Nat) (hv : v < 16) (w : Nat) (hw : w < 16) (h1 : sub4 u v) (h2 : sub4 u w) : md3 u v w < kM 3 ∧ vl 3 (md3 u v w) 0 = u ∧ vl 3 (md3 u v w) 1 = v ∧ vl 3 (md3 u v w) 2 = w := by
  have h := List.all_eq_true.mp (List.all_eq_true.mp (List.all_eq_true.mp ck3_t u (List.mem_range.mpr hu)) v (List.mem_range.mpr hv)) w (List.mem_range.mpr hw)
  rw [sb4_t hu h1, sb4_t hu h2] at h
  simp only [Bool.and_self, Bool.not_true, Bool.false_or, Bool.and_eq_true, beq_iff_eq, Nat.blt_eq] at h
  exact h
section PL
variable {b : Nat} {ia fi : Nat → Nat → Int32} {fl : Nat → Nat → Int64} {qa : Nat → Nat → Option Nat} {f : mmF} {Ω : mO}
variable {K : Nat → Nat} {G : Nat → Nat → Nat} {W p : Nat} {P : Nat} {op lf rt : Nat → Nat} {pr : Nat → Nat} {pg : Nat} {Γ : Nat → Bool}
/-- a kind's refuting, told by the claims -/
def kpN (K : Nat → Nat) (G : Nat → Nat → Nat) (W p k : Nat) : Prop := ∃ s m, s < kS k ∧ m < kM k ∧ (∀ i, i < 5 → W.testBit i = true → cmp s (tN (kC k) (vl k m 0) (vl k m (s1 k)) (vl k m (s2 k)) (G i) (K i - 1)) = true) ∧ cmp s (tN (kC k) (vl k m 0) (vl k m (s1 k)) (vl k m (s2 k)) (G p) (K p - 1)) = false
theorem setR.kp (h : setR b ia fi K G W p P op lf rt pr pg Γ) {k : Nat} (hk : k < 4) : kpF op lf rt P k Γ pg ↔ kpN K G W p k := by
  obtain ⟨h1, h2, h3, h4, h5, h6, h7, h8⟩ := h
  have e : ∀ m g i r, isPN P op lf rt g i r → tQ op lf rt k m r = tN (kC k) (vl k m 0) (vl k m (s1 k)) (vl k m (s2 k)) g i := fun m g i r hr => hr.2 _ _ _ _ _ _ _ (GA3 (vl_mon3 hk m))
  constructor
  · rintro ⟨s, m, a1, a2, a3, a4⟩
    refine ⟨s, m, a1, a2, fun i hi hw => ?_, ?_⟩
    · rw [← e m _ _ _ (h6 i hi hw)]
      exact a3 _ (h6 i hi hw).1 ((h5 _).mpr ⟨i, hi, hw, rfl⟩)
    · rw [← e m _ _ _ h8]; exact a4
  · rintro ⟨s, m, a1, a2, a3, a4⟩
    refine ⟨s, m, a1, a2, fun q hq hΓ => ?_, ?_⟩
    · obtain ⟨i, hi, hw, rfl⟩ := (h5 q).mp hΓ
      rw [e m _ _ _ (h6 i hi hw)]
      exact a3 i hi hw
    · rw [e m _ _ _ h8]; exact a4
theorem kp_fw (hk : okC K G W p) (hp : p < 5) : (kpN K G W p 0 ↔ fw1 K G W p) ∧ (¬ fw1 K G W p → (kpN K G W p 1 ↔ fw2 K G W p)) ∧ (¬ fw1 K G W p → ¬ fw2 K G W p → (kpN K G W p 2 ∨ kpN K G W p 3 ↔ fw3 K G W p)) := by
  have one : ∀ c u v w s, s < 3 → (c = true → s = 2) → (s ≠ 0) → u < 16 → v < 16 → w < 16 → (∀ i, i < 5 → W.testBit i = true → cmp s (tN c u v w (G i) (K i - 1)) = true) → cmp s (tN c u v w (G p) (K p - 1)) = false → fw1 K G W p := by
    intro c u v w s hs hc h0 hu hv hw a1 a2
    have oi := fun i (hi : i < 5) (h : W.testBit i = true ∨ i = p) => hk i hi h
    by_cases e : s = 1
    · subst e
      have ec : c = false := by cases c with | false => rfl | true => have := hc rfl; omega
      subst ec
      refine ⟨v, hv, fun i hi hw => ?_, ?_⟩
      · have o := oi i hi (Or.inl hw)
        rw [← tN_s o.2 u v w (show K i - 1 < K i by omega)]
        exact a1 i hi hw
      · have o := oi p hp (Or.inr rfl)
        rw [← tN_s o.2 u v w (show K p - 1 < K p by omega)]
        exact a2
    · have e2 : s = 2 := by omega
      subst e2
      refine ⟨w, hw, fun i hi hw' => ?_, ?_⟩
      · have o := oi i hi (Or.inl hw')
        rw [← tN_t c o.2 u v w (show K i - 1 < K i by omega)]
        exact a1 i hi hw'
      · have o := oi p hp (Or.inr rfl)
        rw [← tN_t c o.2 u v w (show K p - 1 < K p by omega)]
        exact a2
  refine ⟨?_, fun n1 => ?_, fun n1 n2 => ?_⟩
  · constructor
    · rintro ⟨s, m, a1, a2, a3, a4⟩
      have e : s = 0 := by rw [show kS 0 = 1 from rfl] at a1; omega
      subst e
      exact ⟨vl 0 m 0, vl_lt _ _ _, a3, a4⟩
    · rintro ⟨u, hu, a1, a2⟩
      obtain ⟨m1, m2⟩ := md0_t u hu
      have e : tN (kC 0) (vl 0 u 0) (vl 0 u (s1 0)) (vl 0 u (s2 0)) = tN false u u u := by
        rw [show s1 0 = 0 from rfl, show s2 0 = 0 from rfl, m2]; rfl
      exact ⟨0, u, by decide, m1, fun i hi hw => by rw [e]; exact a1 i hi hw, by rw [e]; exact a2⟩
  · constructor
    · rintro ⟨s, m, a1, a2, a3, a4⟩
      rw [show kS 1 = 2 from rfl] at a1
      by_cases e : s = 0
      · subst e
        exact ⟨vl 1 m 0, vl 1 m 1, vl_lt _ _ _, vl_lt _ _ _, vl_mon (Or.inr rfl) (Nat.zero_le _), a3, a4⟩
      · exact absurd (one _ _ _ _ s (by omega) (fun h => by cases h) e (vl_lt _ _ _) (vl_lt _ _ _) (vl_lt _ _ _) a3 a4) n1
    · rintro ⟨u, v, hu, hv, a0, a1, a2⟩
      obtain ⟨m1, m2, m3⟩ := md1_t u hu v hv a0
      have e : tN (kC 1) (vl 1 (md1 u v) 0) (vl 1 (md1 u v) (s1 1)) (vl 1 (md1 u v) (s2 1)) = tN false u v v := by
        rw [show s1 1 = 1 from rfl, show s2 1 = 1 from rfl, m2, m3]; rfl
      exact ⟨0, md1 u v, by decide, m1, fun i hi hw => by rw [e]; exact a1 i hi hw, by rw [e]; exact a2⟩
  · constructor
    · rintro (⟨s, m, a1, a2, a3, a4⟩ | ⟨s, m, a1, a2, a3, a4⟩)
      · rw [show kS 2 = 3 from rfl] at a1
        by_cases e : s = 0
        · subst e
          exact ⟨vl 2 m 0, vl 2 m 1, vl 2 m 2, vl_lt _ _ _, vl_lt _ _ _, vl_lt _ _ _, vl_mon (Or.inr rfl) (by decide), vl_mon (Or.inr rfl) (by decide), Or.inr ⟨vl_mon (Or.inl (by decide)) (by decide), a3, a4⟩⟩
        · by_cases e1 : s = 1
          · subst e1
            refine absurd ⟨vl 2 m 1, vl 2 m 2, vl_lt _ _ _, vl_lt _ _ _, vl_mon (Or.inl (by decide)) (by decide), fun i hi hw => ?_, ?_⟩ n2
            · have o := hk i hi (Or.inl hw)
              rw [← tN_c o.2 (vl 2 m 0) _ _ (show K i - 1 < K i by omega)]
              exact a3 i hi hw
            · have o := hk p hp (Or.inr rfl)
              rw [← tN_c o.2 (vl 2 m 0) _ _ (show K p - 1 < K p by omega)]
              exact a4
          · exact absurd (one _ _ _ _ s a1 (fun _ => by omega) e (vl_lt _ _ _) (vl_lt _ _ _) (vl_lt _ _ _) a3 a4) n1
      · rw [show kS 3 = 3 from rfl] at a1
        by_cases e : s = 0
        · subst e
          exact ⟨vl 3 m 0, vl 3 m 1, vl 3 m 2, vl_lt _ _ _, vl_lt _ _ _, vl_lt _ _ _, vl_mon (Or.inr rfl) (by decide), vl_mon (Or.inr rfl) (by decide), Or.inl ⟨a3, a4⟩⟩
        · exact absurd (one _ _ _ _ s a1 (fun h => by cases h) e (vl_lt _ _ _) (vl_lt _ _ _) (vl_lt _ _ _) a3 a4) n1
    · rintro ⟨u, v, w, hu, hv, hw, b1, b2, ⟨a1, a2⟩ | ⟨b3, a1, a2⟩⟩
      · obtain ⟨m1, m2, m3, m4⟩ := md3_t u hu v hv w hw b1 b2
        have e : tN (kC 3) (vl 3 (md3 u v w) 0) (vl 3 (md3 u v w) (s1 3)) (vl 3 (md3 u v w) (s2 3)) = tN false u v w := by
          rw [show s1 3 = 1 from rfl, show s2 3 = 2 from rfl, m2, m3, m4]; rfl
        exact Or.inr ⟨0, md3 u v w, by decide, m1, fun i hi hw => by rw [e]; exact a1 i hi hw, by rw [e]; exact a2⟩
      · obtain ⟨m1, m2, m3, m4⟩ := md2_t u hu v hv w hw b1 b3
        have e : tN (kC 2) (vl 2 (md2 u v w) 0) (vl 2 (md2 u v w) (s1 2)) (vl 2 (md2 u v w) (s2 2)) = tN true u v w := by
          rw [show s1 2 = 1 from rfl, show s2 2 = 2 from rfl, m2, m3, m4]; rfl
        exact Or.inl ⟨0, md2 u v w, by decide, m1, fun i hi hw => by rw [e]; exact a1 i hi hw, by rw [e]; exact a2⟩
end PL
