/-! WHAT REFUTES SAYS, IN MODELS -/
section REFUSE
variable {op lf rt : Nat → Nat} {P : Nat} {Γ : Nat → Bool}
theorem n3_k {k m : Nat} (hk : k < 4) : n3K (kC k) (vl k m 0) (vl k m (s1 k)) (vl k m (s2 k)) := by
  intro i hi
  rw [vl_bit k m 0 hi, vl_bit k m (s1 k) hi, vl_bit k m (s2 k) hi]
  rcases k4 hk with rfl | rfl | rfl | rfl
  · rw [show s1 0 = 0 from rfl, show s2 0 = 0 from rfl]
    exact ⟨fun h => ⟨h, h⟩, fun h => nomatch h⟩
  · rw [show s1 1 = 1 from rfl, show s2 1 = 1 from rfl]
    unfold knB
    rw [if_pos (by decide), if_pos (by decide)]
    simp only [decide_eq_true_iff]
    exact ⟨fun h => ⟨by omega, by omega⟩, fun _ h => h⟩
  · rw [show s1 2 = 1 from rfl, show s2 2 = 2 from rfl]
    unfold knB
    rw [if_pos (by decide), if_pos (by decide), if_pos (by decide)]
    simp only [decide_eq_true_iff]
    exact ⟨fun h => ⟨by omega, by omega⟩, fun _ h => by omega⟩
  · rw [show s1 3 = 1 from rfl, show s2 3 = 2 from rfl]
    unfold knB
    rw [if_neg (by decide), if_neg (by decide), if_neg (by decide)]
    refine ⟨fun h => ?_, fun h => nomatch h⟩
    have h4 : decide (kWay 3 m i = 4) = true := by
      revert h
      cases decide (kWay 3 m i = 4)
      · intro h; exact absurd h (by simp)
      · intro _; rfl
    rw [h4]
    exact ⟨rfl, rfl⟩
theorem vl0 : ∀ v, v < 16 → ∀ i, i < 4 → (vl 0 v 0).testBit i = v.testBit i := by decide +kernel
theorem e3_cmp {x : Fin 3 → Prop} {y : Bool × Bool × Bool} (h : e3K x y) (i : Fin 3) : x i ↔ cmp i.val y = true := by
  rcases f3 i with rfl | rfl | rfl
  · exact h.1
  · exact h.2.1
  · exact h.2.2
/-- a small model that refutes is a model -/
theorem kpF_no {k pg : Nat} (ho : RPo P op lf rt) (hk : k < 4) (hpg : pg < P) (h : kpF op lf rt P k Γ pg) : ∃ (W : Type) (R : W → W → Prop) (V : Nat → W → Prop) (w : W), isKM R V ∧ aT R V P op lf rt Γ w ∧ ¬ kT R V op lf rt pg w := by
  obtain ⟨s, m, hs, hm, h1, h2⟩ := h
  have hs3 : s < 3 := Nat.lt_of_lt_of_le hs (by rcases k4 hk with rfl | rfl | rfl | rfl <;> decide)
  refine ⟨Fin 3, r3K (kC k), v3K (vl k m 0) (vl k m (s1 k)) (vl k m (s2 k)), ⟨s, hs3⟩, km3 (n3_k hk), fun q hq hg => ?_, fun hn => ?_⟩
  · exact (e3_cmp (kT_3 ho (kC k) _ _ _ q hq) ⟨s, hs3⟩).mpr (h1 q hq hg)
  · have := (e3_cmp (kT_3 ho (kC k) _ _ _ pg hpg) ⟨s, hs3⟩).mp hn
    rw [show cmp s (qv (b3Lf (vl k m 0) (vl k m (s1 k)) (vl k m (s2 k))) (b3Bn (kC k)) op lf rt (false, false, false) pg) = false from h2] at this
    cases this
/-- where nothing single-staged makes all that is given hold, all follows -/
theorem plS_no {g : Nat} (ho : RPo P op lf rt) (h : ¬ plS op lf rt P Γ) : Prv P op lf rt Γ g := by
  refine no_single ho.to (fun v hv => ?_) g
  apply Classical.byContradiction
  intro hn
  have hall : ∀ p, p < P → Γ p = true → kT1 v op lf rt p := fun p hp hg => Classical.byContradiction fun hc => hn ⟨p, hp, hg, hc⟩
  have hv0 : ∀ i, i < 4 → (vl 0 v 0).testBit i = v.testBit i := fun i hi => vl0 v hv i hi
  refine h ⟨v, hv, fun p hp hg => ?_⟩
  have h3 := (kT_3 ho (kC 0) (vl 0 v 0) (vl 0 v (s1 0)) (vl 0 v (s2 0)) p hp).1
  refine h3.mp ?_
  -- stage 0 of the three says what the single stage says
  have key : ∀ p, p < P → (kT (r3K (kC 0)) (v3K (vl 0 v 0) (vl 0 v (s1 0)) (vl 0 v (s2 0))) op lf rt p 0 ↔ kT1 v op lf rt p) ∧ (kT (r3K (kC 0)) (v3K (vl 0 v 0) (vl 0 v (s1 0)) (vl 0 v (s2 0))) op lf rt p 1 ↔ kT1 v op lf rt p) ∧ (kT (r3K (kC 0)) (v3K (vl 0 v 0) (vl 0 v (s1 0)) (vl 0 v (s2 0))) op lf rt p 2 ↔ kT1 v op lf rt p) := by
    have e := qv_rel (lv := kLf (v3K (vl 0 v 0) (vl 0 v (s1 0)) (vl 0 v (s2 0)))) (bn := kBn (r3K (kC 0))) (d0 := fun _ => False) (lv' := kLf (W := Unit) (fun k _ => v.testBit k = true)) (bn' := kBn (W := Unit) (fun _ _ => True)) (d1 := fun _ => False) (fun (x : Fin 3 → Prop) (y : Unit → Prop) => (x 0 ↔ y ()) ∧ (x 1 ↔ y ()) ∧ (x 2 ↔ y ())) (fun k hk => ?_) (fun k x y x' y' h7 h10 hx hy => ?_) ho
    · exact e
    · unfold kLf
      by_cases k4 : k < 4
      · rw [if_pos k4, if_pos k4, if_pos k4, if_pos k4]
        have hb : b3Lf (vl 0 v 0) (vl 0 v (s1 0)) (vl 0 v (s2 0)) k = (v.testBit k, v.testBit k, v.testBit k) := by
          unfold b3Lf
          rw [if_pos k4, show s1 0 = 0 from rfl, show s2 0 = 0 from rfl, hv0 k k4]
        unfold v3K
        rw [hb]
        exact ⟨Iff.rfl, Iff.rfl, Iff.rfl⟩
      · rw [if_neg k4, if_neg k4, if_neg k4, if_neg k4]
        exact ⟨Iff.rfl, Iff.rfl, Iff.rfl⟩
    · obtain ⟨a1, a2, a3⟩ := hx
      obtain ⟨b1, b2, b3⟩ := hy
      obtain ⟨q1, q2, q3, q4, q5, q6⟩ := r3_1 (kC 0)
      have hu : ∀ Q : Unit → Prop, (∀ j, Q j) ↔ Q () := fun Q => ⟨fun h => h (), fun h _ => h⟩
      obtain rfl | rfl | rfl : k = 7 ∨ k = 8 ∨ k = 9 := by omega
      · have k7 : ∀ (i : Fin 3), kBn (r3K (kC 0)) 7 x y i = (x i ∧ y i) := fun _ => rfl
        have k7' : kBn (W := Unit) (fun _ _ => True) 7 x' y' () = (x' () ∧ y' ()) := rfl
        rw [k7, k7, k7, k7', a1, a2, a3, b1, b2, b3]
        exact ⟨Iff.rfl, Iff.rfl, Iff.rfl⟩
      · have k8 : ∀ (i : Fin 3), kBn (r3K (kC 0)) 8 x y i = (x i ∨ y i) := fun _ => rfl
        have k8' : kBn (W := Unit) (fun _ _ => True) 8 x' y' () = (x' () ∨ y' ()) := rfl
        rw [k8, k8, k8, k8', a1, a2, a3, b1, b2, b3]
        exact ⟨Iff.rfl, Iff.rfl, Iff.rfl⟩
      · have k9 : ∀ (i : Fin 3), kBn (r3K (kC 0)) 9 x y i = ∀ j, r3K (kC 0) i j → x j → y j := fun _ => rfl
        have k9' : kBn (W := Unit) (fun _ _ => True) 9 x' y' () = ∀ j : Unit, True → x' j → y' j := rfl
        have q3' : r3K (kC 0) 1 2 ↔ False := q3.trans ⟨(fun h => nomatch h), False.elim⟩
        simp only [k9, k9', all3, hu, r3_0, q1, q2, q3', q4, q5, q6, a1, a2, a3, b1, b2, b3, true_implies, false_implies, and_self, true_and, and_true]
  exact (key p hp).1.mpr (hall p hp hg)
end REFUSE
