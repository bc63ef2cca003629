/-! THE CLASS'S SETTLED STAGE -/
section SETTLE
variable {S : Nat} {kd lf rt : Nat → Nat}
theorem settle_T (ho : PTo S kd lf rt) {K D0 F F1 : Nat → Bool} {g : Nat} (hg : g < S) {Fam : (Nat → Bool) → Prop} (hF : ∀ T, Fam T → RSet S kd lf rt T ∧ ∀ p, p < S → K p = true → T p = true) (k4 : K 4 = true) (sat : ∀ p, 6 ≤ p → p < S → stS kd lf rt K p) (hs : setl S kd lf rt K D0 g) (hFF : ∀ p, p < S → (F p = true ↔ ∀ T, Fam T → T p = true)) (ht : ∀ p, 6 ≤ p → p < S → D0 p = true → (kd p = 9 ∨ kd p = 6) → K p = false → K (lf p) = false → ∃ T, Fam T ∧ T p = false) (hV : ∀ r, r < S → meV kd lf rt K F F1 r) : RSet S kd lf rt F1 ∧ (∀ p, p < S → K p = true → F1 p = true) ∧ F1 g = false := by
  obtain ⟨s1, s2, s3, s4, s5⟩ := hs
  have hS6 := ho.1
  have main : ∀ p, p < S → (K p = true → F1 p = true) ∧ (D0 p = true → K p = false → F1 p = false) := by
    intro p
    induction p using Nat.strongRecOn with
    | _ p ih =>
      intro hp
      by_cases h6 : p < 6
      · have := (hV p hp).1 h6
        exact ⟨fun h => by rw [this]; exact h, fun _ h => by rw [this]; exact h⟩
      · have h6' : 6 ≤ p := by omega
        obtain ⟨o1, o2, o3, o4, o5⟩ := ho.2.2.2.1 p h6' hp
        obtain ⟨v7, v8, v9⟩ := (hV p hp).2 h6'
        obtain ⟨t7, t8, t9⟩ := sat p h6' hp
        obtain ⟨d1, d2, d3⟩ := s5 p h6' hp
        obtain ⟨il1, il2⟩ := ih (lf p) o3 (by omega)
        obtain ⟨ir1, ir2⟩ := ih (rt p) o4 (by omega)
        have nt : ∀ x : Bool, ¬ x = true → x = false := fun x h => by cases x with | false => rfl | true => exact absurd rfl h
        by_cases cif : kd p = 9 ∨ kd p = 6
        · refine ⟨fun hk => (v9 cif).mpr ⟨(hFF p hp).mpr (fun T hT => (hF T hT).2 p hp hk), fun hl => ?_⟩, fun hD hk => ?_⟩
          · cases hr : K (rt p) with
            | true => exact ir1 hr
            | false =>
              cases hkl : K (lf p) with
              | true => have := (t9 cif).2 hk hkl; rw [hr] at this; cases this
              | false => have := il2 (d1 hk cif hr) hkl; rw [this] at hl; cases hl
          · apply nt
            intro h1
            obtain ⟨f1, f2⟩ := (v9 cif).mp h1
            cases hkl : K (lf p) with
            | true =>
              have hr : K (rt p) = false := nt _ (fun h => by have := (t9 cif).1 h; rw [hk] at this; cases this)
              have := ir2 (d3 hk hD cif hkl) hr
              rw [f2 (il1 hkl)] at this
              cases this
            | false =>
              obtain ⟨T, T1, T2⟩ := ht p h6' hp hD cif hk hkl
              have := (hFF p hp).mp f1 T T1
              rw [T2] at this
              cases this
        · have c78 : kd p = 7 ∨ kd p = 8 := by omega
          rcases c78 with c7 | c8
          · refine ⟨fun hk => (v7 c7).mpr ⟨il1 ((t7 c7).mp hk).1, ir1 ((t7 c7).mp hk).2⟩, fun hD hk => ?_⟩
            apply nt
            intro h1
            obtain ⟨f1, f2⟩ := (v7 c7).mp h1
            obtain ⟨e1, e2⟩ := d2 hk hD cif
            cases hkl : K (lf p) with
            | false => have := il2 e1 hkl; rw [this] at f1; cases f1
            | true =>
              cases hkr : K (rt p) with
              | false => have := ir2 e2 hkr; rw [this] at f2; cases f2
              | true => have := (t7 c7).mpr ⟨hkl, hkr⟩; rw [hk] at this; cases this
          · refine ⟨fun hk => (v8 c8).mpr ((s3 p h6' hp c8 hk).imp il1 ir1), fun hD hk => ?_⟩
            apply nt
            intro h1
            obtain ⟨e1, e2⟩ := d2 hk hD cif
            have hkl : K (lf p) = false := nt _ (fun h => by have := t8 c8 (Or.inl h); rw [hk] at this; cases this)
            have hkr : K (rt p) = false := nt _ (fun h => by have := t8 c8 (Or.inr h); rw [hk] at this; cases this)
            rcases (v8 c8).mp h1 with h | h
            · have := il2 e1 hkl; rw [this] at h; cases h
            · have := ir2 e2 hkr; rw [this] at h; cases h
  refine ⟨?_, fun p hp => (main p hp).1, (main g hg).2 s4 s2⟩
  obtain ⟨W, R, V, w0, hk, g1, g2⟩ := glue ho.to (fun T hT => (hF T hT).1) (fun k => K k = true) (fun k hk4 hK T hT => ⟨k, by omega, ho.2.2.1 k (by omega), (hF T hT).2 k (by omega) hK⟩)
  refine ⟨W, R, V, w0, hk, fun p => ?_⟩
  induction p using Nat.strongRecOn with
  | _ p ih =>
    intro hp
    by_cases h6 : p < 6
    · have ek := ho.2.2.1 p h6
      rw [(hV p hp).1 h6]
      by_cases h4 : p < 4
      · rw [g1 p hp (by omega), ek]
      · obtain e | e : p = 4 ∨ p = 5 := by omega
        · subst e; exact ⟨fun _ => kT_4 ho w0, fun _ => k4⟩
        · subst e; exact ⟨fun h => (by rw [s1] at h; cases h), fun h => absurd h (kT_5 ho w0)⟩
    · have h6' : 6 ≤ p := by omega
      obtain ⟨o1, o2, o3, o4, o5⟩ := ho.2.2.2.1 p h6' hp
      obtain ⟨v7, v8, v9⟩ := (hV p hp).2 h6'
      have il := ih (lf p) o3 (by omega)
      have ir := ih (rt p) o4 (by omega)
      obtain e | e | e | e : kd p = 6 ∨ kd p = 7 ∨ kd p = 8 ∨ kd p = 9 := by omega
      · rw [v9 (Or.inr e), (g2 p hp).2 e, hFF p hp, il, ir, o5 e]
        exact ⟨fun h => ⟨h.1, fun hl => kT_5 ho w0 (h.2 hl)⟩, fun h => ⟨h.1, fun hl => absurd hl h.2⟩⟩
      · rw [v7 e, kT_7 ho.to hp e, il, ir]
      · rw [v8 e, kT_8 ho.to hp e, il, ir]
      · rw [v9 (Or.inl e), (g2 p hp).1 e, hFF p hp, il, ir]
theorem Prv.cq {K K1 : Nat → Bool} {g : Nat} (h : cqS S kd lf rt K K1) (h1 : Prv S kd lf rt K1 g) : Prv S kd lf rt K g := fun W R V w hm hw => h1 W R V w hm (h.2 W R V w hm hw)
theorem SG.cq {b j : Nat} {ia : Nat → Nat → Int32} {K K1 : Nat → Bool} (h : SG b ia S kd lf rt j K) (e : cqS S kd lf rt K K1) : SG b ia S kd lf rt j K1 := by
  obtain ⟨X, x1, x2, x3⟩ := h
  refine ⟨X, x1, x2, fun u hu => ?_⟩
  rw [x3 u hu]
  exact ⟨fun h => e.2 Unit _ _ () (km1 u) h, fun h p hp hk => h p hp (e.1 p hp hk)⟩
theorem SG.ext {b j j1 : Nat} {ia ia1 : Nat → Nat → Int32} {K K1 : Nat → Bool} (h : SG b ia S kd lf rt j K) (e : ia1 (b + 46) j1 = ia (b + 46) j) (e2 : ∀ p, p < S → K1 p = K p) : SG b ia1 S kd lf rt j1 K1 := by
  obtain ⟨X, x1, x2, x3⟩ := h
  refine ⟨X, x1, e.trans x2, fun u hu => ?_⟩
  rw [x3 u hu]
  exact ⟨fun h p hp hk => h p hp (by rw [← e2 p hp]; exact hk), fun h p hp hk => h p hp (by rw [e2 p hp]; exact hk)⟩
theorem RSet.ext {T T1 : Nat → Bool} (h : RSet S kd lf rt T) (e : ∀ p, p < S → T1 p = T p) : RSet S kd lf rt T1 := by
  obtain ⟨W, R, V, w, h1, h2⟩ := h
  exact ⟨W, R, V, w, h1, fun p hp => by rw [e p hp]; exact h2 p hp⟩
theorem RSet.if_f (ho : PTo S kd lf rt) {T : Nat → Bool} (h : RSet S kd lf rt T) {p : Nat} (hp : p < S) (hl' : lf p < S) (hr' : rt p < S) (hif : kd p = 9 ∨ kd p = 6) (hl : T (lf p) = true) (hr : T (rt p) = false) : T p = false := by
  obtain ⟨W, R, V, w, h1, h2⟩ := h
  cases c : T p with
  | false => rfl
  | true =>
    have := (kT_if ho hp hif w).mp ((h2 p hp).mp c) w (h1.1 w) ((h2 _ hl').mp hl)
    rw [← h2 _ hr', hr] at this
    cases this
end SETTLE
