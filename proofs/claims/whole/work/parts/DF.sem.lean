/-! THE REFERENCE'S SEARCH: what its steps mean -/
section SEM
variable {op lf rt : Nat → Nat} {P : Nat} {Γ : Nat → Bool}
theorem impS.gI {r x y : Nat} (ho : RPo P op lf rt) (hr : r < P) (hx : x < P) (hy : y < P) (h : impS op lf rt r x y) : gI op lf rt r x y := by
  intro α lv un bn gd d0 hg
  have g := fun z hz => hg.good ho (d0 := d0) z hz
  have q0 : qv lv bn op lf rt d0 0 = lv 4 := qv_0 ho (by omega)
  rcases h with ⟨rfl, rfl⟩ | ⟨h, rfl⟩ | ⟨_, _, _, _, e1, e2, e3⟩
  · rw [q0, (hg.2.2.2.2.2 _ (g r hr)).1]
  · rcases h with rfl | rfl | rfl
    · rw [q0, qv_1 ho hx, (hg.2.2.2.2.2 _ (g y hy)).2.1]
    · rw [q0, (hg.2.2.2.2.2 _ (g x hx)).2.2.1]
    · rw [q0, (hg.2.2.2.2.2 _ (g x hx)).2.2.2]
  · obtain ⟨o1, o2, o3, o4, o5, o6, o7, o8, o9⟩ := ho.two hr (by omega)
    rw [qv_op (by omega) o5 o7, e1, e2, e3]
theorem lsS.toR {p : Nat} {Γ1 : Nat → Bool} (ho : RPo P op lf rt) (hp : p < P) (h : lsS P op lf rt Γ p Γ1) : lsR P op lf rt Γ p Γ1 := by
  rcases h with h | h | h | ⟨c, h1, h2, c2, s, r, hs, hr, g1, g2, e⟩ | ⟨c, h1, h2, c2, s, r, hs, hr, g1, g2, e⟩
  · exact Or.inl h
  · exact Or.inr (Or.inl h)
  · exact Or.inr (Or.inr (Or.inl h))
  · have hl := (ho.to p hp).2 (by omega)
    have hl2 := (ho.to (lf p) (by omega)).2 (by omega)
    exact Or.inr (Or.inr (Or.inr (Or.inl ⟨c, h1, h2, c2, s, r, hs, hr, g1.gI ho hs (by omega) (by omega), g2.gI ho hr (by omega) hs, e⟩)))
  · have hl := (ho.to p hp).2 (by omega)
    have hl2 := (ho.to (lf p) (by omega)).2 (by omega)
    exact Or.inr (Or.inr (Or.inr (Or.inr ⟨c, h1, h2, c2, s, r, hs, hr, g1.gI ho hs (by omega) (by omega), g2.gI ho hr (by omega) (by omega), e⟩)))
theorem prv_7 {g : Nat} (ho : RPo P op lf rt) (hg : g < P) (h7 : op g = 7) : Prv P op lf rt Γ g ↔ Prv P op lf rt Γ (lf g) ∧ Prv P op lf rt Γ (rt g) :=
  ⟨fun h => ⟨fun W R V w hk hw => ((kT_7 ho.to hg h7 w).mp (h W R V w hk hw)).1, fun W R V w hk hw => ((kT_7 ho.to hg h7 w).mp (h W R V w hk hw)).2⟩, fun h W R V w hk hw => (kT_7 ho.to hg h7 w).mpr ⟨h.1 W R V w hk hw, h.2 W R V w hk hw⟩⟩
theorem aT_case {W : Type} {R : W → W → Prop} {V : Nat → W → Prop} {p x : Nat} (hp : p < P) (hx : x < P) (hg : Γ p = true) (w : W) : aT R V P op lf rt (upB (upB Γ p false) x true) w ↔ aT R V P op lf rt (upB Γ p false) w ∧ kT R V op lf rt x w := aT_add hx w
theorem prv_8 {g p : Nat} (ho : RPo P op lf rt) (hp : p < P) (hg : Γ p = true) (h8 : op p = 8) : Prv P op lf rt Γ g ↔ Prv P op lf rt (upB (upB Γ p false) (lf p) true) g ∧ Prv P op lf rt (upB (upB Γ p false) (rt p) true) g := by
  have hl := (ho.to p hp).2 (by omega)
  constructor
  · intro h
    constructor
    · intro W R V w hk hw
      have h1 := (aT_add (by omega) w).mp hw
      exact h W R V w hk ((aT_del hp hg w).mpr ⟨h1.1, (kT_8 ho.to hp h8 w).mpr (Or.inl h1.2)⟩)
    · intro W R V w hk hw
      have h1 := (aT_add (by omega) w).mp hw
      exact h W R V w hk ((aT_del hp hg w).mpr ⟨h1.1, (kT_8 ho.to hp h8 w).mpr (Or.inr h1.2)⟩)
  · rintro ⟨h1, h2⟩ W R V w hk hw
    obtain ⟨a1, a2⟩ := (aT_del hp hg w).mp hw
    rcases (kT_8 ho.to hp h8 w).mp a2 with h | h
    · exact h1 W R V w hk ((aT_add (by omega) w).mpr ⟨a1, h⟩)
    · exact h2 W R V w hk ((aT_add (by omega) w).mpr ⟨a1, h⟩)
/-- the first branch of a nest, at a stage -/
theorem aT_ns {W : Type} {R : W → W → Prop} {V : Nat → W → Prop} {p r : Nat} (hk : isKM R V) (ho : RPo P op lf rt) (hp : p < P) (hg : Γ p = true) (h9 : op p = 9) (h9' : op (lf p) = 9) (hr : r < P) (hi : impS op lf rt r (rt (lf p)) (rt p)) (w : W) : aT R V P op lf rt (nsA P op lf rt Γ p r) w ↔ aT R V P op lf rt Γ w ∧ kT R V op lf rt (lf (lf p)) w := by
  have ht := ho.to
  have hl := (ht p hp).2 (by omega)
  have hl2 := (ht (lf p) (by omega)).2 (by omega)
  have hG := hi.gI ho hr (by omega) (by omega)
  unfold nsA
  rw [aT_add hr, aT_add (by omega), aT_del hp hg w, hG.k hk w]
  constructor
  · rintro ⟨⟨a1, a2⟩, a3⟩
    refine ⟨⟨a1, (kT_9 ht hp h9 w).mpr fun w' hR hx => ?_⟩, a2⟩
    exact a3 w' hR ((kT_9 ht (by omega) h9' w').mp hx w' (hk.1 w') (kT_up hk ht _ (by omega) _ _ hR a2))
  · rintro ⟨⟨a1, a2⟩, a3⟩
    refine ⟨⟨a1, a3⟩, fun w' hR hy => (kT_9 ht hp h9 w).mp a2 w' hR ((kT_9 ht (by omega) h9' w').mpr fun w'' hR2 _ => kT_up hk ht _ (by omega) _ _ hR2 hy)⟩
theorem prv_ns {p r : Nat} (ho : RPo P op lf rt) (hp : p < P) (hg : Γ p = true) (h9 : op p = 9) (h9' : op (lf p) = 9) (hr : r < P) (hi : impS op lf rt r (rt (lf p)) (rt p)) : Prv P op lf rt (nsA P op lf rt Γ p r) (rt (lf p)) ↔ Prv P op lf rt Γ (lf p) := by
  have ht := ho.to
  have hl := (ht p hp).2 (by omega)
  have hl2 := (ht (lf p) (by omega)).2 (by omega)
  constructor
  · intro h W R V w hk hw
    exact (kT_9 ht (by omega) h9' w).mpr fun w' hR hx => h W R V w' hk ((aT_ns hk ho hp hg h9 h9' hr hi w').mpr ⟨fun q hq hq2 => kT_up hk ht q hq _ _ hR (hw q hq hq2), hx⟩)
  · intro h W R V w hk hw
    obtain ⟨a1, a2⟩ := (aT_ns hk ho hp hg h9 h9' hr hi w).mp hw
    exact (kT_9 ht (by omega) h9' w).mp (h W R V w hk a1) w (hk.1 w) a2
/-- the second branch of a nest whose left follows -/
theorem prv_n2 {p g : Nat} (ho : RPo P op lf rt) (hp : p < P) (hg : Γ p = true) (h9 : op p = 9) (h : Prv P op lf rt Γ (lf p)) : Prv P op lf rt Γ g ↔ Prv P op lf rt (upB (upB Γ p false) (rt p) true) g := by
  have ht := ho.to
  have hl := (ht p hp).2 (by omega)
  constructor
  · intro h1 W R V w hk hw
    obtain ⟨a1, a2⟩ := (aT_add (by omega) w).mp hw
    exact h1 W R V w hk ((aT_del hp hg w).mpr ⟨a1, (kT_9 ht hp h9 w).mpr fun w' hR _ => kT_up hk ht _ (by omega) _ _ hR a2⟩)
  · intro h1 W R V w hk hw
    have a := (aT_del hp hg w).mp hw
    exact h1 W R V w hk ((aT_add (by omega) w).mpr ⟨a.1, (kT_9 ht hp h9 w).mp a.2 w (hk.1 w) (h W R V w hk hw)⟩)
/-- nothing is left to try: it does not follow -/
theorem prv_none {g : Nat} (ho : RPo P op lf rt) (h2 : 2 ≤ P) (hg : g < P) (hs : setd P op lf rt Γ g) (hG : inP P Γ) (h7 : op g ≠ 7) (h8 : op g = 8 → ¬ Prv P op lf rt Γ (lf g) ∧ ¬ Prv P op lf rt Γ (rt g)) (hor : ∀ p, 2 ≤ p → p < P → ¬ nxO op lf Γ 8 p) (hn : ∀ p, p < P → nxO op lf Γ 9 p → ¬ Prv P op lf rt Γ (lf p)) : ¬ Prv P op lf rt Γ g := by
  have ht := ho.to
  obtain ⟨s1, ⟨c9, c0, c1, cg, cz⟩, s3, s4⟩ := hs
  have leaf : ∀ p q, p < P → q < P → op p < 4 → op p = op q → p = q := fun p q hp hq h e => by
    rcases ho.1 p hp with a | a | a
    · omega
    · rcases ho.1 q hq with c | c | c
      · omega
      · exact ho.2 p q hp hq e (by omega) (by omega)
      · omega
    · omega
  have tf : ∀ p, p < P → Γ p = true → op p < 4 ∨ op p = 9 := fun p hp hp2 => by
    have p0 : p ≠ 0 := fun e => by rw [e, cz] at hp2; cases hp2
    have p1 : p ≠ 1 := fun e => by rw [e, c1] at hp2; cases hp2
    rcases ho.1 p hp with a | a | a
    · omega
    · exact Or.inl a.2.1
    · rcases s1 p hp hp2 with c | c | c
      · omega
      · exact absurd ⟨c.1, hp2, fun h => absurd h (by decide)⟩ (hor p (by omega) hp)
      · exact Or.inr c.1
  let Fam : (Nat → Bool) → Prop := fun T => RSet P op lf rt T ∧ ∀ p, p < P → Γ p = true → T p = true
  have mk : ∀ x, x < P → ¬ Prv P op lf rt Γ x → ∃ T, Fam T ∧ T x = false := fun x hx hn => by
    have : ∃ (W : Type) (R : W → W → Prop) (V : Nat → W → Prop) (w : W), isKM R V ∧ (∀ p, p < P → Γ p = true → kT R V op lf rt p w) ∧ ¬ kT R V op lf rt x w := Classical.byContradiction fun hc => hn fun W R V w hk hw => Classical.byContradiction fun hx => hc ⟨W, R, V, w, hk, hw, hx⟩
    obtain ⟨W, R, V, w, hk, hw, hx⟩ := this
    refine ⟨fun q => @decide (kT R V op lf rt q w) (Classical.propDecidable _), ⟨⟨W, R, V, w, hk, fun p _ => @decide_eq_true_iff _ (Classical.propDecidable _)⟩, fun p hp hp2 => (@decide_eq_true_iff _ (Classical.propDecidable _)).mpr (hw p hp hp2)⟩, (@decide_eq_false_iff_not _ (Classical.propDecidable _)).mpr hx⟩
  obtain ⟨W, R, V, w0, hk, k1, k2⟩ := glue ht (Fam := Fam) (fun T h => h.1) (fun k => ∃ p, p < P ∧ op p = k ∧ Γ p = true) (fun k _ ⟨p, p1, p2, p3⟩ T hT => ⟨p, p1, p2, hT.2 p p1 p3⟩)
  -- what the first stage has, all have
  have up : ∀ p, p < P → kT R V op lf rt p w0 → ∀ T, Fam T → T p = true := by
    intro p
    induction p using Nat.strongRecOn with
    | _ p ih =>
      intro hp h T hT
      obtain ⟨W', R', V', w', hk', hw'⟩ := hT.1
      rcases ho.1 p hp with a | a | a
      · by_cases e : p = 0
        · subst e; exact (hw' 0 hp).mpr (ho.k0 hp R' V' w')
        · have e1 : p = 1 := by omega
          subst e1
          exact absurd h (ho.k1 hp R V w0)
      · obtain ⟨q, q1, q2, q3⟩ := (k1 p hp a.2.1).mp h
        rw [leaf p q hp q1 a.2.1 q2.symm]
        exact hT.2 q q1 q3
      · obtain ⟨_, a7, a10, a2, a3, a4, a5, _⟩ := a
        obtain e | e | e : op p = 7 ∨ op p = 8 ∨ op p = 9 := by omega
        · have h := (kT_7 ht hp e w0).mp h
          exact (hw' p hp).mpr ((kT_7 ht hp e w').mpr ⟨(hw' _ (by omega)).mp (ih _ a3 (by omega) h.1 T hT), (hw' _ (by omega)).mp (ih _ a5 (by omega) h.2 T hT)⟩)
        · refine (hw' p hp).mpr ((kT_8 ht hp e w').mpr ?_)
          rcases (kT_8 ht hp e w0).mp h with h | h
          · exact Or.inl ((hw' _ (by omega)).mp (ih _ a3 (by omega) h T hT))
          · exact Or.inr ((hw' _ (by omega)).mp (ih _ a5 (by omega) h T hT))
        · exact (((k2 p hp).1 e).mp h).1 T hT
  have all : aT R V P op lf rt Γ w0 := by
    intro p hp hp2
    rcases tf p hp hp2 with e | e
    · exact (k1 p hp e).mpr ⟨p, hp, rfl, hp2⟩
    · have hl := (ht p hp).2 (by omega)
      refine ((k2 p hp).1 e).mpr ⟨fun T hT => hT.2 p hp hp2, fun hx => ?_⟩
      obtain ⟨o1, o2, o3, o4, o5, o6, o7, o8, o9⟩ := ho.two hp (by omega)
      rcases s1 p hp hp2 with c | c | ⟨_, d1, d2, d3, d4⟩
      · omega
      · omega
      · by_cases l9 : op (lf p) = 9
        · obtain ⟨T, t1, t2⟩ := mk (lf p) (by omega) (hn p hp ⟨e, hp2, fun _ => l9⟩)
          rw [up _ (by omega) hx T t1] at t2
          cases t2
        · have l4 : op (lf p) < 4 := by
            rcases ho.1 (lf p) (by omega) with a | a | a
            · omega
            · exact a.2.1
            · omega
          obtain ⟨q, q1, q2, q3⟩ := (k1 (lf p) (by omega) l4).mp hx
          rw [leaf (lf p) q (by omega) q1 l4 q2.symm, q3] at d1
          cases d1
  intro hP
  have h := hP W R V w0 hk all
  rcases ho.1 g hg with a | a | a
  · have e1 : g = 1 := by omega
    subst e1
    exact ho.k1 hg R V w0 h
  · obtain ⟨q, q1, q2, q3⟩ := (k1 g hg a.2.1).mp h
    rw [leaf g q hg q1 a.2.1 q2.symm, q3] at cg
    cases cg
  · obtain ⟨_, a7, a10, a2, a3, a4, a5, _⟩ := a
    have e8 : op g = 8 := by omega
    obtain ⟨n1, n2⟩ := h8 e8
    rcases (kT_8 ht hg e8 w0).mp h with h | h
    · obtain ⟨T, t1, t2⟩ := mk _ (by omega) n1
      rw [up _ (by omega) h T t1] at t2
      cases t2
    · obtain ⟨T, t1, t2⟩ := mk _ (by omega) n2
      rw [up _ (by omega) h T t1] at t2
      cases t2
end SEM
