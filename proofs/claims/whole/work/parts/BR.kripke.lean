/-! STAGES OF ANY MODEL: what a table's parts say there -/
/-- a table: each part is a leaf or made of earlier ones -/
def To (S : Nat) (kd lf rt : Nat → Nat) : Prop := ∀ p, p < S → kd p < 10 ∧ (6 ≤ kd p → lf p < p ∧ rt p < p)
def isKM {W : Type} (R : W → W → Prop) (V : Nat → W → Prop) : Prop := (∀ w, R w w) ∧ (∀ w w' w'', R w w' → R w' w'' → R w w'') ∧ ∀ k w w', R w w' → V k w → V k w'
def kLf {W : Type} (V : Nat → W → Prop) (k : Nat) (w : W) : Prop := if k < 4 then V k w else k = 4
def kBn {W : Type} (R : W → W → Prop) (k : Nat) (x y : W → Prop) (w : W) : Prop := if k = 7 then x w ∧ y w else if k = 8 then x w ∨ y w else if k = 9 then ∀ w', R w w' → x w' → y w' else ∀ w', R w w' → ¬ x w'
def kT {W : Type} (R : W → W → Prop) (V : Nat → W → Prop) (kd lf rt : Nat → Nat) (p : Nat) (w : W) : Prop := qv (kLf V) (kBn R) kd lf rt (fun _ => False) p w
section KR
variable {W : Type} {R : W → W → Prop} {V : Nat → W → Prop} {kd lf rt : Nat → Nat} {S : Nat}
theorem kT_lf {p : Nat} (h : kd p < 6) (w : W) : kT R V kd lf rt p w ↔ if kd p < 4 then V (kd p) w else kd p = 4 := by
  unfold kT
  rw [qv_lf h]
  rfl
theorem kT_op (ht : To S kd lf rt) {p : Nat} (hp : p < S) (h : 6 ≤ kd p) (w : W) : kT R V kd lf rt p w ↔ kBn R (kd p) (kT R V kd lf rt (lf p)) (kT R V kd lf rt (rt p)) w := by
  unfold kT
  rw [qv_op h ((ht p hp).2 h).1 ((ht p hp).2 h).2]
theorem kT_7 (ht : To S kd lf rt) {p : Nat} (hp : p < S) (h : kd p = 7) (w : W) : kT R V kd lf rt p w ↔ kT R V kd lf rt (lf p) w ∧ kT R V kd lf rt (rt p) w := by
  rw [kT_op ht hp (by omega), h]
  exact Iff.rfl
theorem kT_8 (ht : To S kd lf rt) {p : Nat} (hp : p < S) (h : kd p = 8) (w : W) : kT R V kd lf rt p w ↔ kT R V kd lf rt (lf p) w ∨ kT R V kd lf rt (rt p) w := by
  rw [kT_op ht hp (by omega), h]
  exact Iff.rfl
theorem kT_9 (ht : To S kd lf rt) {p : Nat} (hp : p < S) (h : kd p = 9) (w : W) : kT R V kd lf rt p w ↔ ∀ w', R w w' → kT R V kd lf rt (lf p) w' → kT R V kd lf rt (rt p) w' := by
  rw [kT_op ht hp (by omega), h]
  exact Iff.rfl
theorem kT_6 (ht : To S kd lf rt) {p : Nat} (hp : p < S) (h : kd p = 6) (w : W) : kT R V kd lf rt p w ↔ ∀ w', R w w' → ¬ kT R V kd lf rt (lf p) w' := by
  rw [kT_op ht hp (by omega), h]
  exact Iff.rfl
theorem kT_up (hk : isKM R V) (ht : To S kd lf rt) : ∀ p, p < S → ∀ w w', R w w' → kT R V kd lf rt p w → kT R V kd lf rt p w' := by
  intro p
  induction p using Nat.strongRecOn with
  | _ p ih =>
    intro hp w w' hr h
    by_cases h6 : kd p < 6
    · rw [kT_lf h6] at h ⊢
      by_cases h4 : kd p < 4
      · rw [if_pos h4] at h ⊢; exact hk.2.2 _ _ _ hr h
      · rw [if_neg h4] at h ⊢; exact h
    · have h10 := (ht p hp).1
      obtain ⟨hl, hrr⟩ := (ht p hp).2 (by omega)
      obtain e | e | e | e : kd p = 6 ∨ kd p = 7 ∨ kd p = 8 ∨ kd p = 9 := by omega
      · rw [kT_6 ht hp e] at h ⊢
        exact fun v hv => h v (hk.2.1 _ _ _ hr hv)
      · rw [kT_7 ht hp e] at h ⊢
        exact ⟨ih _ hl (by omega) _ _ hr h.1, ih _ hrr (by omega) _ _ hr h.2⟩
      · rw [kT_8 ht hp e] at h ⊢
        exact h.imp (ih _ hl (by omega) _ _ hr) (ih _ hrr (by omega) _ _ hr)
      · rw [kT_9 ht hp e] at h ⊢
        exact fun v hv => h v (hk.2.1 _ _ _ hr hv)
end KR
/-- what holds at a stage of some model -/
def RSet (S : Nat) (kd lf rt : Nat → Nat) (T : Nat → Bool) : Prop := ∃ (W : Type) (R : W → W → Prop) (V : Nat → W → Prop) (w : W), isKM R V ∧ ∀ p, p < S → (T p = true ↔ kT R V kd lf rt p w)
/-- a goal follows from some parts -/
def Prv (S : Nat) (kd lf rt : Nat → Nat) (K : Nat → Bool) (g : Nat) : Prop := ∀ (W : Type) (R : W → W → Prop) (V : Nat → W → Prop) (w : W), isKM R V → (∀ p, p < S → K p = true → kT R V kd lf rt p w) → kT R V kd lf rt g w
section GLUE
variable {kd lf rt : Nat → Nat} {S : Nat}
/-- a new first stage before some stages -/
theorem glue (ht : To S kd lf rt) {Fam : (Nat → Bool) → Prop} (hF : ∀ T, Fam T → RSet S kd lf rt T) (A : Nat → Prop) (hA : ∀ k, k < 4 → A k → ∀ T, Fam T → ∃ p, p < S ∧ kd p = k ∧ T p = true) : ∃ (W : Type) (R : W → W → Prop) (V : Nat → W → Prop) (w0 : W), isKM R V ∧ (∀ p, p < S → kd p < 4 → (kT R V kd lf rt p w0 ↔ A (kd p))) ∧ ∀ p, p < S → (kd p = 9 → (kT R V kd lf rt p w0 ↔ (∀ T, Fam T → T p = true) ∧ (kT R V kd lf rt (lf p) w0 → kT R V kd lf rt (rt p) w0))) ∧ (kd p = 6 → (kT R V kd lf rt p w0 ↔ (∀ T, Fam T → T p = true) ∧ ¬ kT R V kd lf rt (lf p) w0)) := by
  -- the models of the family, chosen
  have hch : ∀ t : {T : Nat → Bool // Fam T}, RSet S kd lf rt t.1 := fun t => hF t.1 t.2
  let Wt : {T : Nat → Bool // Fam T} → Type := fun t => Classical.choose (hch t)
  have h1 : ∀ t, ∃ (R : Wt t → Wt t → Prop) (V : Nat → Wt t → Prop) (w : Wt t), isKM R V ∧ ∀ p, p < S → (t.1 p = true ↔ kT R V kd lf rt p w) := fun t => Classical.choose_spec (hch t)
  let Rt : ∀ t, Wt t → Wt t → Prop := fun t => Classical.choose (h1 t)
  have h2 : ∀ t, ∃ (V : Nat → Wt t → Prop) (w : Wt t), isKM (Rt t) V ∧ ∀ p, p < S → (t.1 p = true ↔ kT (Rt t) V kd lf rt p w) := fun t => Classical.choose_spec (h1 t)
  let Vt : ∀ t, Nat → Wt t → Prop := fun t => Classical.choose (h2 t)
  have h3 : ∀ t, ∃ (w : Wt t), isKM (Rt t) (Vt t) ∧ ∀ p, p < S → (t.1 p = true ↔ kT (Rt t) (Vt t) kd lf rt p w) := fun t => Classical.choose_spec (h2 t)
  let wt : ∀ t, Wt t := fun t => Classical.choose (h3 t)
  have h4 : ∀ t, isKM (Rt t) (Vt t) ∧ ∀ p, p < S → (t.1 p = true ↔ kT (Rt t) (Vt t) kd lf rt p (wt t)) := fun t => Classical.choose_spec (h3 t)
  -- all together, and a stage before them
  let W : Type := Option (Sigma Wt)
  let R : W → W → Prop := fun x y => match x, y with
    | none, none => True
    | none, some ⟨t, w⟩ => Rt t (wt t) w
    | some _, none => False
    | some ⟨t, w⟩, some ⟨t', w'⟩ => ∃ e : t = t', Rt t' (e ▸ w) w'
  let V : Nat → W → Prop := fun k x => match x with
    | none => k < 4 ∧ A k
    | some ⟨t, w⟩ => Vt t k w
  have hR1 : ∀ t (w w' : Wt t), R (some ⟨t, w⟩) (some ⟨t, w'⟩) ↔ Rt t w w' := fun t w w' => ⟨fun ⟨_, h⟩ => h, fun h => ⟨rfl, h⟩⟩
  have hR2 : ∀ t (w : Wt t) (x : W), R (some ⟨t, w⟩) x → ∃ w' : Wt t, x = some ⟨t, w'⟩ ∧ Rt t w w' := by
    intro t w x h
    cases x with
    | none => exact absurd h id
    | some y =>
      obtain ⟨t', w'⟩ := y
      obtain ⟨e, h⟩ := h
      subst e
      exact ⟨w', rfl, h⟩
  have hsub : ∀ p, p < S → ∀ t (w : Wt t), kT R V kd lf rt p (some ⟨t, w⟩) ↔ kT (Rt t) (Vt t) kd lf rt p w := by
    intro p
    induction p using Nat.strongRecOn with
    | _ p ih =>
      intro hp t w
      by_cases h6 : kd p < 6
      · rw [kT_lf h6, kT_lf h6]
      · have h10 := (ht p hp).1
        obtain ⟨hl, hrr⟩ := (ht p hp).2 (by omega)
        have il := ih _ hl (by omega) t
        have ir := ih _ hrr (by omega) t
        obtain e | e | e | e : kd p = 6 ∨ kd p = 7 ∨ kd p = 8 ∨ kd p = 9 := by omega
        · rw [kT_6 ht hp e, kT_6 ht hp e]
          constructor
          · intro h w' hw hx
            exact h (some ⟨t, w'⟩) ((hR1 t w w').mpr hw) ((il w').mpr hx)
          · intro h x hx hk
            obtain ⟨w', rfl, hw⟩ := hR2 t w x hx
            exact h w' hw ((il w').mp hk)
        · rw [kT_7 ht hp e, kT_7 ht hp e, il w, ir w]
        · rw [kT_8 ht hp e, kT_8 ht hp e, il w, ir w]
        · rw [kT_9 ht hp e, kT_9 ht hp e]
          constructor
          · intro h w' hw hx
            exact (ir w').mp (h (some ⟨t, w'⟩) ((hR1 t w w').mpr hw) ((il w').mpr hx))
          · intro h x hx hk
            obtain ⟨w', rfl, hw⟩ := hR2 t w x hx
            exact (ir w').mpr (h w' hw ((il w').mp hk))
  have hkm : isKM R V := by
    refine ⟨fun x => ?_, fun x y z hxy hyz => ?_, fun k x y hxy hx => ?_⟩
    · cases x with
      | none => exact trivial
      | some y => obtain ⟨t, w⟩ := y; exact (hR1 t w w).mpr ((h4 t).1.1 w)
    · cases x with
      | none =>
        cases y with
        | none => exact hyz
        | some y =>
          obtain ⟨t, w⟩ := y
          obtain ⟨w', rfl, hw⟩ := hR2 t w z hyz
          exact (h4 t).1.2.1 _ _ _ hxy hw
      | some x =>
        obtain ⟨t, w⟩ := x
        obtain ⟨w', rfl, hw⟩ := hR2 t w y hxy
        obtain ⟨w'', rfl, hw'⟩ := hR2 t w' z hyz
        exact (hR1 t w w'').mpr ((h4 t).1.2.1 _ _ _ hw hw')
    · cases x with
      | none =>
        cases y with
        | none => exact hx
        | some y =>
          obtain ⟨t, w⟩ := y
          obtain ⟨p, p1, p2, p3⟩ := hA k hx.1 hx.2 t.1 t.2
          have h := ((h4 t).2 p p1).mp p3
          rw [kT_lf (by omega), if_pos (by omega), p2] at h
          exact (h4 t).1.2.2 _ _ _ hxy h
      | some x =>
        obtain ⟨t, w⟩ := x
        obtain ⟨w', rfl, hw⟩ := hR2 t w y hxy
        exact (h4 t).1.2.2 _ _ _ hw hx
  have hroot : ∀ p, p < S → ((∀ x, R none x → x ≠ none → kT R V kd lf rt p x) ↔ ∀ T, Fam T → T p = true) := by
    intro p hp
    constructor
    · intro h T hT
      exact ((h4 ⟨T, hT⟩).2 p hp).mpr ((hsub p hp ⟨T, hT⟩ _).mp (h (some ⟨⟨T, hT⟩, wt ⟨T, hT⟩⟩) ((h4 ⟨T, hT⟩).1.1 _) (by simp)))
    · intro h x hx hn
      cases x with
      | none => exact absurd rfl hn
      | some y =>
        obtain ⟨t, w⟩ := y
        exact (hsub p hp t w).mpr (kT_up (h4 t).1 ht p hp _ _ hx (((h4 t).2 p hp).mp (h t.1 t.2)))
  refine ⟨W, R, V, none, hkm, fun p hp h => ?_, fun p hp => ⟨fun e => ?_, fun e => ?_⟩⟩
  · rw [kT_lf (by omega), if_pos h]
    exact ⟨fun h => h.2, fun ha => ⟨h, ha⟩⟩
  · constructor
    · intro h
      refine ⟨(hroot p hp).mp (fun x hx _ => kT_up hkm ht p hp _ _ hx h), ?_⟩
      rw [kT_9 ht hp e] at h
      exact h none trivial
    · rintro ⟨h, h'⟩
      rw [kT_9 ht hp e]
      intro x hx hl
      by_cases hn : x = none
      · subst hn; exact h' hl
      · have := (hroot p hp).mpr h x hx hn
        rw [kT_9 ht hp e] at this
        exact this x (hkm.1 x) hl
  · constructor
    · intro h
      refine ⟨(hroot p hp).mp (fun x hx _ => kT_up hkm ht p hp _ _ hx h), ?_⟩
      rw [kT_6 ht hp e] at h
      exact h none trivial
    · rintro ⟨h, h'⟩
      rw [kT_6 ht hp e]
      intro x hx hl
      by_cases hn : x = none
      · subst hn; exact h' hl
      · have := (hroot p hp).mpr h x hx hn
        rw [kT_6 ht hp e] at this
        exact this x (hkm.1 x) hl
end GLUE
