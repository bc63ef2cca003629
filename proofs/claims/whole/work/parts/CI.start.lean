/-! THE START: what the constructors lay is the first state; the law answers 1 -/
section START
variable {b : Nat} {f : mmF}
def s00 : mSt := (1, (fun i => if i = 0 then 1 else 0), (fun _ => 0), (fun _ => 0), (fun _ _ => 0))
def o00 : mO := (s00, 0, (fun _ => s00), none, 0, (fun _ => 0))
theorem w00 : WO o00 := by
  have h : WSt s00 := by
    refine ⟨⟨by decide, by decide, fun i hi => ?_⟩, fun p hp h0 => ?_⟩
    · have hi : i < 1 := hi
      obtain rfl : i = 0 := by omega
      exact ⟨by decide, by decide⟩
    · exact absurd h0 (by show ¬ 0 < 0; decide)
  exact ⟨h, Nat.zero_le _, fun _ _ => h, (fun τ hτ => by cases hτ), Nat.zero_le _, fun i hi => absurd hi (Nat.not_lt_zero _)⟩
theorem c00 : CR b (ia0 b) (fi0 b) (qa0 b) f o00 := by
  refine ⟨⟨⟨?_, fun i hi => ?_⟩, fun p hp => Or.inl ⟨rfl, ?_⟩⟩, ⟨fun j => b + (55 + 7 * j), fun j hj => ⟨?_, j, hj, rfl⟩, fun i j _ _ e => ?_, fun q hq => absurd hq (Nat.not_lt_zero _)⟩, ?_, ⟨?_, fun τ hτ => by cases hτ⟩, ⟨?_, fun i hi => absurd hi (Nat.not_lt_zero _)⟩, ⟨0, Nat.zero_le _, fi0_z (by omega), fun i hi => absurd hi (Nat.not_lt_zero _), fun p _ hb => by rw [ia0_z (by omega)] at hb; exact absurd hb (by simp [sB])⟩, trivial, trivial, fun i hi => ?_, fun i hi => ?_⟩
  · rw [fi0_1 (Or.inl rfl)]; rfl
  · have hi : i < 1 := hi
    obtain rfl : i = 0 := by omega
    rw [show b + 1 + 1 = b + 2 from rfl, show b + 1 + 2 = b + 3 from rfl, ia0_l (Or.inl rfl), ia0_z (by omega)]
    exact ⟨rfl, rfl⟩
  · rw [show b + 1 + 3 = b + 4 from rfl, qa0_z (by omega)]
  · rw [qa0_8]; exact if_pos hj
  · have e : b + (55 + 7 * i) = b + (55 + 7 * j) := e
    omega
  · exact fi0_z (k := 0) (by omega)
  · exact fi0_z (k := 0) (by omega)
  · exact fi0_z (by omega)
  · rw [ia0_23]; exact if_pos hi
  · rw [ia0_29]; exact if_pos hi
theorem m00 : MR b (ia0 b) (fi0 b) o00 := by
  refine ⟨⟨⟨?_, fun i hi => ?_⟩, fun p hp => ⟨?_, fun j hj => absurd hj (Nat.not_lt_zero _)⟩⟩, fun q hq => absurd hq (Nat.not_lt_zero _), ?_, ⟨?_, fun τ hτ => by cases hτ⟩, ?_, fun i hi => absurd hi (Nat.not_lt_zero _)⟩
  · rw [ia0_84]; rfl
  · have hi : i < 1 := hi
    obtain rfl : i = 0 := by omega
    rw [ia0_84]
    exact ⟨rfl, rfl⟩
  · rw [ia0_84]
    exact if_neg (by omega)
  · exact fi0_z (by omega)
  · exact fi0_z (by omega)
  · exact fi0_z (by omega)
/-- the law answers 1, given the reference's search -/
theorem law_1 (hR : ∀ (b : Nat) (f : mmF) (Ω : mO), WO Ω → refF b f Ω) (kn s0 b0 L : Nat) (xs : Nat → Int32) (f : mmF) (hL : L ≤ 2560) (hs : s0 < b0) (hk : kn < b0) (hF : f s0 = some (.inl (9, L, .inl xs))) (hK : f kn = some (.inl (9, 4, .inl knw))) (hfr : fresh f b0) : ∃ res : Int32 × mmF × Nat, f_L_law kn s0 f b0 = some res ∧ res.1 = 1 := by
  obtain ⟨g, e1, e2⟩ := i_all (f := f) (b := b0)
  obtain ⟨q, hq⟩ := FU_1000
  obtain ⟨res, e3, e4⟩ := law_18 (b := b0) (kn := kn) hs hL (hR b0) 513 0 FU (ia0 b0) (fi0 b0) fl0 (qa0 b0) f o00 (b0 + 102) 102 122720 (by omega) (by omega) hF ⟨hk, hK⟩ (fun a ha => hfr a (by omega)) (Nat.le_refl _) (by omega) (by omega) c00 m00 w00
  refine ⟨res, ?_, e4⟩
  unfold f_L_law
  refine (if_neg (by decide)).trans ?_
  refine (bind_eq rfl _).trans ?_
  refine (if_neg (by decide)).trans ?_
  refine (bind_eq e1 _).trans ?_
  refine (if_neg (by decide)).trans ?_
  refine (bind_eq rfl _).trans ?_
  refine (if_neg (by decide)).trans ?_
  refine (bind_eq e2 _).trans ?_
  exact e3
end START
