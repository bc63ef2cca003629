/-! LAST STAGES; single stages; claims at stages of any model -/
theorem qv_relT {α β : Type} {lv : Nat → α} {bn : Nat → α → α → α} {d0 : α} {lv' : Nat → β} {bn' : Nat → β → β → β} {d1 : β} {kd lf rt : Nat → Nat} {S : Nat} (R : α → β → Prop) (hl : ∀ k, k < 6 → R (lv k) (lv' k)) (hb : ∀ k x y x' y', 6 ≤ k → k < 10 → R x x' → R y y' → R (bn k x y) (bn' k x' y')) (ht : To S kd lf rt) : ∀ p, p < S → R (qv lv bn kd lf rt d0 p) (qv lv' bn' kd lf rt d1 p) := by
  intro p
  induction p using Nat.strongRecOn with
  | _ p ih =>
    intro hp
    by_cases h6 : kd p < 6
    · rw [qv_lf h6, qv_lf h6]; exact hl _ h6
    · obtain ⟨o1, o2⟩ := (ht p hp).2 (by omega)
      rw [qv_op (by omega) o1 o2, qv_op (by omega) o1 o2]
      exact hb _ _ _ _ _ (by omega) (ht p hp).1 (ih _ o1 (by omega)) (ih _ o2 (by omega))
theorem pv_qv {α : Type} {lv : Nat → α} {un : α → α} {bn bn' : Nat → α → α → α} {d0 : α} {S : Nat} {kd lf rt : Nat → Nat} (ho : PTo S kd lf rt) (h6 : ∀ x y, bn' 6 x y = un x) (h7 : ∀ k x y, 7 ≤ k → bn' k x y = bn k x y) : ∀ p, p < S → pv lv un bn kd lf rt d0 p = qv lv bn' kd lf rt d0 p := by
  intro p
  induction p using Nat.strongRecOn with
  | _ p ih =>
    intro hp
    by_cases c6 : p < 6
    · have e := ho.2.2.1 p c6
      rw [pv_lf c6, qv_lf (by omega), e]
    · obtain ⟨o1, o2, o3, o4, o5⟩ := ho.2.2.2.1 p (by omega) hp
      by_cases e : kd p = 6
      · rw [pv_un (by omega) e o3, qv_op (by omega) o3 o4, e, h6, ih _ o3 (by omega)]
      · rw [pv_bn (by omega) e o3 o4, qv_op (by omega) o3 o4, h7 _ _ _ (by omega), ih _ o3 (by omega), ih _ o4 (by omega)]
theorem PTo.to {S : Nat} {kd lf rt : Nat → Nat} (h : PTo S kd lf rt) : To S kd lf rt := fun p hp => by
  by_cases h6 : p < 6
  · have := h.2.2.1 p h6
    exact ⟨by omega, fun h' => by omega⟩
  · obtain ⟨o1, o2, o3, o4, o5⟩ := h.2.2.2.1 p (by omega) hp
    exact ⟨o2, fun _ => ⟨o3, o4⟩⟩
theorem RPo.to {P : Nat} {op lf rt : Nat → Nat} (h : RPo P op lf rt) : To P op lf rt := fun p hp => by
  rcases h.1 p hp with h1 | h1 | h1
  · exact ⟨by omega, fun h' => by omega⟩
  · exact ⟨by omega, fun h' => by omega⟩
  · exact ⟨by omega, fun _ => ⟨by omega, by omega⟩⟩
/-- a single stage -/
def kT1 (v : Nat) (kd lf rt : Nat → Nat) (p : Nat) : Prop := kT (W := Unit) (fun _ _ => True) (fun k _ => v.testBit k = true) kd lf rt p ()
theorem km1 (v : Nat) : isKM (W := Unit) (fun _ _ => True) (fun k _ => v.testBit k = true) := ⟨fun _ => trivial, fun _ _ _ _ _ => trivial, fun _ _ _ _ h => h⟩
section ENDS
variable {W : Type} {R : W → W → Prop} {V : Nat → W → Prop} {kd lf rt : Nat → Nat} {S : Nat}
theorem end_1 (hk : isKM R V) (k : Nat) (w : W) : ∃ w', R w w' ∧ ∀ u, R w' u → V k u → V k w' := by
  by_cases h : ∃ u, R w u ∧ V k u
  · obtain ⟨u, h1, h2⟩ := h
    exact ⟨u, h1, fun _ _ _ => h2⟩
  · exact ⟨w, hk.1 w, fun u h1 h2 => absurd ⟨u, h1, h2⟩ h⟩
theorem end_n (hk : isKM R V) (w : W) : ∀ n : Nat, ∃ w', R w w' ∧ ∀ k, k < n → ∀ u, R w' u → V k u → V k w'
  | 0 => ⟨w, hk.1 w, fun k h => absurd h (Nat.not_lt_zero _)⟩
  | n + 1 => by
    obtain ⟨w1, a1, a2⟩ := end_n hk w n
    obtain ⟨w2, b1, b2⟩ := end_1 hk n w1
    refine ⟨w2, hk.2.1 _ _ _ a1 b1, fun k hkn u hu hv => ?_⟩
    by_cases e : k = n
    · subst e; exact b2 u hu hv
    · exact hk.2.2 _ _ _ b1 (a2 k (by omega) u (hk.2.1 _ _ _ b1 hu) hv)
/-- behind each stage there is one behind which nothing more becomes known: all is as at a single stage there -/
theorem end_t (hk : isKM R V) (ht : To S kd lf rt) (w : W) : ∃ (v : Nat) (w' : W), v < 16 ∧ R w w' ∧ ∀ p, p < S → ∀ u, R w' u → (kT R V kd lf rt p u ↔ kT1 v kd lf rt p) := by
  obtain ⟨w', a1, a2⟩ := end_n hk w 4
  have hb := b4_bit (@decide (V 0 w') (Classical.propDecidable _)) (@decide (V 1 w') (Classical.propDecidable _)) (@decide (V 2 w') (Classical.propDecidable _)) (@decide (V 3 w') (Classical.propDecidable _))
  refine ⟨_, w', hb.1, a1, ?_⟩
  generalize hv : (@decide (V 0 w') (Classical.propDecidable _)).toNat + 2 * (@decide (V 1 w') (Classical.propDecidable _)).toNat + 4 * (@decide (V 2 w') (Classical.propDecidable _)).toNat + 8 * (@decide (V 3 w') (Classical.propDecidable _)).toNat = v at hb ⊢
  have hbit : ∀ k, k < 4 → (v.testBit k = true ↔ V k w') := fun k hk4 => by
    rcases k4 hk4 with rfl | rfl | rfl | rfl
    · rw [hb.2.1]; exact @decide_eq_true_iff _ (Classical.propDecidable _)
    · rw [hb.2.2.1]; exact @decide_eq_true_iff _ (Classical.propDecidable _)
    · rw [hb.2.2.2.1]; exact @decide_eq_true_iff _ (Classical.propDecidable _)
    · rw [hb.2.2.2.2]; exact @decide_eq_true_iff _ (Classical.propDecidable _)
  intro p
  induction p using Nat.strongRecOn with
  | _ p ih =>
    intro hp u hu
    unfold kT1
    by_cases h6 : kd p < 6
    · rw [kT_lf h6, kT_lf h6]
      by_cases h4 : kd p < 4
      · rw [if_pos h4, if_pos h4, hbit _ h4]
        exact ⟨fun h => a2 _ h4 u hu h, fun h => hk.2.2 _ _ _ hu h⟩
      · rw [if_neg h4, if_neg h4]
    · have h10 := (ht p hp).1
      obtain ⟨hl, hrr⟩ := (ht p hp).2 (by omega)
      have il := ih _ hl (by omega)
      have ir := ih _ hrr (by omega)
      unfold kT1 at il ir
      obtain e | e | e | e : kd p = 6 ∨ kd p = 7 ∨ kd p = 8 ∨ kd p = 9 := by omega
      · rw [kT_6 ht hp e, kT_6 ht hp e]
        exact ⟨fun h x _ => fun hx => h u (hk.1 u) ((il u hu).mpr hx), fun h x hx hxx => h () trivial ((il x (hk.2.1 _ _ _ hu hx)).mp hxx)⟩
      · rw [kT_7 ht hp e, kT_7 ht hp e, il u hu, ir u hu]
      · rw [kT_8 ht hp e, kT_8 ht hp e, il u hu, ir u hu]
      · rw [kT_9 ht hp e, kT_9 ht hp e]
        exact ⟨fun h x _ hx => (ir u hu).mp (h u (hk.1 u) ((il u hu).mpr hx)), fun h x hx hxx => (ir x (hk.2.1 _ _ _ hu hx)).mpr (h () trivial ((il x (hk.2.1 _ _ _ hu hx)).mp hxx))⟩
/-- if no single stage has some parts, they tell everything -/
theorem no_single (ht : To S kd lf rt) {K : Nat → Bool} (h : ∀ v, v < 16 → ∃ p, p < S ∧ K p = true ∧ ¬ kT1 v kd lf rt p) (g : Nat) : Prv S kd lf rt K g := by
  intro W R V w hk hw
  obtain ⟨v, w', hv, h1, h2⟩ := end_t (S := S) hk ht w
  obtain ⟨p, p1, p2, p3⟩ := h v hv
  exact absurd ((h2 p p1 w' (hk.1 w')).mp (kT_up hk ht p p1 _ _ h1 (hw p p1 p2))) p3
end ENDS
/-- claims at stages of any model -/
def kUn {W : Type} (R : W → W → Prop) (x : W → Prop) (w : W) : Prop := ∀ w', R w w' → ¬ x w'
def kN {W : Type} (R : W → W → Prop) (V : Nat → W → Prop) (g : Nat → Nat) (i : Nat) (w : W) : Prop := nv (kLf V) (kUn R) (kBn R) g (fun _ => False) i w
def FolS (K : Nat → Nat) (G : Nat → Nat → Nat) (W p : Nat) : Prop := ∀ (X : Type) (R : X → X → Prop) (V : Nat → X → Prop) (w : X), isKM R V → (∀ i, i < 5 → W.testBit i = true → kN R V (G i) (K i - 1) w) → kN R V (G p) (K p - 1) w
/-- a model's claims make a good algebra -/
theorem kGA {W : Type} {R : W → W → Prop} {V : Nat → W → Prop} (hk : isKM R V) : GA (kLf V) (kUn R) (kBn R) (fun x => ∀ w w', R w w' → x w → x w') := by
  have l4 : kLf V 4 = fun _ => True := funext fun w => propext ⟨fun _ => trivial, fun _ => rfl⟩
  have l5 : kLf V 5 = fun _ => False := funext fun w => propext ⟨fun h => absurd (show (5 : Nat) = 4 from h) (by decide), fun h => False.elim h⟩
  refine ⟨fun k _ w w' hr h => ?_, fun k x y h7 h10 hx hy w w' hr h => ?_, fun x _ => ?_, fun x hx => ?_, fun x hx => ?_, fun x hx => ?_⟩
  · unfold kLf at h ⊢
    by_cases h4 : k < 4
    · rw [if_pos h4] at h ⊢; exact hk.2.2 _ _ _ hr h
    · rw [if_neg h4] at h ⊢; exact h
  · unfold kBn at h ⊢
    by_cases e7 : k = 7
    · rw [if_pos e7] at h ⊢; exact ⟨hx _ _ hr h.1, hy _ _ hr h.2⟩
    · rw [if_neg e7] at h ⊢
      by_cases e8 : k = 8
      · rw [if_pos e8] at h ⊢; exact h.imp (hx _ _ hr) (hy _ _ hr)
      · rw [if_neg e8] at h ⊢
        have e9 : k = 9 := by omega
        rw [if_pos e9] at h ⊢
        exact fun u hu => h u (hk.2.1 _ _ _ hr hu)
  · rw [l5]
    rfl
  · rw [l4, l5]
    refine ⟨?_, ?_, ?_, ?_, ?_⟩ <;> funext w <;> apply propext
    · exact ⟨fun h => h.2, fun h => ⟨trivial, h⟩⟩
    · exact ⟨fun h => h.2, fun h => ⟨h, h⟩⟩
    · exact ⟨fun h => h.1, fun h => ⟨h, trivial⟩⟩
    · exact ⟨fun h => h.1, fun h => h.elim⟩
    · exact ⟨fun h => h.2, fun h => h.elim⟩
  · rw [l4, l5]
    refine ⟨?_, ?_, ?_, ?_, ?_⟩ <;> funext w <;> apply propext
    · exact ⟨fun h => h.elim (fun f => f.elim) id, fun h => Or.inr h⟩
    · exact ⟨fun h => h.elim id id, fun h => Or.inr h⟩
    · exact ⟨fun h => h.elim id (fun f => f.elim), fun h => Or.inl h⟩
    · exact ⟨fun _ => trivial, fun _ => Or.inl trivial⟩
    · exact ⟨fun _ => trivial, fun _ => Or.inr trivial⟩
  · rw [l4, l5]
    refine ⟨?_, ?_, ?_, ?_⟩ <;> funext w <;> apply propext
    · exact ⟨fun h => h w (hk.1 w) trivial, fun h u hu _ => hx _ _ hu h⟩
    · exact ⟨fun _ => trivial, fun _ u _ h => h.elim⟩
    · exact ⟨fun _ => trivial, fun _ u _ _ => trivial⟩
    · exact ⟨fun _ => trivial, fun _ u _ h => h⟩
/-- the class's parts, at stages of any model -/
theorem kT_N {W : Type} {R : W → W → Prop} {V : Nat → W → Prop} {S k : Nat} {kd lf rt Pn g : Nat → Nat} (ho : PTo S kd lf rt) (hok : okp g k) (hn : NP g S kd lf rt Pn k) {i : Nat} (hi : i < k) (w : W) : kT R V kd lf rt (Pn i) w ↔ kN R V g i w := by
  unfold kT kN
  rw [← pv_qv (lv := kLf V) (un := kUn R) (bn := kBn R) (bn' := kBn R) (d0 := fun _ => False) ho (fun x y => rfl) (fun k x y _ => rfl) (Pn i) (hn i hi).1, hn.val ho hok i hi]
/-- the reference's parts, at stages of any model -/
theorem kT_P {W : Type} {R : W → W → Prop} {V : Nat → W → Prop} {P i r : Nat} {op lf rt g : Nat → Nat} (hk : isKM R V) (h : isPN P op lf rt g i r) (w : W) : kT R V op lf rt r w ↔ kN R V g i w := by
  unfold kT kN
  rw [h.2 _ _ _ _ _ (fun _ => False) (fun _ => False) (kGA hk)]
