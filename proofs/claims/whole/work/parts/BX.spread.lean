/-! THE CLASS SPREADS WHAT IS KNOWN -/
/-- how many parts a set has -/
def cnS (K : Nat → Bool) : Nat → Nat
  | 0 => 0
  | n + 1 => cnS K n + (if K n = true then 1 else 0)
theorem cnS_le (K : Nat → Bool) : ∀ n, cnS K n ≤ n
  | 0 => Nat.le_refl _
  | n + 1 => by
    have := cnS_le K n
    show cnS K n + (if K n = true then 1 else 0) ≤ n + 1
    split <;> omega
theorem cnS_mono {K K1 : Nat → Bool} : ∀ n : Nat, (∀ p, p < n → K p = true → K1 p = true) → cnS K n ≤ cnS K1 n
  | 0, _ => Nat.le_refl _
  | n + 1, h => by
    have h1 := cnS_mono n (fun p hp => h p (by omega))
    show cnS K n + (if K n = true then 1 else 0) ≤ cnS K1 n + (if K1 n = true then 1 else 0)
    by_cases c : K n = true
    · rw [if_pos c, if_pos (h n (by omega) c)]; omega
    · rw [if_neg c]; omega
theorem cnS_lt {K K1 : Nat → Bool} : ∀ n : Nat, (∀ p, p < n → K p = true → K1 p = true) → (∃ p, p < n ∧ K p = false ∧ K1 p = true) → cnS K n < cnS K1 n
  | 0, _, ⟨p, hp, _⟩ => absurd hp (Nat.not_lt_zero _)
  | n + 1, h, ⟨p, hp, h1, h2⟩ => by
    show cnS K n + (if K n = true then 1 else 0) < cnS K1 n + (if K1 n = true then 1 else 0)
    by_cases e : p = n
    · subst e
      have h3 := cnS_mono p (fun q hq => h q (by omega))
      rw [h1, h2, if_neg (by decide), if_pos rfl]; omega
    · have h3 := cnS_lt n (fun q hq => h q (by omega)) ⟨p, by omega, h1, h2⟩
      by_cases c : K n = true
      · rw [if_pos c, if_pos (h n (by omega) c)]; omega
      · rw [if_neg c]; omega
theorem cnS_pos {K : Nat → Bool} {n p : Nat} (hp : p < n) (h : K p = true) : 1 ≤ cnS K n := by
  have := cnS_lt (K := fun _ => false) (K1 := K) n (fun q _ h => by cases h) ⟨p, hp, rfl, h⟩
  omega
theorem cnS_ext {K K1 : Nat → Bool} (n : Nat) (h : ∀ p, p < n → K p = K1 p) : cnS K n = cnS K1 n := Nat.le_antisymm (cnS_mono n (fun p hp hk => by rw [← h p hp]; exact hk)) (cnS_mono n (fun p hp hk => by rw [h p hp]; exact hk))
section SPREAD
variable {b : Nat} {ia fi : Nat → Nat → Int32} {fl : Nat → Nat → Int64} {qa : Nat → Nat → Option Nat} {f : mmF} {S : Nat} {kd lf rt : Nat → Nat}
/-- what is known more follows -/
def cqS (S : Nat) (kd lf rt : Nat → Nat) (K K1 : Nat → Bool) : Prop := (∀ p, p < S → K p = true → K1 p = true) ∧ ∀ (W : Type) (R : W → W → Prop) (V : Nat → W → Prop) (w : W), isKM R V → (∀ p, p < S → K p = true → kT R V kd lf rt p w) → ∀ p, p < S → K1 p = true → kT R V kd lf rt p w
theorem cqS.rf {K : Nat → Bool} : cqS S kd lf rt K K := ⟨fun _ _ h => h, fun _ _ _ _ _ h => h⟩
theorem cqS.tr {K K1 K2 : Nat → Bool} (h : cqS S kd lf rt K K1) (h2 : cqS S kd lf rt K1 K2) : cqS S kd lf rt K K2 := ⟨fun p hp hk => h2.1 p hp (h.1 p hp hk), fun W R V w hk hw => h2.2 W R V w hk (h.2 W R V w hk hw)⟩
theorem cqS.ext {K K1 K2 : Nat → Bool} (h : cqS S kd lf rt K K1) (e : ∀ p, p < S → K2 p = K1 p) : cqS S kd lf rt K K2 := ⟨fun p hp hk => by rw [e p hp]; exact h.1 p hp hk, fun W R V w hk hw p hp hk2 => h.2 W R V w hk hw p hp (by rw [← e p hp]; exact hk2)⟩
theorem cqS.add {K : Nat → Bool} {r : Nat} (hr : ∀ (W : Type) (R : W → W → Prop) (V : Nat → W → Prop) (w : W), isKM R V → (∀ p, p < S → K p = true → kT R V kd lf rt p w) → kT R V kd lf rt r w) : cqS S kd lf rt K (upB K r true) := ⟨fun p hp hk => upB_le hk, fun W R V w hk hw p hp hk2 => by
  unfold upB at hk2
  by_cases e : p = r
  · rw [e]; exact hr W R V w hk hw
  · rw [if_neg e] at hk2; exact hw p hp hk2⟩
/-- a part makes nothing more known -/
def stS (kd lf rt : Nat → Nat) (K : Nat → Bool) (p : Nat) : Prop := (kd p = 7 → (K p = true ↔ K (lf p) = true ∧ K (rt p) = true)) ∧ (kd p = 8 → (K (lf p) = true ∨ K (rt p) = true) → K p = true) ∧ (kd p = 9 ∨ kd p = 6 → (K (rt p) = true → K p = true) ∧ (K p = true → K (lf p) = true → K (rt p) = true))
theorem b01 (x : Bool) : ((if x = true then (1 : Int32) else 0) = 0) = (x = false) := by cases x <;> simp
theorem grows_c {j p : Nat} (hj : j < 153) (h : LX b ia fi S kd lf rt) (h6 : 6 ≤ p) (hp : p < S) : (f_X5_grows (b + 20) (lA b j 1) (nI p) (wr (SK b) ia fi fl qa f) = some (0, wr (SK b) ia fi fl qa f) ∧ stS kd lf rt (sB fl (lA b j 1)) p) ∨ (∃ fl1, f_X5_grows (b + 20) (lA b j 1) (nI p) (wr (SK b) ia fi fl qa f) = some (0, wr (SK b) ia fi fl1 qa f) ∧ sE1 fl fl1 (lA b j 1) (sB fl (lA b j 1)) ∧ stS kd lf rt (sB fl (lA b j 1)) p) ∨ ∃ fl1 K1, f_X5_grows (b + 20) (lA b j 1) (nI p) (wr (SK b) ia fi fl qa f) = some (1, wr (SK b) ia fi fl1 qa f) ∧ sE1 fl fl1 (lA b j 1) K1 ∧ cqS S kd lf rt (sB fl (lA b j 1)) K1 ∧ (∃ r, r < S ∧ sB fl (lA b j 1) r = false ∧ K1 r = true) ∧ (inS S (sB fl (lA b j 1)) → inS S K1) := by
  have ho := h.2.1
  have hS := ho.2.1
  have hK := K_lA (b := b) hj (Nat.le_refl 1) (show 1 ≤ 4 by decide)
  obtain ⟨o1, o2, o3, o4, o5⟩ := ho.2.2.2.1 p h6 hp
  have q7 : (nI (kd p) = (7 : Int32)) = (kd p = 7) := propext (nI_eq (b := 7) (by omega) (by decide))
  have q8 : (nI (kd p) = (8 : Int32)) = (kd p = 8) := propext (nI_eq (b := 8) (by omega) (by decide))
  have sets := fun (fl : Nat → Nat → Int64) (r : Nat) (hr : r < S) (v : Int32) => set_s (ia := ia) (fi := fi) (fl := fl) (qa := qa) (f := f) hK (show r < 192 by omega) v
  unfold f_X5_grows
  simp only [R_20_1, R_22_1, h.at23 hp, R_22_2, h.at24 h6 hp, R_22_3, h.at25 h6 hp, ps_ck hK, has_s hK (show lf p < 192 by omega), has_s hK (show rt p < 192 by omega), has_s hK (show p < 192 by omega), Option.bind_some, q7, q8, b01]
  -- a part that is not known, and made or not
  have made : sB fl (lA b j 1) p = false → (∀ (W : Type) (R : W → W → Prop) (V : Nat → W → Prop) (w : W), isKM R V → (∀ p, p < S → sB fl (lA b j 1) p = true → kT R V kd lf rt p w) → kT R V kd lf rt p w) → ∃ fl1 K1, f_X5_grows_112 (lA b j 1) (nI p) (1 : Int32) (wr (SK b) ia fi fl qa f) = some (1, wr (SK b) ia fi fl1 qa f) ∧ sE1 fl fl1 (lA b j 1) K1 ∧ cqS S kd lf rt (sB fl (lA b j 1)) K1 ∧ (∃ r, r < S ∧ sB fl (lA b j 1) r = false ∧ K1 r = true) ∧ (inS S (sB fl (lA b j 1)) → inS S K1) := by
    intro h0 hc
    obtain ⟨fl1, a1, a2⟩ := sets fl p hp 1
    rw [if_neg (show ¬ (1 : Int32) = 0 by decide)] at a2
    refine ⟨fl1, _, ?_, a2, cqS.add hc, ⟨p, hp, h0, upB_s _ _ _⟩, fun hi => upB_in hi hp⟩
    unfold f_X5_grows_112
    simp only [ps_ck hK, a1, Option.bind_some]
    rfl
  have unmade : sB fl (lA b j 1) p = false → ∃ fl1, f_X5_grows_112 (lA b j 1) (nI p) (0 : Int32) (wr (SK b) ia fi fl qa f) = some (0, wr (SK b) ia fi fl1 qa f) ∧ sE1 fl fl1 (lA b j 1) (sB fl (lA b j 1)) := by
    intro h0
    obtain ⟨fl1, a1, a2⟩ := sets fl p hp 0
    rw [if_pos rfl] at a2
    refine ⟨fl1, ?_, a2.1, fun q hq => ?_⟩
    · unfold f_X5_grows_112
      simp only [ps_ck hK, a1, Option.bind_some]
      rfl
    · rw [a2.2 q hq]
      unfold upB
      by_cases e : q = p
      · rw [if_pos e, e, h0]
      · rw [if_neg e]
  cases hp0 : sB fl (lA b j 1) p with
  | false =>
    rw [if_pos (rfl : false = false)]
    by_cases c7 : kd p = 7
    · rw [if_pos c7]
      cases hl : sB fl (lA b j 1) (lf p) with
      | false =>
        rw [if_pos (rfl : false = false)]
        obtain ⟨fl1, a1, a2⟩ := unmade hp0
        exact Or.inr (Or.inl ⟨fl1, a1, a2, ⟨fun _ => by rw [hp0, hl]; simp, fun e => by omega, fun e => by omega⟩⟩)
      | true =>
        rw [if_neg (by decide)]
        cases hr : sB fl (lA b j 1) (rt p) with
        | false =>
          rw [if_pos (rfl : false = false)]
          obtain ⟨fl1, a1, a2⟩ := unmade hp0
          exact Or.inr (Or.inl ⟨fl1, a1, a2, ⟨fun _ => by rw [hp0, hr]; simp, fun e => by omega, fun e => by omega⟩⟩)
        | true =>
          rw [if_neg (by decide)]
          exact Or.inr (Or.inr (made hp0 (fun W R V w hk hw => (kT_7 ho.to hp c7 w).mpr ⟨hw _ (by omega) hl, hw _ (by omega) hr⟩)))
    · rw [if_neg c7]
      by_cases c8 : kd p = 8
      · rw [if_pos c8]
        cases hl : sB fl (lA b j 1) (lf p) with
        | false =>
          rw [if_pos (rfl : false = false)]
          cases hr : sB fl (lA b j 1) (rt p) with
          | false =>
            rw [if_pos (rfl : false = false)]
            obtain ⟨fl1, a1, a2⟩ := unmade hp0
            exact Or.inr (Or.inl ⟨fl1, a1, a2, ⟨fun e => by omega, fun _ h => (by rw [hl, hr] at h; rcases h with h | h <;> cases h), fun e => by omega⟩⟩)
          | true =>
            rw [if_neg (by decide)]
            exact Or.inr (Or.inr (made hp0 (fun W R V w hk hw => (kT_8 ho.to hp c8 w).mpr (Or.inr (hw _ (by omega) hr)))))
        | true =>
          rw [if_neg (by decide)]
          exact Or.inr (Or.inr (made hp0 (fun W R V w hk hw => (kT_8 ho.to hp c8 w).mpr (Or.inl (hw _ (by omega) hl)))))
      · rw [if_neg c8]
        have cif : kd p = 9 ∨ kd p = 6 := by omega
        cases hr : sB fl (lA b j 1) (rt p) with
        | false =>
          rw [if_neg (by decide)]
          obtain ⟨fl1, a1, a2⟩ := unmade hp0
          exact Or.inr (Or.inl ⟨fl1, a1, a2, ⟨fun e => by omega, fun e => by omega, fun _ => ⟨fun h => (by rw [hr] at h; cases h), fun h => (by rw [hp0] at h; cases h)⟩⟩⟩)
        | true =>
          rw [if_pos rfl]
          exact Or.inr (Or.inr (made hp0 (fun W R V w hk hw => (kT_if ho hp cif w).mpr (fun w' hw' _ => kT_up hk ho.to _ (by omega) _ _ hw' (hw _ (by omega) hr)))))
  | true =>
    rw [if_neg (by decide)]
    -- an 'if' that is known, or nothing
    have rest : kd p ≠ 7 ∨ (sB fl (lA b j 1) (lf p) = true ∧ sB fl (lA b j 1) (rt p) = true) → (f_X5_grows_156 (b + 20) (lA b j 1) (nI p) (nI (rt p)) (if sB fl (lA b j 1) (lf p) = true then 1 else 0) (if sB fl (lA b j 1) (rt p) = true then 1 else 0) (wr (SK b) ia fi fl qa f) = some (0, wr (SK b) ia fi fl qa f) ∧ stS kd lf rt (sB fl (lA b j 1)) p) ∨ (∃ fl1, f_X5_grows_156 (b + 20) (lA b j 1) (nI p) (nI (rt p)) (if sB fl (lA b j 1) (lf p) = true then 1 else 0) (if sB fl (lA b j 1) (rt p) = true then 1 else 0) (wr (SK b) ia fi fl qa f) = some (0, wr (SK b) ia fi fl1 qa f) ∧ sE1 fl fl1 (lA b j 1) (sB fl (lA b j 1)) ∧ stS kd lf rt (sB fl (lA b j 1)) p) ∨ ∃ fl1 K1, f_X5_grows_156 (b + 20) (lA b j 1) (nI p) (nI (rt p)) (if sB fl (lA b j 1) (lf p) = true then 1 else 0) (if sB fl (lA b j 1) (rt p) = true then 1 else 0) (wr (SK b) ia fi fl qa f) = some (1, wr (SK b) ia fi fl1 qa f) ∧ sE1 fl fl1 (lA b j 1) K1 ∧ cqS S kd lf rt (sB fl (lA b j 1)) K1 ∧ (∃ r, r < S ∧ sB fl (lA b j 1) r = false ∧ K1 r = true) ∧ (inS S (sB fl (lA b j 1)) → inS S K1) := by
      intro h7
      unfold f_X5_grows_156
      simp only [R_20_1, ck_22, isIf_c h hp, Option.bind_some, b01]
      by_cases cif : kd p = 9 ∨ kd p = 6
      · rw [if_pos cif, if_neg (show ¬ (1 : Int32) = 0 by decide)]
        cases hl : sB fl (lA b j 1) (lf p) with
        | false =>
          rw [if_pos (rfl : false = false)]
          exact Or.inl ⟨rfl, fun e => by omega, fun e => by omega, fun _ => ⟨fun _ => hp0, fun _ h => (by rw [hl] at h; cases h)⟩⟩
        | true =>
          rw [if_neg (by decide)]
          cases hr : sB fl (lA b j 1) (rt p) with
          | false =>
            rw [if_pos (rfl : false = false)]
            obtain ⟨fl1, a1, a2⟩ := sets fl (rt p) (by omega) 1
            rw [if_neg (show ¬ (1 : Int32) = 0 by decide)] at a2
            simp only [ps_ck hK, a1, Option.bind_some]
            refine Or.inr (Or.inr ⟨fl1, _, rfl, a2, cqS.add (fun W R V w hk hw => ?_), ⟨rt p, by omega, hr, upB_s _ _ _⟩, fun hi => upB_in hi (by omega)⟩)
            exact (kT_if ho hp cif w).mp (hw p hp hp0) w (hk.1 w) (hw _ (by omega) hl)
          | true =>
            rw [if_neg (by decide)]
            exact Or.inl ⟨rfl, fun e => by omega, fun e => by omega, fun _ => ⟨fun _ => hp0, fun _ _ => hr⟩⟩
      · rw [if_neg cif, if_pos rfl]
        refine Or.inl ⟨rfl, fun e => ?_, fun e _ => hp0, fun e => absurd e cif⟩
        rcases h7 with h7 | h7
        · exact absurd e h7
        · exact ⟨fun _ => h7, fun _ => hp0⟩
    by_cases c7 : kd p = 7
    · rw [if_pos c7]
      -- an 'and' that is known, with a side that is not
      have both : (sB fl (lA b j 1) (lf p) = false ∨ sB fl (lA b j 1) (rt p) = false) → ∃ fl1 K1, f_X5_grows_140 (lA b j 1) (nI (lf p)) (nI (rt p)) (wr (SK b) ia fi fl qa f) = some (1, wr (SK b) ia fi fl1 qa f) ∧ sE1 fl fl1 (lA b j 1) K1 ∧ cqS S kd lf rt (sB fl (lA b j 1)) K1 ∧ (∃ r, r < S ∧ sB fl (lA b j 1) r = false ∧ K1 r = true) ∧ (inS S (sB fl (lA b j 1)) → inS S K1) := by
        intro hor
        obtain ⟨fl1, a1, a2⟩ := sets fl (lf p) (by omega) 1
        obtain ⟨fl2, b1, b2⟩ := sets fl1 (rt p) (by omega) 1
        rw [if_neg (show ¬ (1 : Int32) = 0 by decide)] at a2 b2
        have hE : ∀ q, q < 192 → sB fl2 (lA b j 1) q = upB (upB (sB fl (lA b j 1)) (lf p) true) (rt p) true q := fun q hq => by
          rw [b2.2 q hq]
          unfold upB
          by_cases e : q = rt p
          · rw [if_pos e, if_pos e]
          · rw [if_neg e, if_neg e, a2.2 q hq]
            rfl
        refine ⟨fl2, upB (upB (sB fl (lA b j 1)) (lf p) true) (rt p) true, ?_, ⟨fun c hc => (b2.1 c hc).trans (a2.1 c hc), hE⟩, (cqS.add (fun W R V w hk hw => ((kT_7 ho.to hp c7 w).mp (hw p hp hp0)).1)).tr (cqS.add (fun W R V w hk hw => ((kT_7 ho.to hp c7 w).mp (hw p hp (upB_le hp0))).2)), ?_, fun hi => upB_in (upB_in hi (by omega)) (by omega)⟩
        · unfold f_X5_grows_140
          simp only [ps_ck hK, a1, b1, Option.bind_some]
        · rcases hor with h | h
          · exact ⟨lf p, by omega, h, upB_le (upB_s _ _ _)⟩
          · exact ⟨rt p, by omega, h, upB_s _ _ _⟩
      cases hl : sB fl (lA b j 1) (lf p) with
      | false =>
        rw [if_pos (rfl : false = false)]
        exact Or.inr (Or.inr (both (Or.inl hl)))
      | true =>
        rw [if_neg (by decide)]
        cases hr : sB fl (lA b j 1) (rt p) with
        | false =>
          rw [if_pos (rfl : false = false)]
          exact Or.inr (Or.inr (both (Or.inr hr)))
        | true =>
          rw [if_neg (by decide)]
          have := rest (Or.inr ⟨hl, hr⟩)
          rw [hl, hr] at this
          exact this
    · rw [if_neg c7]
      exact rest (Or.inl c7)
end SPREAD
