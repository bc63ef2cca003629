/-! THE CLASS'S SEARCH: its pieces -/
def lA (b j i : Nat) : Nat := b + (296 + 5 * j + i)
def lV (b j : Nat) : Nat := b + (296 + 5 * j)
def LX (b : Nat) (ia fi : Nat → Nat → Int32) (S : Nat) (kd lf rt : Nat → Nat) : Prop := PTm b ia fi S kd lf rt ∧ PTo S kd lf rt ∧ ∀ p, p < S → ia (b + 30) p = nI (fN kd lf rt (fun _ => 65535) 0 0 p)
/-- the single stages at which all that is known holds -/
def SG (b : Nat) (fi : Nat → Nat → Int32) (S : Nat) (kd lf rt : Nat → Nat) (j : Nat) (K : Nat → Bool) : Prop := ∃ X, X < 65536 ∧ fi (lV b j) 4 = nI X ∧ ∀ u, u < 16 → (X.testBit u = true ↔ ∀ p, p < S → K p = true → kT1 u kd lf rt p)
section SEARCH
variable {b : Nat} {ia fi : Nat → Nat → Int32} {fl : Nat → Nat → Int64} {qa : Nat → Nat → Option Nat} {f : mmF} {S : Nat} {kd lf rt : Nat → Nat}
theorem tP_kT1 (ho : PTo S kd lf rt) (u : Nat) {p : Nat} (hp : p < S) : (tP false u u u kd lf rt p).1 = true ↔ kT1 u kd lf rt p := by
  have e : tP false u u u kd lf rt p = qv (b3Lf u u u) (fun k x y => if k = 6 then b3Un false x else b3Bn false k x y) kd lf rt (false, false, false) p := pv_qv ho (fun x y => if_pos rfl) (fun k x y h => if_neg (by omega)) p hp
  rw [e]
  refine (qv_relT (fun (x : Bool × Bool × Bool) (y : Unit → Prop) => (x.1 = true ↔ y ()) ∧ x.2.1 = x.1 ∧ x.2.2 = x.1) (lv' := kLf (fun k _ => u.testBit k = true)) (bn' := kBn (fun _ _ => True)) (d1 := fun _ => False) (fun k _ => ⟨?_, b3Lf_e u k⟩) (fun k x y x' y' h6 h10 hx hy => ?_) ho.to p hp).1
  · unfold b3Lf kLf
    by_cases h4 : k < 4
    · rw [if_pos h4, if_pos h4]
    · rw [if_neg h4, if_neg h4]
      by_cases e4 : k = 4
      · rw [if_pos e4]; exact ⟨fun _ => e4, fun _ => rfl⟩
      · rw [if_neg e4]; exact ⟨fun h => (by cases h), fun h => absurd h e4⟩
  · obtain ⟨a1, a2, a3⟩ := x
    obtain ⟨b1, b2, b3⟩ := y
    obtain ⟨hx1, hx2, hx3⟩ := hx
    obtain ⟨hy1, hy2, hy3⟩ := hy
    simp only at hx1 hx2 hx3 hy1 hy2 hy3
    subst hx2 hx3 hy2 hy3
    obtain rfl | rfl | rfl | rfl : k = 6 ∨ k = 7 ∨ k = 8 ∨ k = 9 := by omega
    · refine ⟨?_, ?_⟩
      · show (b3Un false (a3, a3, a3)).1 = true ↔ ∀ w' : Unit, True → ¬ x' w'
        rw [show (∀ w' : Unit, True → ¬ x' w') ↔ ¬ x' () from ⟨fun h => h () trivial, fun h _ _ => h⟩, ← hx1]
        cases a3 <;> decide
      · cases a3 <;> exact ⟨rfl, rfl⟩
    · refine ⟨?_, ?_⟩
      · show (a3 && b3) = true ↔ x' () ∧ y' ()
        rw [← hx1, ← hy1, Bool.and_eq_true]
      · exact ⟨rfl, rfl⟩
    · refine ⟨?_, ?_⟩
      · show (a3 || b3) = true ↔ x' () ∨ y' ()
        rw [← hx1, ← hy1, Bool.or_eq_true]
      · exact ⟨rfl, rfl⟩
    · refine ⟨?_, ?_⟩
      · show (b3If false (a3, a3, a3) (b3, b3, b3)).1 = true ↔ ∀ w' : Unit, True → x' w' → y' w'
        rw [show (∀ w' : Unit, True → x' w' → y' w') ↔ (x' () → y' ()) from ⟨fun h => h () trivial, fun h _ _ => h⟩, ← hx1, ← hy1]
        cases a3 <;> cases b3 <;> decide
      · cases a3 <;> cases b3 <;> exact ⟨rfl, rfl⟩
theorem fN_kT1 (ho : PTo S kd lf rt) {u : Nat} (hu : u < 16) {p : Nat} (hp : p < S) : (fN kd lf rt (fun _ => 65535) 0 0 p).testBit u = true ↔ kT1 u kd lf rt p := by
  rw [fN_single ho hu false p hp]
  exact tP_kT1 ho u hp
/-- rows of a level -/
theorem K_lA {j i : Nat} (hj : j < 153) (h1 : 1 ≤ i) (h4 : i ≤ 4) : SK b (lA b j i) = some pset := K_levS hj h1 h4
theorem R_lv {j i : Nat} (hj : j < 153) (hi : i < 4) : ldR (wr (SK b) ia fi fl qa f) (lV b j) 2 i = some (lA b j (i + 1)) := by
  obtain rfl | rfl | rfl | rfl : i = 0 ∨ i = 1 ∨ i = 2 ∨ i = 3 := by omega
  · exact wr_R (K_lev hj) rfl
  · exact wr_R (K_lev hj) rfl
  · exact wr_R (K_lev hj) rfl
  · exact wr_R (K_lev hj) rfl
theorem I_lv {j : Nat} (hj : j < 153) : ldI (wr (SK b) ia fi fl qa f) (lV b j) 2 4 = some (fi (lV b j) 4) := wr_I (K_lev hj) rfl
theorem sI_lv {j : Nat} {x : Int32} (hj : j < 153) : stF (wr (SK b) ia fi fl qa f) (lV b j) 2 4 (.int x) = some (wr (SK b) ia (u2 fi (lV b j) 4 x) fl qa f) := wr_sI (K_lev hj) rfl x
theorem LX.at23 (h : LX b ia fi S kd lf rt) {p : Nat} (hp : p < S) : f_X9_at (b + 23) (nI p) (wr (SK b) ia fi fl qa f) = some (nI (kd p)) := by
  have hS := h.2.1.2.1
  rw [at_row L_23 (An_23 (show p < 151 by omega)) (show p < 151 by omega) (by decide), h.1.2.1 p hp]
theorem LX.at24 (h : LX b ia fi S kd lf rt) {p : Nat} (h6 : 6 ≤ p) (hp : p < S) : f_X9_at (b + 24) (nI p) (wr (SK b) ia fi fl qa f) = some (nI (lf p)) := by
  have hS := h.2.1.2.1
  rw [at_row L_24 (An_24 (show p < 151 by omega)) (show p < 151 by omega) (by decide), (h.1.2.2 p h6 hp).1]
theorem LX.at25 (h : LX b ia fi S kd lf rt) {p : Nat} (h6 : 6 ≤ p) (hp : p < S) : f_X9_at (b + 25) (nI p) (wr (SK b) ia fi fl qa f) = some (nI (rt p)) := by
  have hS := h.2.1.2.1
  rw [at_row L_25 (An_25 (show p < 151 by omega)) (show p < 151 by omega) (by decide), (h.1.2.2 p h6 hp).2]
theorem LX.kd10 (h : LX b ia fi S kd lf rt) {p : Nat} (hp : p < S) : kd p < 10 := (h.2.1.to p hp).1
theorem LX.big (h : LX b ia fi S kd lf rt) {p : Nat} (hp : p < S) (hk : 6 ≤ kd p) : 6 ≤ p := by
  by_cases h6 : p < 6
  · have := h.2.1.2.2.1 p h6; omega
  · omega
theorem isIf_c (h : LX b ia fi S kd lf rt) {p : Nat} (hp : p < S) : f_X4_isIf (b + 22) (nI p) (wr (SK b) ia fi fl qa f) = some (if kd p = 9 ∨ kd p = 6 then 1 else 0) := by
  have hS := h.2.1.2.1
  have hk := h.kd10 hp
  have q9 : (nI (kd p) = (9 : Int32)) = (kd p = 9) := propext (nI_eq (b := 9) (by omega) (by decide))
  have q6 : (nI (kd p) = (6 : Int32)) = (kd p = 6) := propext (nI_eq (b := 6) (by omega) (by decide))
  unfold f_X4_isIf
  rw [if_neg (nI_pos (show p < 2 ^ 31 by omega))]
  simp only [I_22_0, h.1.1, Option.bind_some, if_neg (nI_ge hp (show S < 2 ^ 31 by omega)), R_22_1, An_23 (show p < 151 by omega), h.1.2.1 p hp, q9, q6]
  by_cases e9 : kd p = 9
  · rw [if_pos e9, if_pos (Or.inl e9)]
  · rw [if_neg e9]
    by_cases e6 : kd p = 6
    · rw [if_pos e6, if_pos (Or.inr e6)]
    · rw [if_neg e6, if_neg (fun h => h.elim e9 e6)]
theorem singles_c (h : LX b ia fi S kd lf rt) {p : Nat} (hp : p < S) : f_X6_singles (b + 21) (nI p) (wr (SK b) ia fi fl qa f) = some (nI (fN kd lf rt (fun _ => 65535) 0 0 p)) := by
  have hS := h.2.1.2.1
  unfold f_X6_singles
  simp only [R_21_2, row_at (r := 30) (Or.inl rfl) (show p < 151 by omega), h.2.2 p hp, Option.bind_some]
theorem LX.cg {ia1 fi1 : Nat → Nat → Int32} (h : LX b ia fi S kd lf rt) (e : ∀ a, b + 23 ≤ a → a ≤ b + 30 → ia1 a = ia a) (e2 : fi1 (b + 22) = fi (b + 22)) : LX b ia1 fi1 S kd lf rt := by
  obtain ⟨⟨h1, h2, h3⟩, h4, h5⟩ := h
  exact ⟨⟨by rw [e2]; exact h1, fun p hp => by rw [e _ (by omega) (by omega)]; exact h2 p hp, fun p h6 hp => by rw [e _ (by omega) (by omega), e _ (by omega) (by omega)]; exact h3 p h6 hp⟩, h4, fun p hp => by rw [e _ (by omega) (by omega)]; exact h5 p hp⟩
/-- something more is known at a level -/
def eK (b : Nat) (fi fi1 : Nat → Nat → Int32) (fl fl1 : Nat → Nat → Int64) (j : Nat) (K : Nat → Bool) : Prop := sE1 fl fl1 (lA b j 1) K ∧ ∀ a i, a ≠ lV b j ∨ i ≠ 4 → fi1 a i = fi a i
theorem lV_22 {j : Nat} : lV b j ≠ b + 22 := by unfold lV; omega
theorem eK.lx {fi1 : Nat → Nat → Int32} {fl1 : Nat → Nat → Int64} {j : Nat} {K : Nat → Bool} (h : LX b ia fi S kd lf rt) (e : eK b fi fi1 fl fl1 j K) : LX b ia fi1 S kd lf rt := h.cg (fun _ _ _ => rfl) (funext fun i => e.2 _ _ (Or.inl lV_22.symm))
theorem SG.add (ho : PTo S kd lf rt) {j p X : Nat} {K K1 : Nat → Bool} (hX : X < 65536) (hp : p < S) (hK : ∀ u, u < 16 → (X.testBit u = true ↔ ∀ p, p < S → K p = true → kT1 u kd lf rt p)) (hK1 : ∀ q, q < S → K1 q = upB K p true q) {fi1 : Nat → Nat → Int32} (e : fi1 (lV b j) 4 = nI (X &&& fN kd lf rt (fun _ => 65535) 0 0 p)) : SG b fi1 S kd lf rt j K1 := by
  refine ⟨X &&& fN kd lf rt (fun _ => 65535) 0 0 p, Nat.lt_of_le_of_lt Nat.and_le_left hX, e, fun u hu => ?_⟩
  rw [Nat.testBit_and, Bool.and_eq_true, hK u hu, fN_kT1 ho hu hp]
  constructor
  · rintro ⟨h1, h2⟩ q hq hk
    rw [hK1 q hq] at hk
    unfold upB at hk
    by_cases eq : q = p
    · subst eq; exact h2
    · rw [if_neg eq] at hk; exact h1 q hq hk
  · intro h
    refine ⟨fun q hq hk => h q hq ?_, h p hp ?_⟩
    · rw [hK1 q hq]
      unfold upB
      by_cases eq : q = p
      · rw [if_pos eq]
      · rw [if_neg eq]; exact hk
    · rw [hK1 p hp]
      unfold upB
      rw [if_pos rfl]
theorem assume_c (h : LX b ia fi S kd lf rt) {j p : Nat} (hj : j < 153) (hp : p < S) (hs : SG b fi S kd lf rt j (sB fl (lA b j 1))) : ∃ fi1 fl1, f_X5_assume (b + 20) (lV b j) (nI p) (wr (SK b) ia fi fl qa f) = some (wr (SK b) ia fi1 fl1 qa f) ∧ eK b fi fi1 fl fl1 j (upB (sB fl (lA b j 1)) p true) ∧ SG b fi1 S kd lf rt j (sB fl1 (lA b j 1)) := by
  have hS := h.2.1.2.1
  obtain ⟨fl1, a1, a2⟩ := set_s (ia := ia) (fi := fi) (fl := fl) (qa := qa) (f := f) (K_lA (b := b) hj (Nat.le_refl 1) (by decide)) (show p < 192 by omega) (1 : Int32)
  rw [if_neg (show ¬ (1 : Int32) = 0 by decide)] at a2
  obtain ⟨X, x1, x2, x3⟩ := hs
  have ck : ckO (wr (SK b) ia fi fl qa f) (lA b j 1) 3 = some () := ps_ck (K_lA hj (Nat.le_refl 1) (by decide))
  refine ⟨u2 fi (lV b j) 4 (nI (X &&& fN kd lf rt (fun _ => 65535) 0 0 p)), fl1, ?_, ⟨a2, fun a i ha => ?_⟩, ?_⟩
  · unfold f_X5_assume
    simp only [R_lv hj (show 0 < 4 by decide), Nat.zero_add, ck, a1, I_lv hj, x2, R_20_0, ck_21, singles_c h hp, fa_and, sI_lv hj, Option.bind_some]
  · rcases ha with ha | ha
    · exact u2_a _ _ ha
    · exact u2_i _ _ ha
  · exact SG.add h.2.1 x1 hp x3 (fun q hq => a2.2 q (by omega)) (u2_s _ _ _ _)
theorem upB_le {K : Nat → Bool} {p q : Nat} (h : K q = true) : upB K p true q = true := by
  unfold upB
  by_cases e : q = p
  · rw [if_pos e]
  · rw [if_neg e]; exact h
theorem upB_s (K : Nat → Bool) (p : Nat) (x : Bool) : upB K p x p = x := if_pos rfl
end SEARCH
