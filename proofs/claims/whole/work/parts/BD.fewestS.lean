/-! WHAT THE SMALL MODELS SHOW, told by the claims alone -/
theorem uLf_keep {g : Nat → Nat} {U k : Nat} (h : U.testBit k = true) : ∀ n, (uLf g U n).testBit k = true
  | 0 => h
  | n + 1 => by
    show (uLf g U n ||| (if g n < 6 then 2 ^ g n else 0)).testBit k = true
    rw [Nat.testBit_or, uLf_keep h n]
    rfl
theorem uLf_got {g : Nat → Nat} {U : Nat} : ∀ (n j : Nat), j < n → g j < 6 → (uLf g U n).testBit (g j) = true
  | 0, j, h, _ => absurd h (Nat.not_lt_zero _)
  | n + 1, j, h, h6 => by
    show (uLf g U n ||| (if g n < 6 then 2 ^ g n else 0)).testBit (g j) = true
    rw [Nat.testBit_or]
    by_cases e : j = n
    · subst e
      rw [if_pos h6, Nat.testBit_two_pow_self, Bool.or_true]
    · rw [uLf_got n j (by omega) h6]
      rfl
theorem ULp_bit {K : Nat → Nat} {G : Nat → Nat → Nat} {V : Nat} : ∀ (m p j : Nat), p < m → selP K V p → j < K p → G p j < 6 → (ULp K G V m).testBit (G p j) = true
  | 0, p, j, h, _, _, _ => absurd h (Nat.not_lt_zero _)
  | m + 1, p, j, h, hs, hj, h6 => by
    rw [ULp]
    by_cases e : p = m
    · subst e
      rw [if_pos hs]
      exact uLf_got _ _ hj h6
    · have := ULp_bit m p j (by omega) hs hj h6
      by_cases hm : selP K V m
      · rw [if_pos hm]; exact uLf_keep this _
      · rw [if_neg hm]; exact this
/-- premises, and what shows that the claim does not follow -/
def vS (K : Nat → Nat) (G : Nat → Nat → Nat) (W : Nat) (c : Bool) (u v w : Nat) : Prop := ∀ j, j < 5 → W.testBit j = true → (tN c u v w (G j) (K j - 1)).1 = true
def rfS (K : Nat → Nat) (G : Nat → Nat → Nat) (W p : Nat) (c : Bool) (u v w : Nat) : Prop := vS K G W c u v w ∧ (tN c u v w (G p) (K p - 1)).1 = false
def fw1 (K : Nat → Nat) (G : Nat → Nat → Nat) (W p : Nat) : Prop := ∃ u, u < 16 ∧ rfS K G W p false u u u
def fw2 (K : Nat → Nat) (G : Nat → Nat → Nat) (W p : Nat) : Prop := ∃ u v, u < 16 ∧ v < 16 ∧ sub4 u v ∧ rfS K G W p false u v v
def fw3 (K : Nat → Nat) (G : Nat → Nat → Nat) (W p : Nat) : Prop := ∃ u v w, u < 16 ∧ v < 16 ∧ w < 16 ∧ sub4 u v ∧ sub4 u w ∧ (rfS K G W p false u v w ∨ sub4 v w ∧ rfS K G W p true u v w)
noncomputable def fwV (K : Nat → Nat) (G : Nat → Nat → Nat) (W p : Nat) : Int32 := @ite Int32 (fw1 K G W p) (Classical.propDecidable _) 1 (@ite Int32 (fw2 K G W p) (Classical.propDecidable _) 2 (@ite Int32 (fw3 K G W p) (Classical.propDecidable _) 3 (-5)))
section FS
variable {K : Nat → Nat} {G : Nat → Nat → Nat} {W p : Nat}
theorem tN_s {g : Nat → Nat} {k : Nat} (ho : okp g k) (u v w : Nat) {d : Nat} (hd : d < k) : (tN false u v w g d).2.1 = (tN false v v v g d).1 :=
  (tN_rel (k3S false) (fun j _ _ => ⟨(b3Lf_e1 u v w (g j)).2.1, b3Lf_e v (g j)⟩) ho d hd).1
theorem tN_t {g : Nat → Nat} {k : Nat} (c : Bool) (ho : okp g k) (u v w : Nat) {d : Nat} (hd : d < k) : (tN c u v w g d).2.2 = (tN false w w w g d).1 :=
  (tN_rel (k3T c false) (fun j _ _ => ⟨(b3Lf_e1 u v w (g j)).2.2, b3Lf_e w (g j)⟩) ho d hd).1
theorem tN_c {g : Nat → Nat} {k : Nat} (ho : okp g k) (u v w : Nat) {d : Nat} (hd : d < k) : (tN true u v w g d).2.1 = (tN false v w w g d).1 :=
  (tN_rel (k3C false) (fun j _ _ => ⟨(b3Lf_e1 u v w (g j)).2.1.trans (b3Lf_e1 v w w (g j)).1.symm, (b3Lf_e1 u v w (g j)).2.2.trans (b3Lf_e1 v w w (g j)).2.1.symm, (b3Lf_e1 v w w (g j)).2.2.trans (b3Lf_e1 v w w (g j)).2.1.symm⟩) ho d hd).1
theorem tN_p {g : Nat → Nat} {k : Nat} (c : Bool) (ho : okp g k) {u v w : Nat} (h1 : sub4 u v) (h2 : sub4 u w) {d : Nat} (hd : d < k) : ((tN c u v w g d).1 = true → (tN c u v w g d).2.1 = true) ∧ ((tN c u v w g d).1 = true → (tN c u v w g d).2.2 = true) :=
  tN_rel (k3P c c) (fun j _ _ => b3Lf_p h1 h2 (g j)) ho d hd
theorem tN_w {g : Nat → Nat} {k : Nat} (ho : okp g k) (u v w : Nat) {d : Nat} (hd : d < k) : (tN false u v w g d).1 = (tN false u w v g d).1 :=
  (tN_rel k3W (fun j _ _ => ⟨(b3Lf_e1 u v w (g j)).1.trans (b3Lf_e1 u w v (g j)).1.symm, (b3Lf_e1 u v w (g j)).2.1.trans (b3Lf_e1 u w v (g j)).2.2.symm, (b3Lf_e1 u v w (g j)).2.2.trans (b3Lf_e1 u w v (g j)).2.1.symm⟩) ho d hd).1
theorem tN_d {g : Nat → Nat} {k : Nat} (ho : okp g k) (u v : Nat) {d : Nat} (hd : d < k) : (tN true u v v g d).1 = (tN false u v v g d).1 := by
  have h := (tN_rel (c := true) (d := false) (u := u) (v := v) (w := v) (u' := u) (v' := v) (w' := v) (k3D true false) (fun j _ _ => ⟨rfl, (b3Lf_e1 u v v (g j)).2.2.trans (b3Lf_e1 u v v (g j)).2.1.symm⟩) ho d hd).1
  rw [h]
theorem tN_f {g : Nat → Nat} {k F : Nat} (c : Bool) (ho : okp g k) (hF : ∀ j, j < k → g j < 4 → F.testBit (g j) = true) (u v w : Nat) {d : Nat} (hd : d < k) : tN c (u &&& F) (v &&& F) (w &&& F) g d = tN c u v w g d := by
  have e : b3K c c (fun x y => x = y) := ⟨rfl, fun x y x' y' h1 h2 => by subst h1 h2; exact ⟨rfl, rfl, rfl⟩⟩
  refine tN_rel e (fun j hj h6 => ?_) ho d hd
  unfold b3Lf
  by_cases h4 : g j < 4
  · simp only [if_pos h4, Nat.testBit_and, hF j hj h4, Bool.and_true]
  · simp only [if_neg h4]
theorem sub4_le : ∀ u, u < 16 → ∀ v, v < 16 → (∀ k, k < 4 → u.testBit k = true → v.testBit k = true) → u ≤ v := by decide
theorem sub4_and {u v F : Nat} (h : sub4 u v) : sub4 (u &&& F) (v &&& F) := fun k hk hu => by
  rw [Nat.testBit_and, Bool.and_eq_true] at hu ⊢
  exact ⟨h k hk hu.1, hu.2⟩
theorem sub4_r (u F : Nat) : sub4 (u &&& F) F := fun k hk hu => by
  rw [Nat.testBit_and, Bool.and_eq_true] at hu
  exact hu.2
theorem sub4_2 {u v w : Nat} (h1 : sub4 u v) (h2 : sub4 u w) : sub4 u (v &&& w) := fun k hk hu => by
  rw [Nat.testBit_and, Bool.and_eq_true]
  exact ⟨h1 k hk hu, h2 k hk hu⟩
theorem sub4_l {u v w : Nat} (h : sub4 u (v &&& w)) : sub4 u v ∧ sub4 u w := ⟨fun k hk hu => by
  have := h k hk hu
  rw [Nat.testBit_and, Bool.and_eq_true] at this
  exact this.1, fun k hk hu => by
  have := h k hk hu
  rw [Nat.testBit_and, Bool.and_eq_true] at this
  exact this.2⟩
theorem and16_lt {u : Nat} (F : Nat) (h : u < 16) : u &&& F < 16 := Nat.lt_of_le_of_lt Nat.and_le_left h
/-- the claims are well made -/
def okC (K : Nat → Nat) (G : Nat → Nat → Nat) (W p : Nat) : Prop := ∀ j, j < 5 → (W.testBit j = true ∨ j = p) → 0 < K j ∧ okp (G j) (K j)
theorem rfS_f {F : Nat} (hk : okC K G W p) (hp : p < 5) (hF : ∀ i, i < 5 → (W.testBit i = true ∨ i = p) → ∀ j, j < K i → G i j < 4 → F.testBit (G i j) = true) {c : Bool} {u v w : Nat} (h : rfS K G W p c u v w) : rfS K G W p c (u &&& F) (v &&& F) (w &&& F) := by
  refine ⟨fun j hj hw => ?_, ?_⟩
  · have o := hk j hj (Or.inl hw)
    rw [tN_f c o.2 (hF j hj (Or.inl hw)) u v w (show K j - 1 < K j by omega)]
    exact h.1 j hj hw
  · have o := hk p hp (Or.inr rfl)
    rw [tN_f c o.2 (hF p hp (Or.inr rfl)) u v w (show K p - 1 < K p by omega)]
    exact h.2
theorem vS_t (hk : okC K G W p) {c : Bool} {u v w : Nat} (h1 : sub4 u v) (h2 : sub4 u w) (h : vS K G W c u v w) : vS K G W false w w w := fun j hj hw => by
  have o := hk j hj (Or.inl hw)
  rw [← tN_t c o.2 u v w (show K j - 1 < K j by omega)]
  exact (tN_p c o.2 h1 h2 (by omega)).2 (h j hj hw)
theorem vS_s (hk : okC K G W p) {u v w : Nat} (h1 : sub4 u v) (h2 : sub4 u w) (h : vS K G W false u v w) : vS K G W false v v v := fun j hj hw => by
  have o := hk j hj (Or.inl hw)
  rw [← tN_s o.2 u v w (show K j - 1 < K j by omega)]
  exact (tN_p false o.2 h1 h2 (by omega)).1 (h j hj hw)
theorem vS_c (hk : okC K G W p) {u v w : Nat} (h1 : sub4 u v) (h2 : sub4 u w) (h : vS K G W true u v w) : vS K G W false v w w := fun j hj hw => by
  have o := hk j hj (Or.inl hw)
  rw [← tN_c o.2 u v w (show K j - 1 < K j by omega)]
  exact (tN_p true o.2 h1 h2 (by omega)).1 (h j hj hw)
theorem rfS_w (hk : okC K G W p) (hp : p < 5) {u v w : Nat} (h : rfS K G W p false u v w) : rfS K G W p false u w v := by
  refine ⟨fun j hj hw => ?_, ?_⟩
  · have o := hk j hj (Or.inl hw)
    rw [tN_w o.2 u w v (by omega)]
    exact h.1 j hj hw
  · have o := hk p hp (Or.inr rfl)
    rw [tN_w o.2 u w v (by omega)]
    exact h.2
theorem rfS_d (hk : okC K G W p) (hp : p < 5) {u v : Nat} (h : rfS K G W p true u v v) : rfS K G W p false u v v := by
  refine ⟨fun j hj hw => ?_, ?_⟩
  · have o := hk j hj (Or.inl hw)
    rw [← tN_d o.2 u v (by omega)]
    exact h.1 j hj hw
  · have o := hk p hp (Or.inr rfl)
    rw [← tN_d o.2 u v (by omega)]
    exact h.2
end FS
