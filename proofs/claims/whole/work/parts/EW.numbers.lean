/-! THE DEPTH'S NUMBERS: what a question begins with -/
noncomputable def bdB (C : Nat → Nat → Nat → Nat) (G : Nat → Nat) (N : Nat) : Bool := allB (N + 1) fun n => Nat.ble (G n) 135 && allB 4 fun lv => Nat.ble (C lv n 2) 108 && (Nat.ble (C lv n 4) 108 && (Nat.ble (C lv n 0) 108 && Nat.ble (C lv n 1) 54))
theorem c1_bd : bdB c1C c1G 30 = true := by decide +kernel
theorem c2_bd : bdB c2C c2G 30 = true := by decide +kernel
theorem c3_bd : bdB c3C c3G 24 = true := by decide +kernel
/-- the kinds of atoms: at most one false, or at most one that is known -/
noncomputable def kdB : Bool := allB 16 fun k => allB 16 fun m => !(allB 4 (fun i => !(k.testBit i) || m.testBit i) && anyB 4 (fun i => m.testBit i && !(k.testBit i))) || (allB 4 (fun i => allB 4 fun j => m.testBit i || (m.testBit j || Nat.beq i j)) || allB 4 (fun i => allB 4 fun j => !(k.testBit i) || (!(k.testBit j) || Nat.beq i j)))
theorem kd_ok : kdB = true := by decide +kernel
theorem kinds {k m : Nat} (h : EV k m) : kOK true false (vB k) (vB m) ∨ kOK false true (vB k) (vB m) := by
  obtain ⟨h1, h2, h3, i0, h4, h5, h6⟩ := h
  have hs : ∀ i, i < 4 → vB k i = true → vB m i = true := h3
  have := allB_iff.mp (allB_iff.mp kd_ok k h1) m h2
  have e : (allB 4 (fun i => !(k.testBit i) || m.testBit i) && anyB 4 (fun i => m.testBit i && !(k.testBit i))) = true := by
    rw [Bool.and_eq_true]
    refine ⟨allB_iff.mpr fun i hi => ?_, anyB_iff.mpr ⟨i0, h4, ?_⟩⟩
    · cases c : k.testBit i with
      | false => rfl
      | true => rw [h3 i hi c]; rfl
    · rw [h5, h6]; rfl
  rw [e, Bool.not_true, Bool.false_or, Bool.or_eq_true] at this
  rcases this with h | h
  · refine Or.inl ⟨hs, (fun e => by cases e), fun _ i j hi hj a b => ?_⟩
    have h := allB_iff.mp (allB_iff.mp h i hi) j hj
    have a' : m.testBit i = false := a
    have b' : m.testBit j = false := b
    rw [a', b', Bool.false_or, Bool.false_or] at h
    exact Nat.eq_of_beq_eq_true h
  · refine Or.inr ⟨hs, fun _ i j hi hj a b => ?_, (fun e => by cases e)⟩
    have h := allB_iff.mp (allB_iff.mp h i hi) j hj
    have a' : k.testBit i = true := a
    have b' : k.testBit j = true := b
    rw [a', b', Bool.not_true, Bool.false_or, Bool.false_or] at h
    exact Nat.eq_of_beq_eq_true h
section NUM
variable {A : Nat → Nat → Nat → Nat → Nat → Nat} {R C : Nat → Nat → Nat → Nat} {nr nc G : Nat → Nat} {W N : Nat} {P : Nat} {op lf rt : Nat → Nat} {E v : Nat → Bool} {r : Nat} {g : Nat → Nat} {k : Nat}
theorem qQ.num (ho : RPo P op lf rt) (hr : r < P) (hb : bdB C G N = true) {lv n : Nat} (hl : lv ≤ 3) (h : qQ A R C nr nc G N E v op lf rt lv n r) : (t2R E v op lf rt r = true → S2R E v op lf rt r ≤ 108 ∧ S2R E v op lf rt r + G2R E v op lf rt r ≤ 135) ∧ n1R op lf rt r ≤ 108 ∧ g1R op lf rt r ≤ 54 := by
  obtain ⟨j, j1, j2, j3, _, ⟨c1, c2, c3, c4, c5⟩, _⟩ := h
  have b := allB_iff.mp hb j (by omega)
  rw [Bool.and_eq_true, Nat.ble_eq] at b
  have b2 := allB_iff.mp b.2 lv (by omega)
  simp only [Bool.and_eq_true, Nat.ble_eq] at b2
  refine ⟨fun t => ⟨?_, Nat.le_trans (c5 t) b.1⟩, Nat.le_trans c3 b2.2.2.1, Nat.le_trans c4 b2.2.2.2⟩
  by_cases h9 : op r = 9
  · rw [cls_2 t h9] at c1
    exact Nat.le_trans c1 b2.2.1
  · rw [cls_1 t h9] at c1
    exact Nat.le_trans c1 b2.1
/-- a claim's part, by its length -/
theorem num_of (ho : RPo P op lf rt) (h2 : 2 ≤ P) (hv : VC k g) {e m : Nat} (hem : EV e m) (hr : isPN P op lf rt g (k - 1) r) : (t2R (vB e) (vB m) op lf rt r = true → S2R (vB e) (vB m) op lf rt r ≤ 108 ∧ S2R (vB e) (vB m) op lf rt r + G2R (vB e) (vB m) op lf rt r ≤ 135) ∧ n1R op lf rt r ≤ 108 ∧ g1R op lf rt r ≤ 54 := by
  have en := hr.nd ho
  have hrP := hr.1
  have hok : okp g k := hv.ok
  have hk1 := hv.1
  rcases hv.ln with hL | hL
  · have hk : kOK true true (vB e) (vB m) := ⟨hem.2.2.1, (fun h => by cases h), (fun h => by cases h)⟩
    obtain ⟨q1, q2, q3⟩ := qQ_nd c3_ok hk ho h2 hok (k - 1) (by omega)
    have hs := sz_le hok (show k - 1 < k by omega)
    have := q3 (by rw [ln_sz hok _ (by omega)]; omega) (by rw [en]; exact hrP)
    rw [en] at this
    exact this.num ho hrP c3_bd q2
  · rcases kinds hem with hk | hk
    · obtain ⟨q1, q2, q3⟩ := qQ_nd c1_ok hk ho h2 hok (k - 1) (by omega)
      have := q3 hL (by rw [en]; exact hrP)
      rw [en] at this
      exact this.num ho hrP c1_bd q2
    · obtain ⟨q1, q2, q3⟩ := qQ_nd c2_ok hk ho h2 hok (k - 1) (by omega)
      have := q3 hL (by rw [en]; exact hrP)
      rw [en] at this
      exact this.num ho hrP c2_bd q2
end NUM
section SUM
variable {P : Nat} {op lf rt : Nat → Nat} {grp ok : Nat → Bool} {w sr Nn : Nat → Nat} {b : Nat → Bool} {pr : Nat → Nat}
noncomputable def gvn (b : Nat → Bool) (pr : Nat → Nat) (n : Nat) : Nat → Bool := fun q => @decide (∃ i, i < n ∧ b i = true ∧ pr i = q) (Classical.propDecidable _)
theorem gvn_iff {n q : Nat} : gvn b pr n q = true ↔ ∃ i, i < n ∧ b i = true ∧ pr i = q := @decide_eq_true_iff _ (Classical.propDecidable _)
theorem ps_sum (h : ptOK P op lf rt grp ok w sr Nn) : ∀ n, (∀ i, i < n → b i = true → pr i < P) → psS op lf rt grp w sr (gvn b pr n) ≤ sS (fun i => if b i = true then Nn (pr i) else 0) n
  | 0, _ => by
    have e : ∀ q, gvn b pr 0 q ≠ true := fun q hq => by
      obtain ⟨i, hi, _⟩ := gvn_iff.mp hq
      omega
    have h1 := wS_bd (w := w) (B := 0) (gvn b pr 0) 1000 fun p _ hp => absurd hp (e p)
    have h2 := wS_bd (w := sr) (B := 0) (onS op lf rt grp (gvn b pr 0)) 1000 fun p _ hp => by
      rcases (on_iff p).mp hp with h | ⟨q, h, _⟩
      · exact absurd h (e p)
      · exact absurd h (e q)
    show psS op lf rt grp w sr (gvn b pr 0) ≤ 0
    unfold psS
    omega
  | n + 1, hP => by
    have ih := ps_sum h n fun i hi => hP i (by omega)
    show _ ≤ sS (fun i => if b i = true then Nn (pr i) else 0) n + (if b n = true then Nn (pr n) else 0)
    by_cases c : b n = true
    · rw [if_pos c]
      have a := ptOK.add (Γ := gvn b pr n) h (hP n (by omega) c)
      have s := ps_sub (op := op) (lf := lf) (rt := rt) (grp := grp) (w := w) (sr := sr) (Γ := upB (gvn b pr n) (pr n) true) (Γ1 := gvn b pr (n + 1)) fun q hq => by
        obtain ⟨i, i1, i2, i3⟩ := gvn_iff.mp hq
        by_cases e : i = n
        · rw [← i3, e]; exact upB_s _ _ _
        · exact upB_le (gvn_iff.mpr ⟨i, by omega, i2, i3⟩)
      omega
    · rw [if_neg c]
      have s := ps_sub (op := op) (lf := lf) (rt := rt) (grp := grp) (w := w) (sr := sr) (Γ := gvn b pr n) (Γ1 := gvn b pr (n + 1)) fun q hq => by
        obtain ⟨i, i1, i2, i3⟩ := gvn_iff.mp hq
        by_cases e : i = n
        · rw [e] at i2; exact absurd i2 c
        · exact gvn_iff.mpr ⟨i, by omega, i2, i3⟩
      omega
theorem five {f : Nat → Nat} {p x y z : Nat} (hp : p < 5) (h : ∀ i, i < 5 → f i ≤ x) (h2 : f p + y ≤ z) : sS f 5 + y ≤ 4 * x + z := by
  have a0 := h 0 (by decide)
  have a1 := h 1 (by decide)
  have a2 := h 2 (by decide)
  have a3 := h 3 (by decide)
  have a4 := h 4 (by decide)
  show 0 + f 0 + f 1 + f 2 + f 3 + f 4 + y ≤ 4 * x + z
  obtain rfl | rfl | rfl | rfl | rfl : p = 0 ∨ p = 1 ∨ p = 2 ∨ p = 3 ∨ p = 4 := by omega
  · omega
  · omega
  · omega
  · omega
  · omega
end SUM
section INI
variable {Ω : mO} {W p P pg : Nat} {op lf rt pr : Nat → Nat} {Γ : Nat → Bool}
theorem ini_dp (w : WO Ω) (hq : qOk Ω W p) (h : iniQ Ω W p P op lf rt pr pg Γ) : dpS P op lf rt 0 Γ pg := by
  obtain ⟨h1, h2, h3, h4, h5, h6, _⟩ := h
  obtain ⟨q1, q2, q3, q4⟩ := hq
  have num := fun (i r : Nat) (hi : i < 5) (hK : 0 < Ω.1.2.2.2.1 i) (hr : isPN P op lf rt (Ω.1.2.2.2.2 i) (Ω.1.2.2.2.1 i - 1) r) (e m : Nat) (hem : EV e m) => num_of h1 h2 (w.1.2 i hi hK) hem hr
  have hΓ : ∀ q, Γ q = true → gvn (fun i => W.testBit i) pr 5 q = true := fun q hq => by
    obtain ⟨i, i1, i2, i3⟩ := (h4 q).mp hq
    exact gvn_iff.mpr ⟨i, i1, i2, i3⟩
  have prP : ∀ i, i < 5 → W.testBit i = true → pr i < P := fun i hi hb => (h5 i hi hb).1
  have same : W.testBit p = true → pr p = pg := fun hb => by rw [← (h5 p q2 hb).nd h1, ← h6.nd h1]
  have ev0 : EV 7 15 := ⟨by decide, by decide, by decide, 3, by decide, by decide, by decide⟩
  refine ⟨by decide, Or.inr (Or.inr ⟨?_, fun k m hkm hok ht => ?_⟩)⟩
  · have a := ps_sub (op := op) (lf := lf) (rt := rt) (grp := grR op lf rt) (w := w1R op lf rt) (sr := s1R op lf rt) (Γ := gvn (fun i => W.testBit i) pr 5) (Γ1 := Γ) hΓ
    have b := ps_sum (b := fun i => W.testBit i) (pr := pr) (pt1_ok h1) 5 prP
    have ng := (num p pg q2 q3 h6 7 15 ev0).2
    have c := five (f := fun i => if W.testBit i = true then n1R op lf rt (pr i) else 0) (p := p) (x := 108) (y := g1R op lf rt pg) (z := 162) q2 (fun i hi => by
      show (if W.testBit i = true then n1R op lf rt (pr i) else 0) ≤ 108
      by_cases hb : W.testBit i = true
      · rw [if_pos hb]; exact (num i _ hi (q4 i hb).2 (h5 i hi hb) 7 15 ev0).2.1
      · rw [if_neg hb]; exact Nat.zero_le _) (by
      show (if W.testBit p = true then n1R op lf rt (pr p) else 0) + _ ≤ 162
      by_cases hb : W.testBit p = true
      · rw [if_pos hb, same hb]; omega
      · rw [if_neg hb]; omega)
    unfold inv1
    omega
  · have a := ps_sub (op := op) (lf := lf) (rt := rt) (grp := grR op lf rt) (w := w2R (vB k) (vB m) op lf rt) (sr := sr2R (vB k) (vB m) op lf rt) (Γ := gvn (fun i => W.testBit i) pr 5) (Γ1 := Γ) hΓ
    have b := ps_sum (b := fun i => W.testBit i) (pr := pr) (pt2_ok (E := vB k) (v := vB m) h1) 5 prP
    have ng := (num p pg q2 q3 h6 k m hkm).1 ht
    have c := five (f := fun i => if W.testBit i = true then S2R (vB k) (vB m) op lf rt (pr i) else 0) (p := p) (x := 108) (y := G2R (vB k) (vB m) op lf rt pg) (z := 135) q2 (fun i hi => by
      show (if W.testBit i = true then S2R (vB k) (vB m) op lf rt (pr i) else 0) ≤ 108
      by_cases hb : W.testBit i = true
      · rw [if_pos hb]
        have hg : Γ (pr i) = true := (h4 _).mpr ⟨i, hi, hb, rfl⟩
        exact ((num i _ hi (q4 i hb).2 (h5 i hi hb) k m hkm).1 ((oq_t h1 _ (prP i hi hb)).2 (hok _ hg))).1
      · rw [if_neg hb]; exact Nat.zero_le _) (by
      show (if W.testBit p = true then S2R (vB k) (vB m) op lf rt (pr p) else 0) + _ ≤ 135
      by_cases hb : W.testBit p = true
      · rw [if_pos hb, same hb]; omega
      · rw [if_neg hb]; omega)
    unfold inv2
    omega
theorem refF_len {b : Nat} {f : mmF} (w : WO Ω) : refF b f Ω := refF_of w fun W p hq => ⟨tiS Ω W p, dpS, tiS_ok w hq, dp_ok (tiS_ok w hq), fun P op lf rt pr pg Γ h => ⟨tiS_ini w hq h, ini_dp w hq h⟩⟩
end INI
