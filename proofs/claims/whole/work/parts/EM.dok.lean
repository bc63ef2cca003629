/-! THE DEPTH: the frame's own property over the steps; dOK -/
section DOK
variable {P : Nat} {op lf rt : Nat → Nat} {Γ : Nat → Bool} {g d : Nat}
/-- at a settled frame both bounds hold -/
theorem dp_set (ho : RPo P op lf rt) (hP : P ≤ 1000) (hi : inP P Γ) (hg : g < P) (hs : setd P op lf rt Γ g) (h : dpS P op lf rt d Γ g) : inv1 op lf rt 598 d Γ g ∧ ∀ k m, EV k m → (∀ q, Γ q = true → okR (vB k) (vB m) op lf rt q = true) → t2R (vB k) (vB m) op lf rt g = true ∧ inv2 (vB k) (vB m) op lf rt 598 d Γ g := by
  obtain ⟨hd, h⟩ := h
  rcases h with h | h | ⟨h1, h2⟩
  · omega
  · exact absurd h (setd_dmd ho hi hg hs)
  · refine ⟨h1, fun k m hkm hok => ?_⟩
    have tg : t2R (vB k) (vB m) op lf rt g = true := by
      rw [t2_E ho (vB m) g hg]
      exact setd_g ho hi hg hs hkm.2.1 (ok_pvT ho hi hok)
    exact ⟨tg, h2 k m hkm hok tg⟩
theorem inv1_600 {Γ : Nat → Bool} (ho : RPo P op lf rt) (hi : inP P Γ) (h : inv1 op lf rt 598 d Γ g) : d < 599 := by
  have := cA_4 ho hi
  unfold inv1 at h
  omega
theorem dp_of (ho : RPo P op lf rt) {d : Nat} {Γ : Nat → Bool} {g : Nat} (hi : inP P Γ) (h1 : inv1 op lf rt 598 d Γ g) (h2 : ∀ k m, EV k m → (∀ q, Γ q = true → okR (vB k) (vB m) op lf rt q = true) → t2R (vB k) (vB m) op lf rt g = true → inv2 (vB k) (vB m) op lf rt 598 d Γ g) : dpS P op lf rt d Γ g := ⟨by have := inv1_600 ho hi h1; omega, Or.inr (Or.inr ⟨h1, h2⟩)⟩
theorem dp_7 (ho : RPo P op lf rt) (hP : P ≤ 1000) (hi : inP P Γ) (hg : g < P) (hs : setd P op lf rt Γ g) (h : dpS P op lf rt d Γ g) (h78 : op g = 7 ∨ op g = 8) {y : Nat} (hy : y = lf g ∨ y = rt g) : dpS P op lf rt (d + 1) Γ y := by
  obtain ⟨h1, h2⟩ := dp_set ho hP hi hg hs h
  refine dp_of ho hi (inv1_side ho hg h78 hy h1) fun k m hkm hok _ => ?_
  obtain ⟨tg, hv⟩ := h2 k m hkm hok
  exact inv2_side ho hg h78 hy tg hv
theorem dp_8 (ho : RPo P op lf rt) (hP : P ≤ 1000) (hi : inP P Γ) (hg : g < P) (hs : setd P op lf rt Γ g) (h : dpS P op lf rt d Γ g) {p x : Nat} (hp : p < P) (hpg : Γ p = true) (h8 : op p = 8) (hx : x = lf p ∨ x = rt p) : dpS P op lf rt (d + 1) (upB (upB Γ p false) x true) g := by
  obtain ⟨h1, h2⟩ := dp_set ho hP hi hg hs h
  have hl := (ho.to p hp).2 (by omega)
  have hxP : x < P := by rcases hx with rfl | rfl <;> omega
  refine dp_of ho ((hi.up hp).up hxP) (inv1_or ho hP hi hs.1 hp hpg h8 hx h1) fun k m hkm hok _ => ?_
  have hc := cond_or ho hp h8 hx hok
  obtain ⟨tg, hv⟩ := h2 k m hkm hc
  exact inv2_or ho hP hi hs.1 hp hpg h8 hx ((oq_t ho p hp).2 (hc p hpg)) hv
/-- a nest's first premise -/
theorem dp_first (ho : RPo P op lf rt) (hP : P ≤ 1000) (hi : inP P Γ) (hg : g < P) (hs : setd P op lf rt Γ g) (h : dpS P op lf rt d Γ g) {p r : Nat} (hp : p < P) (hpg : Γ p = true) (h9 : op p = 9) (hl9 : op (lf p) = 9) (hr : r < P) (hri : impS op lf rt r (rt (lf p)) (rt p)) {k0 m0 : Nat} (hkm0 : EV k0 m0) (hok0 : ∀ q, Γ q = true → okR (vB k0) (vB m0) op lf rt q = true) : dpS P op lf rt (d + 1) (nsA P op lf rt Γ p r) (rt (lf p)) := by
  obtain ⟨h1, h2⟩ := dp_set ho hP hi hg hs h
  have hl := (ho.to p hp).2 (by omega)
  obtain ⟨o1, o2, o3, o4, o5, o6, o7, o8, o9⟩ := ho.two (show lf p < P by omega) (by omega)
  have hi2 : inP P (nsA P op lf rt Γ p r) := ((hi.up hp).up (by omega)).up hr
  by_cases hdm : dmd op lf rt (nsA P op lf rt Γ p r) (rt (lf p))
  · exact ⟨by have := inv1_600 ho hi h1; omega, Or.inr (Or.inl hdm)⟩
  have z : ∀ E v, t2R E v op lf rt 0 = true := fun E v => (t2_0 ho (by omega)).1
  -- the nest's left is true wherever all that is given is
  have hleft : ∀ m, m < 16 → pvW op lf rt Γ m → t2R (vB m) (vB m) op lf rt (lf p) = true := fun m hm hpv => by
    apply Classical.byContradiction
    intro c
    have hf : t2R (vB m) (vB m) op lf rt (lf p) = false := eq_false_of_ne_true c
    rw [(q2_9 ho (show lf p < P by omega) hl9).1, Bool.or_eq_false_iff] at hf
    have hx : t2R (vB m) (vB m) op lf rt (lf (lf p)) = true := by
      revert hf
      cases t2R (vB m) (vB m) op lf rt (lf (lf p))
      · intro h; cases h.1
      · intro _; rfl
    refine hdm ⟨m, hm, fun q hq => ?_, hf.2⟩
    by_cases e1 : q = r
    · rw [e1]
      rcases hri with ⟨e, _⟩ | ⟨_, e⟩ | ⟨_, _, _, _, r9, r1, r3⟩
      · rw [e, z] at hf; cases hf.2
      · rw [e]; exact z _ _
      · rw [(q2_9 ho hr r9).1, r1, hf.2]; rfl
    · by_cases e2 : q = lf (lf p)
      · rw [e2]; exact hx
      · refine hpv q (dn_le (p := p) ?_)
        unfold nsA at hq
        rw [show upB (upB (upB Γ p false) (lf (lf p)) true) r true q = upB (upB Γ p false) (lf (lf p)) true q from if_neg e1, show upB (upB Γ p false) (lf (lf p)) true q = upB Γ p false q from if_neg e2] at hq
        exact hq
  have step : ∀ k m, EV k m → (∀ q, Γ q = true → okR (vB k) (vB m) op lf rt q = true) → inv2 (vB k) (vB m) op lf rt 598 (d + 1) (nsA P op lf rt Γ p r) (rt (lf p)) := fun k m hkm hok => by
    obtain ⟨tg, hv⟩ := h2 k m hkm hok
    have tp := (oq_t ho p hp).2 (hok p hpg)
    have tl : t2R (vB k) (vB m) op lf rt (lf p) = true := by
      rw [t2_E ho (vB m) _ (by omega)]
      exact hleft m hkm.2.1 (ok_pvT ho hi hok)
    have tc : t2R (vB k) (vB m) op lf rt (rt p) = true := by
      rw [(q2_9 ho hp h9).1, tl] at tp
      exact tp
    have tr : t2R (vB k) (vB m) op lf rt r = true := by
      rcases hri with ⟨_, e⟩ | ⟨_, e⟩ | ⟨_, _, _, _, r9, r1, r3⟩
      · rw [e]; exact tc
      · rw [e]; exact z _ _
      · rw [(q2_9 ho hr r9).1, r3, tc, Bool.or_true]
    exact inv2_first ho hP hi hs.1 hp hr hpg h9 hl9 hri tr tp tl hv
  refine dp_of ho hi2 (inv2_1 ho hi2 (by omega) (step k0 m0 hkm0 hok0)) fun k m hkm hok ty => ?_
  obtain ⟨_, _, _, hc⟩ := cond_first ho hp hr h9 hl9 hri ty hok
  exact step k m hkm hc
/-- a nest's second premise -/
theorem dp_second (ho : RPo P op lf rt) (hP : P ≤ 1000) (hi : inP P Γ) (hg : g < P) (hs : setd P op lf rt Γ g) (h : dpS P op lf rt d Γ g) {p : Nat} (hp : p < P) (hpg : Γ p = true) (h9 : op p = 9) (hl9 : op (lf p) = 9) (hprv : Prv P op lf rt Γ (lf p)) {k0 m0 : Nat} (hkm0 : EV k0 m0) (hok0 : ∀ q, Γ q = true → okR (vB k0) (vB m0) op lf rt q = true) : dpS P op lf rt (d + 1) (upB (upB Γ p false) (rt p) true) g := by
  obtain ⟨h1, h2⟩ := dp_set ho hP hi hg hs h
  have hl := (ho.to p hp).2 (by omega)
  have hi2 : inP P (upB (upB Γ p false) (rt p) true) := (hi.up hp).up (by omega)
  have step : ∀ k m, EV k m → (∀ q, Γ q = true → okR (vB k) (vB m) op lf rt q = true) → inv2 (vB k) (vB m) op lf rt 598 (d + 1) (upB (upB Γ p false) (rt p) true) g := fun k m hkm hok => by
    obtain ⟨tg, hv⟩ := h2 k m hkm hok
    have tp := (oq_t ho p hp).2 (hok p hpg)
    have tl : t2R (vB k) (vB m) op lf rt (lf p) = true := by
      rw [t2_E ho (vB m) _ (by omega)]
      refine (t2_kT ho m _ (by omega)).mpr ?_
      exact hprv Unit (fun _ _ => True) (fun k _ => m.testBit k = true) () (km1 m) ((pvT_kT ho hi m).mp (ok_pvT ho hi hok))
    exact inv2_nest ho hP hi hs.1 hp hpg h9 hl9 tp tl hv
  refine dp_of ho hi2 (inv2_1 ho hi2 hg (step k0 m0 hkm0 hok0)) fun k m hkm hok _ => ?_
  exact step k m hkm (cond_second ho hp h9 hok)
theorem dp_ok {TI : Nat → (Nat → Nat) → (Nat → Nat) → (Nat → Nat) → Prop} (hT : tOK TI) : dOK TI dpS := by
  refine ⟨fun P op lf rt d Γ g h => h.1, fun d Γ g => dp_gr, fun P op lf rt d Γ g ho h2 hg hi h => dp_0 ho h2 h, fun P op lf rt d Γ g ho h2 hg hi h9 h => dp_goal ho hg h9 h, fun P op lf rt d Γ g p Γ1 ho h2 hg hi hp hpg hls h => dp_ls ho hp hpg hls h, fun P op lf rt d Γ g ho ht h2 hg hi hs h => ?_⟩
  have hP : P ≤ 1000 := by have := (hT.1 P op lf rt ht).1; omega
  refine ⟨fun h7 => ⟨dp_7 ho hP hi hg hs h (Or.inl h7) (Or.inl rfl), dp_7 ho hP hi hg hs h (Or.inl h7) (Or.inr rfl)⟩, fun p hp hpg h8 _ => ⟨dp_8 ho hP hi hg hs h hp hpg h8 (Or.inl rfl), dp_8 ho hP hi hg hs h hp hpg h8 (Or.inr rfl)⟩, fun h8 _ => ⟨dp_7 ho hP hi hg hs h (Or.inr h8) (Or.inl rfl), dp_7 ho hP hi hg hs h (Or.inr h8) (Or.inr rfl)⟩, fun p o hp hn hns => ?_⟩
  obtain ⟨n1, n2, n3⟩ := hn
  obtain ⟨k0, m0, hkm0, hok0⟩ := decided ho h2 hi hg hs hns.1 hns.2.1 hns.2.2.1
  refine ⟨?_, fun r hr hri => dp_first ho hP hi hg hs h hp n2 n1 (n3 rfl) hr hri hkm0 hok0, fun hprv => dp_second ho hP hi hg hs h hp n2 n1 (n3 rfl) hprv hkm0 hok0⟩
  have := inv1_600 ho hi (dp_set ho hP hi hg hs h).1
  omega
end DOK
