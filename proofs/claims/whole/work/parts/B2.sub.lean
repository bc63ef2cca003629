/-! the rows of the parts of a claim -/
def zN (g : Nat → Nat) : Nat → Nat := nv (fun _ => 1) (fun x => x + 1) (fun _ x y => x + y + 1) g 0
theorem zN_lf {g : Nat → Nat} {i : Nat} (h : g i < 6) : zN g i = 1 := nv_lf h
theorem zN_un {g : Nat → Nat} {k i : Nat} (ho : okp g k) (hi : i < k) (h : g i = 6) : zN g i = zN g (rc g i) + 1 := nv_un h (rc_lt ho hi (by omega))
theorem zN_bn {g : Nat → Nat} {k i : Nat} (ho : okp g k) (hi : i < k) (h : 7 ≤ g i) : zN g i = zN g (lc g i) + zN g (rc g i) + 1 := nv_bn h (lc_lt ho hi h) (rc_lt ho hi (by omega))
theorem zN_pos {g : Nat → Nat} {k : Nat} (ho : okp g k) {i : Nat} (hi : i < k) : 1 ≤ zN g i := by
  by_cases h6 : g i < 6
  · rw [zN_lf h6]; exact Nat.le_refl _
  · by_cases h7 : g i = 6
    · rw [zN_un ho hi h7]; omega
    · rw [zN_bn ho hi (by omega)]; omega
theorem sl_sz {g : Nat → Nat} {k : Nat} (ho : okp g k) : ∀ i, i ≤ k → ∀ d, d < dpt g i → (d = 0 → sl g i d + 1 = zN g (sl g i d)) ∧ (1 ≤ d → sl g i (d - 1) + zN g (sl g i d) = sl g i d) ∧ (d + 1 = dpt g i → sl g i d + 1 = i) := by
  intro i
  induction i with
  | zero => intro _ d hd; exact absurd hd (Nat.not_lt_zero _)
  | succ i ih =>
    intro hi d hd
    have hik : i < k := by omega
    obtain ⟨g10, g6, g7⟩ := ho i hik
    have hds := dpt_s g i
    have hdu := dpt_up g i
    by_cases htop : d + 1 = dpt g (i + 1)
    · rw [sl_top g htop]
      refine ⟨fun h0 => ?_, fun h1 => ?_, fun _ => rfl⟩
      · subst h0
        by_cases h6 : g i < 6
        · rw [if_pos h6] at hds
          have : i = 0 := by
            by_cases hi0 : i = 0
            · exact hi0
            · have := dpt_pos ho (show i - 1 < k by omega)
              rw [show i - 1 + 1 = i by omega] at this
              omega
          rw [zN_lf h6, this]
        · rw [if_neg h6] at hds
          by_cases h7 : g i = 6
          · rw [if_pos h7] at hds
            obtain ⟨a1, _, a3⟩ := ih (by omega) 0 (by omega)
            have e : rc g i = sl g i 0 := by unfold rc; congr 1; omega
            rw [zN_un ho hik h7, e]
            have := a1 rfl
            have := a3 (by omega)
            omega
          · rw [if_neg h7] at hds
            obtain ⟨a1, _, _⟩ := ih (by omega) 0 (by omega)
            obtain ⟨_, b2, b3⟩ := ih (by omega) 1 (by omega)
            have e : rc g i = sl g i 1 := by unfold rc; congr 1; omega
            have e2 : lc g i = sl g i 0 := by unfold lc; congr 1; omega
            rw [zN_bn ho hik (by omega), e, e2]
            have := a1 rfl
            have := b2 (by omega)
            have := b3 (by omega)
            rw [show (1 : Nat) - 1 = 0 from rfl] at *
            omega
      · rw [sl_low g (show d - 1 + 1 ≠ dpt g (i + 1) by omega)]
        by_cases h6 : g i < 6
        · rw [if_pos h6] at hds
          obtain ⟨_, _, a3⟩ := ih (by omega) (d - 1) (by omega)
          rw [zN_lf h6]
          exact a3 (by omega)
        · rw [if_neg h6] at hds
          by_cases h7 : g i = 6
          · rw [if_pos h7] at hds
            obtain ⟨_, a2, a3⟩ := ih (by omega) d (by omega)
            have e : rc g i = sl g i d := by unfold rc; congr 1; omega
            rw [zN_un ho hik h7, e]
            have := a2 h1
            have := a3 (by omega)
            omega
          · rw [if_neg h7] at hds
            obtain ⟨_, a2, _⟩ := ih (by omega) d (by omega)
            obtain ⟨_, b2, b3⟩ := ih (by omega) (d + 1) (by omega)
            have e : rc g i = sl g i (d + 1) := by unfold rc; congr 1; omega
            have e2 : lc g i = sl g i d := by unfold lc; congr 1; omega
            rw [zN_bn ho hik (by omega), e, e2]
            have := a2 h1
            have := b2 (by omega)
            have := b3 (by omega)
            rw [Nat.add_sub_cancel] at *
            omega
    · rw [sl_low g htop]
      obtain ⟨a1, a2, a3⟩ := ih (by omega) d (by omega)
      refine ⟨a1, fun h1 => ?_, fun h => absurd h htop⟩
      rw [sl_low g (show d - 1 + 1 ≠ dpt g (i + 1) by omega)]
      exact a2 h1
theorem rc_at {g : Nat → Nat} {k i : Nat} (ho : okp g k) (hi : i < k) (h6 : 6 ≤ g i) : rc g i + 1 = i := by
  have := (ho i hi).2.1 h6
  exact (sl_sz ho i (by omega) (dpt g i - 1) (by omega)).2.2 (by omega)
theorem lc_at {g : Nat → Nat} {k i : Nat} (ho : okp g k) (hi : i < k) (h7 : 7 ≤ g i) : lc g i + zN g (rc g i) = rc g i := by
  have := (ho i hi).2.2 h7
  have h := (sl_sz ho i (by omega) (dpt g i - 1) (by omega)).2.1 (by omega)
  rw [show dpt g i - 1 - 1 = dpt g i - 2 by omega] at h
  exact h
theorem zN_le {g : Nat → Nat} {k : Nat} (ho : okp g k) : ∀ i, i < k → zN g i ≤ i + 1 := by
  intro i
  induction i using Nat.strongRecOn with
  | _ i ih =>
    intro hi
    by_cases h6 : g i < 6
    · rw [zN_lf h6]; omega
    · have r1 := rc_at ho hi (by omega)
      have ir := ih (rc g i) (by omega) (by omega)
      by_cases h7 : g i = 6
      · rw [zN_un ho hi h7]; omega
      · have l1 := lc_at ho hi (by omega)
        have rp := zN_pos ho (show rc g i < k by omega)
        have il := ih (lc g i) (by omega) (by omega)
        rw [zN_bn ho hi (by omega)]; omega
/-- the rows of two parts are the same -/
def sR (g : Nat → Nat) (i j : Nat) : Prop := zN g i = zN g j ∧ ∀ d, d < zN g i → g (i - d) = g (j - d)
theorem sR_pre {g : Nat → Nat} {k : Nat} (ho : okp g k) : ∀ i, i < k → ∀ j, j < k → (∀ d, d < zN g i → d < zN g j → g (i - d) = g (j - d)) → zN g i = zN g j := by
  intro i
  induction i using Nat.strongRecOn with
  | _ i ih =>
    intro hi j hj hd
    have zi := zN_pos ho hi
    have zj := zN_pos ho hj
    have hg : g i = g j := hd 0 (by omega) (by omega)
    by_cases h6 : g i < 6
    · rw [zN_lf h6, zN_lf (by omega)]
    · have r1 := rc_at ho hi (by omega)
      have r2 := rc_at ho hj (by omega)
      by_cases h7 : g i = 6
      · rw [zN_un ho hi h7, zN_un ho hj (by omega)] at *
        have hr := ih (rc g i) (by omega) (by omega) (rc g j) (by omega) (fun d h1 h2 => by
          have := hd (d + 1) (by omega) (by omega)
          rw [show i - (d + 1) = rc g i - d by omega, show j - (d + 1) = rc g j - d by omega] at this
          exact this)
        omega
      · have l1 := lc_at ho hi (by omega)
        have l2 := lc_at ho hj (by omega)
        rw [zN_bn ho hi (by omega), zN_bn ho hj (by omega)] at *
        have hr := ih (rc g i) (by omega) (by omega) (rc g j) (by omega) (fun d h1 h2 => by
          have := hd (d + 1) (by omega) (by omega)
          rw [show i - (d + 1) = rc g i - d by omega, show j - (d + 1) = rc g j - d by omega] at this
          exact this)
        have hl := ih (lc g i) (by omega) (by omega) (lc g j) (by omega) (fun d h1 h2 => by
          have := hd (d + zN g (rc g i) + 1) (by omega) (by omega)
          rw [show i - (d + zN g (rc g i) + 1) = lc g i - d by omega, show j - (d + zN g (rc g i) + 1) = lc g j - d by omega] at this
          exact this)
        omega
theorem sR_pn {g : Nat → Nat} {k S : Nat} {kd lf rt Pn : Nat → Nat} (ho : okp g k) (hp : PTo S kd lf rt) (hn : NP g S kd lf rt Pn k) : ∀ i, i < k → ∀ j, j < k → (sR g i j ↔ Pn i = Pn j) := by
  intro i
  induction i using Nat.strongRecOn with
  | _ i ih =>
    intro hi j hj
    obtain ⟨n1, n2, n3, n4⟩ := hn i hi
    obtain ⟨m1, m2, m3, m4⟩ := hn j hj
    have zi := zN_pos ho hi
    constructor
    · intro ⟨hz, hd⟩
      have hg : g i = g j := hd 0 (by omega)
      by_cases h6 : g i < 6
      · rw [n2 h6, m2 (by omega), hg]
      · have r1 := rc_at ho hi (by omega)
        have r2 := rc_at ho hj (by omega)
        by_cases h7 : g i = 6
        · rw [zN_un ho hi h7] at hz hd
          rw [zN_un ho hj (by omega)] at hz
          have hr : Pn (rc g i) = Pn (rc g j) := (ih (rc g i) (by omega) (by omega) (rc g j) (by omega)).mp ⟨by omega, fun d hd' => by
            have := hd (d + 1) (by omega)
            rw [show i - (d + 1) = rc g i - d by omega, show j - (d + 1) = rc g j - d by omega] at this
            exact this⟩
          obtain ⟨x1, x2, x3, x4⟩ := n3 h7
          obtain ⟨y1, y2, y3, y4⟩ := m3 (by omega)
          exact hp.2.2.2.2 _ _ x1 n1 y1 m1 (by omega) (by omega) (by omega)
        · have l1 := lc_at ho hi (by omega)
          have l2 := lc_at ho hj (by omega)
          have rpi := zN_pos ho (show rc g i < k by omega)
          rw [zN_bn ho hi (by omega)] at hz hd
          rw [zN_bn ho hj (by omega)] at hz
          have er : ∀ d, d < zN g (rc g i) → g (rc g i - d) = g (rc g j - d) := fun d hd' => by
            have := hd (d + 1) (by omega)
            rw [show i - (d + 1) = rc g i - d by omega, show j - (d + 1) = rc g j - d by omega] at this
            exact this
          have hzr := sR_pre ho (rc g i) (by omega) (rc g j) (by omega) (fun d h1 _ => er d h1)
          have hr : Pn (rc g i) = Pn (rc g j) := (ih (rc g i) (by omega) (by omega) (rc g j) (by omega)).mp ⟨hzr, er⟩
          have hl : Pn (lc g i) = Pn (lc g j) := (ih (lc g i) (by omega) (by omega) (lc g j) (by omega)).mp ⟨by omega, fun d hd' => by
            have := hd (d + zN g (rc g i) + 1) (by omega)
            rw [show i - (d + zN g (rc g i) + 1) = lc g i - d by omega, show j - (d + zN g (rc g i) + 1) = lc g j - d by omega] at this
            exact this⟩
          obtain ⟨x1, x2, x3, x4⟩ := n4 (by omega)
          obtain ⟨y1, y2, y3, y4⟩ := m4 (by omega)
          exact hp.2.2.2.2 _ _ x1 n1 y1 m1 (by omega) (by omega) (by omega)
    · intro he
      by_cases h6 : g i < 6
      · have a1 := n2 h6
        by_cases h6' : g j < 6
        · have a2 := m2 h6'
          have hg : g i = g j := by omega
          refine ⟨by rw [zN_lf h6, zN_lf h6'], fun d hd => ?_⟩
          rw [zN_lf h6] at hd
          rw [show d = 0 by omega]
          exact hg
        · by_cases h7' : g j = 6
          · have := (m3 h7').1; omega
          · have := (m4 (by omega)).1; omega
      · have r1 := rc_at ho hi (by omega)
        by_cases h7 : g i = 6
        · obtain ⟨x1, x2, x3, x4⟩ := n3 h7
          have hgj : g j = 6 := by
            by_cases h6' : g j < 6
            · have := m2 h6'; omega
            · by_cases h7' : g j = 6
              · exact h7'
              · have := (m4 (by omega)).2.1
                rw [← he] at this
                omega
          have r2 := rc_at ho hj (by omega)
          obtain ⟨y1, y2, y3, y4⟩ := m3 hgj
          obtain ⟨hz, hd⟩ := (ih (rc g i) (by omega) (by omega) (rc g j) (by omega)).mpr (by rw [← x3, ← y3, he])
          refine ⟨by rw [zN_un ho hi h7, zN_un ho hj hgj, hz], fun d hd' => ?_⟩
          rw [zN_un ho hi h7] at hd'
          by_cases h0 : d = 0
          · subst h0; show g i = g j; omega
          · have := hd (d - 1) (by omega)
            rw [show rc g i - (d - 1) = i - d by omega, show rc g j - (d - 1) = j - d by omega] at this
            exact this
        · obtain ⟨x1, x2, x3, x4⟩ := n4 (by omega)
          have hgj : g j = g i := by
            by_cases h6' : g j < 6
            · have := m2 h6'; omega
            · by_cases h7' : g j = 6
              · have := (m3 h7').2.1
                rw [← he] at this
                omega
              · have := (m4 (by omega)).2.1
                rw [← he] at this
                omega
          have r2 := rc_at ho hj (by omega)
          have l1 := lc_at ho hi (by omega)
          have l2 := lc_at ho hj (by omega)
          obtain ⟨y1, y2, y3, y4⟩ := m4 (by omega)
          obtain ⟨hz, hd⟩ := (ih (rc g i) (by omega) (by omega) (rc g j) (by omega)).mpr (by rw [← x4, ← y4, he])
          obtain ⟨hz2, hd2⟩ := (ih (lc g i) (by omega) (by omega) (lc g j) (by omega)).mpr (by rw [← x3, ← y3, he])
          refine ⟨by rw [zN_bn ho hi (by omega), zN_bn ho hj (by omega), hz, hz2], fun d hd' => ?_⟩
          rw [zN_bn ho hi (by omega)] at hd'
          by_cases h0 : d = 0
          · subst h0; show g i = g j; omega
          · by_cases hle : d ≤ zN g (rc g i)
            · have := hd (d - 1) (by omega)
              rw [show rc g i - (d - 1) = i - d by omega, show rc g j - (d - 1) = j - d by omega] at this
              exact this
            · have := hd2 (d - 1 - zN g (rc g i)) (by omega)
              rw [show lc g i - (d - 1 - zN g (rc g i)) = i - d by omega, show lc g j - (d - 1 - zN g (rc g i)) = j - d by omega] at this
              exact this
