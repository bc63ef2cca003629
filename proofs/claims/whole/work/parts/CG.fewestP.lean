/-! THE FEWEST PREMISES: both sides, the reference's search (refF) still owed -/
def sbW (s W : Nat) : Prop := s &&& (255 ^^^ W) = 0
theorem sb_bc : ∀ s, s < 32 → ∀ W, W < 32 → s &&& (255 ^^^ W) = 0 → s = W ∨ (bcN s 8 < bcN W 8 ∧ s < W) := by decide +kernel
theorem bc_16 : ∀ s, s < 32 → bcN s 16 = bcN s 8 ∧ bcN s 8 ≤ 5 := by decide +kernel
theorem sb_self : ∀ W, W < 32 → W &&& (255 ^^^ W) = 0 := by decide +kernel
theorem sb_bit {s W i : Nat} (hs : s < 32) (h : sbW s W) (hi : s.testBit i = true) : W.testBit i = true := by
  have h8 : i < 8 := by
    apply Classical.byContradiction
    intro hn
    rw [Nat.testBit_lt_two_pow (Nat.lt_of_lt_of_le hs (show 2 ^ 5 ≤ 2 ^ i from Nat.pow_le_pow_right (by decide) (by omega)))] at hi
    cases hi
  have hz : (s &&& (255 ^^^ W)).testBit i = false := by rw [h]; exact Nat.zero_testBit i
  rw [Nat.testBit_and, hi, Nat.testBit_xor, show (255 : Nat) = 2 ^ 8 - 1 from rfl, Nat.testBit_two_pow_sub_one, decide_eq_true h8] at hz
  cases hw : W.testBit i with
  | true => rfl
  | false => rw [hw] at hz; cases hz
/-- the fewest of some premises, the least of those -/
def fpP (K : Nat → Nat) (G : Nat → Nat → Nat) (W p r : Nat) : Prop := r < 32 ∧ sbW r W ∧ FolS K G r p ∧ ∀ s, s < 32 → sbW s W → FolS K G s p → bcN r 8 ≤ bcN s 8 ∧ (bcN s 8 = bcN r 8 → r ≤ s)
theorem fpP_u {K : Nat → Nat} {G : Nat → Nat → Nat} {W p r r' : Nat} (h : fpP K G W p r) (h' : fpP K G W p r') : r = r' := by
  obtain ⟨a1, a2, a3, a4⟩ := h
  obtain ⟨b1, b2, b3, b4⟩ := h'
  have c := a4 r' b1 b2 b3
  have d := b4 r a1 a2 a3
  have := c.2 (by omega)
  have := d.2 (by omega)
  omega
section FEWP
variable {b : Nat} {f : mmF} {Ω : mO} {W p V : Nat} {S : Nat} {kd lf rt : Nat → Nat} {Pn : Nat → Nat → Nat}
theorem qOk.sub {s : Nat} (h : qOk Ω W p) (hs : s < 32) (e : sbW s W) : qOk Ω s p := ⟨hs, h.2.1, h.2.2.1, fun i hi => h.2.2.2 i (sb_bit hs e hi)⟩
theorem c_fp_49 (w : WO Ω) (hq : qOk Ω W p) {kn z : Nat} (hz : z < 5) (hV : ∀ i, (W.testBit i = true ∨ i = p) → i < 5 ∧ selP Ω.1.2.2.2.1 V i) (k40 : Nat → Int32 → Int32 → Int32 → mmF → Option (Int32 × mmF)) : ∀ (m i q : Nat) (ia fi : Nat → Nat → Int32) (fl : Nat → Nat → Int64) (qa : Nat → Nat → Option Nat), i + m = W → m < q → cqI b ia fi fl qa f Ω V S kd lf rt Pn → (∀ s, s < 32 → sbW s W → s ≠ W → FolS Ω.1.2.2.2.1 Ω.1.2.2.2.2 s p → z ≤ bcN s 8 ∧ (bcN s 8 = z → i ≤ s)) → (∃ r ia1 fi1 fl1, fpP Ω.1.2.2.2.1 Ω.1.2.2.2.2 W p r ∧ f_X9_fewestPremises_49 kn k40 q b (nI W) (nI p) (nI z) (nI i) (wr (SK b) ia fi fl qa f) = some (nI r, wr (SK b) ia1 fi1 fl1 qa f) ∧ CR b ia1 fi1 qa f Ω ∧ highE b ia fi ia1 fi1) ∨ ∃ ia1 fi1 fl1, (∀ s, s < 32 → sbW s W → s ≠ W → FolS Ω.1.2.2.2.1 Ω.1.2.2.2.2 s p → z + 1 ≤ bcN s 8) ∧ f_X9_fewestPremises_49 kn k40 q b (nI W) (nI p) (nI z) (nI i) (wr (SK b) ia fi fl qa f) = k40 b (nI W) (nI p) (nI (z + 1)) (wr (SK b) ia1 fi1 fl1 qa f) ∧ cqI b ia1 fi1 fl1 qa f Ω V S kd lf rt Pn ∧ highE b ia fi ia1 fi1 := by
  have hW := hq.1
  intro m
  induction m with
  | zero =>
    intro i q ia fi fl qa hi hm hc hn
    obtain ⟨q, rfl⟩ : ∃ k, q = k + 1 := ⟨q - 1, by omega⟩
    have e : i = W := by omega
    subst e
    refine Or.inr ⟨ia, fi, fl, fun s hs h1 h2 h3 => ?_, ?_, hc, highE_rf⟩
    · have h4 := hn s hs h1 h2 h3
      rcases sb_bc s hs i hW h1 with h | h
      · exact absurd h h2
      · by_cases e : bcN s 8 = z
        · have := h4.2 e; omega
        · omega
    · rw [f_X9_fewestPremises_49, if_pos (Int32.le_refl _), nI_1]
  | succ m ih =>
    intro i q ia fi fl qa hi hm hc hn
    obtain ⟨q, rfl⟩ : ∃ k, q = k + 1 := ⟨q - 1, by omega⟩
    have hiW : i < W := by omega
    have hi32 : i < 32 := by omega
    have next : ∀ (ia1 fi1 : Nat → Nat → Int32) (fl1 : Nat → Nat → Int64), cqI b ia1 fi1 fl1 qa f Ω V S kd lf rt Pn → highE b ia fi ia1 fi1 → ¬ (sbW i W ∧ bcN i 8 = z ∧ FolS Ω.1.2.2.2.1 Ω.1.2.2.2.2 i p) → (∃ r ia2 fi2 fl2, fpP Ω.1.2.2.2.1 Ω.1.2.2.2.2 W p r ∧ f_X9_fewestPremises_90 kn k40 (fun a0 a1 a2 a3 a4 a5 => f_X9_fewestPremises_49 kn k40 q a0 a1 a2 a3 a4 a5) b (nI W) (nI p) (nI z) (nI i) (wr (SK b) ia1 fi1 fl1 qa f) = some (nI r, wr (SK b) ia2 fi2 fl2 qa f) ∧ CR b ia2 fi2 qa f Ω ∧ highE b ia fi ia2 fi2) ∨ ∃ ia2 fi2 fl2, (∀ s, s < 32 → sbW s W → s ≠ W → FolS Ω.1.2.2.2.1 Ω.1.2.2.2.2 s p → z + 1 ≤ bcN s 8) ∧ f_X9_fewestPremises_90 kn k40 (fun a0 a1 a2 a3 a4 a5 => f_X9_fewestPremises_49 kn k40 q a0 a1 a2 a3 a4 a5) b (nI W) (nI p) (nI z) (nI i) (wr (SK b) ia1 fi1 fl1 qa f) = k40 b (nI W) (nI p) (nI (z + 1)) (wr (SK b) ia2 fi2 fl2 qa f) ∧ cqI b ia2 fi2 fl2 qa f Ω V S kd lf rt Pn ∧ highE b ia fi ia2 fi2 := by
      intro ia1 fi1 fl1 h1 h2 h3
      unfold f_X9_fewestPremises_90
      rw [nI_1]
      rcases ih (i + 1) q ia1 fi1 fl1 qa (by omega) (by omega) h1 (fun s hs a1 a2 a3 => ⟨(hn s hs a1 a2 a3).1, fun e => by
        have := (hn s hs a1 a2 a3).2 e
        by_cases es : s = i
        · subst es; exact absurd ⟨a1, e, a3⟩ h3
        · omega⟩) with ⟨r, ia2, fi2, fl2, b1, b2, b3, b4⟩ | ⟨ia2, fi2, fl2, b1, b2, b3, b4⟩
      · exact Or.inl ⟨r, ia2, fi2, fl2, b1, b2, b3, h2.tr b4⟩
      · exact Or.inr ⟨ia2, fi2, fl2, b1, b2, b3, h2.tr b4⟩
    have q1 : (nI (i &&& (255 ^^^ W)) = (0 : Int32)) = (i &&& (255 ^^^ W) = 0) := propext (nI_eq (b := 0) (Nat.lt_of_le_of_lt Nat.and_le_left (by omega)) (by decide))
    have hb5 := (bc_16 i hi32).2
    have q2 : (nI (bcN i 8) = nI z) = (bcN i 8 = z) := propext (nI_eq (by omega) (by omega))
    rw [f_X9_fewestPremises_49, if_neg (nI_ge hiW (by omega)), and_no W (by omega) i (by omega)]
    simp only [q1, jb_eq (show i < 256 by omega), Option.bind_some, q2]
    by_cases c1 : i &&& (255 ^^^ W) = 0
    · rw [if_pos c1]
      by_cases c2 : bcN i 8 = z
      · rw [if_pos c2]
        obtain ⟨ia1, fi1, fl1, a1, a2, a3⟩ := C_found (W := i) (p := p) hc w hi32 hq.2.1 (fun k hk => hV k (hk.imp (sb_bit hi32 c1) id))
        simp only [R_0_6, ck_20, a1, Option.bind_some]
        rcases foV_01 Ω.1.2.2.2.1 Ω.1.2.2.2.2 i p with ⟨hF, e⟩ | ⟨hF, e⟩
        · rw [e, if_neg (by decide)]
          refine Or.inl ⟨i, ia1, fi1, fl1, ⟨hi32, c1, hF, fun s hs h1 h3 => ?_⟩, rfl, a2.2.2, a3⟩
          by_cases es : s = W
          · subst es
            rcases sb_bc i hi32 s hW c1 with h | h
            · omega
            · exact ⟨by omega, fun h5 => by omega⟩
          · have := hn s hs h1 es h3
            exact ⟨by omega, fun h5 => this.2 (by omega)⟩
        · rw [e, if_pos rfl]
          exact next ia1 fi1 fl1 a2 a3 (fun h => hF h.2.2)
      · rw [if_neg c2]
        exact next ia fi fl hc highE_rf (fun h => c2 h.2.1)
    · rw [if_neg c1]
      exact next ia fi fl hc highE_rf (fun h => c1 h.1)
theorem c_fp_40 (w : WO Ω) (hq : qOk Ω W p) {kn : Nat} (hV : ∀ i, (W.testBit i = true ∨ i = p) → i < 5 ∧ selP Ω.1.2.2.2.1 V i) (hF : FolS Ω.1.2.2.2.1 Ω.1.2.2.2.2 W p) : ∀ (m z q : Nat) (ia fi : Nat → Nat → Int32) (fl : Nat → Nat → Int64) (qa : Nat → Nat → Option Nat), z + m = 5 → m < q → cqI b ia fi fl qa f Ω V S kd lf rt Pn → (∀ s, s < 32 → sbW s W → s ≠ W → FolS Ω.1.2.2.2.1 Ω.1.2.2.2.2 s p → z ≤ bcN s 8) → ∃ r ia1 fi1 fl1, fpP Ω.1.2.2.2.1 Ω.1.2.2.2.2 W p r ∧ f_X9_fewestPremises_40 kn q b (nI W) (nI p) (nI z) (wr (SK b) ia fi fl qa f) = some (nI r, wr (SK b) ia1 fi1 fl1 qa f) ∧ CR b ia1 fi1 qa f Ω ∧ highE b ia fi ia1 fi1 := by
  obtain ⟨qf, hqf⟩ := FU_1000
  have hW := hq.1
  intro m
  induction m with
  | zero =>
    intro z q ia fi fl qa hz hm hc hn
    obtain ⟨q, rfl⟩ : ∃ k, q = k + 1 := ⟨q - 1, by omega⟩
    have e : z = 5 := by omega
    subst e
    refine ⟨W, ia, fi, fl, ⟨hW, sb_self W hW, hF, fun s hs h1 h3 => ?_⟩, ?_, hc.2.2, highE_rf⟩
    · by_cases es : s = W
      · subst es; exact ⟨Nat.le_refl _, fun _ => Nat.le_refl _⟩
      · have h4 := hn s hs h1 es h3
        rcases sb_bc s hs W hW h1 with h | h
        · exact absurd h es
        · have := (bc_16 W hW).2
          omega
    · rw [f_X9_fewestPremises_40, if_pos (show (5 : Int32) ≤ nI 5 by decide)]
  | succ m ih =>
    intro z q ia fi fl qa hz hm hc hn
    obtain ⟨q, rfl⟩ : ∃ k, q = k + 1 := ⟨q - 1, by omega⟩
    rw [f_X9_fewestPremises_40, if_neg (show ¬ (5 : Int32) ≤ nI z from nI_ge (b := 5) (by omega) (by decide))]
    rcases c_fp_49 (f := f) w hq (kn := kn) (show z < 5 by omega) hV (fun a0 a1 a2 a3 a4 => f_X9_fewestPremises_40 kn q a0 a1 a2 a3 a4) W 0 FU ia fi fl qa (by omega) (by omega) hc (fun s hs a1 a2 a3 => ⟨hn s hs a1 a2 a3, fun _ => Nat.zero_le _⟩) with ⟨r, ia2, fi2, fl2, b1, b2, b3, b4⟩ | ⟨ia2, fi2, fl2, b1, b2, b3, b4⟩
    · exact ⟨r, ia2, fi2, fl2, b1, b2, b3, b4⟩
    · obtain ⟨r, ia3, fi3, fl3, d1, d2, d3, d4⟩ := ih (z + 1) q ia2 fi2 fl2 qa (by omega) (by omega) b3 b1
      exact ⟨r, ia3, fi3, fl3, d1, b2.trans d2, d3, b4.tr d4⟩
theorem m_fp_38 (hr : refF b f Ω) (hq : qOk Ω W p) : ∀ (m i q best : Nat) (ia fi : Nat → Nat → Int32) (fl : Nat → Nat → Int64) (qa : Nat → Nat → Option Nat), i + m = W → m < q → MR b ia fi Ω → best < 32 → sbW best W → FolS Ω.1.2.2.2.1 Ω.1.2.2.2.2 best p → (best = W ∨ best < i) → (∀ s, s < i → sbW s W → FolS Ω.1.2.2.2.1 Ω.1.2.2.2.2 s p → bcN best 8 ≤ bcN s 8 ∧ (bcN s 8 = bcN best 8 → best ≤ s)) → ∃ r ia1 fi1, fpP Ω.1.2.2.2.1 Ω.1.2.2.2.2 W p r ∧ f_X10_fewestPremises_38 q (b + 83) (nI W) (nI p) (nI best) (nI i) (wr (SK b) ia fi fl qa f) = some (nI r, wr (SK b) ia1 fi1 fl qa f) ∧ MR b ia1 fi1 Ω ∧ lowE b ia fi ia1 fi1 := by
  have hW := hq.1
  intro m
  induction m with
  | zero =>
    intro i q best ia fi fl qa hi hm h hb hs hF hbi hn
    obtain ⟨q, rfl⟩ : ∃ k, q = k + 1 := ⟨q - 1, by omega⟩
    have e : i = W := by omega
    subst e
    refine ⟨best, ia, fi, ⟨hb, hs, hF, fun s hs32 h1 h3 => ?_⟩, ?_, h, lowE_rf⟩
    · rcases sb_bc s hs32 i hW h1 with h | h
      · subst h
        rcases sb_bc best hb s hW hs with h | h
        · subst h; exact ⟨Nat.le_refl _, fun _ => Nat.le_refl _⟩
        · exact ⟨by omega, fun _ => by omega⟩
      · exact hn s h.2 h1 h3
    · rw [f_X10_fewestPremises_38, if_pos (Int32.le_refl _)]
  | succ m ih =>
    intro i q best ia fi fl qa hi hm h hb hs hF hbi hn
    obtain ⟨q, rfl⟩ : ∃ k, q = k + 1 := ⟨q - 1, by omega⟩
    have hiW : i < W := by omega
    have hi32 : i < 32 := by omega
    have q1 : (nI (i &&& (255 ^^^ W)) = (0 : Int32)) = (i &&& (255 ^^^ W) = 0) := propext (nI_eq (b := 0) (Nat.lt_of_le_of_lt Nat.and_le_left (by omega)) (by decide))
    obtain ⟨e16, e5⟩ := bc_16 i hi32
    obtain ⟨f16, f5⟩ := bc_16 best hb
    have q2 : (nI (bcN best 8) ≤ nI (bcN i 8)) = (bcN best 8 ≤ bcN i 8) := propext (nI_leI (by omega) (by omega))
    -- on, with the best so far
    have next : ∀ (ia1 fi1 : Nat → Nat → Int32) (best1 : Nat), MR b ia1 fi1 Ω → lowE b ia fi ia1 fi1 → best1 < 32 → sbW best1 W → FolS Ω.1.2.2.2.1 Ω.1.2.2.2.2 best1 p → (best1 = W ∨ best1 < i + 1) → (∀ s, s < i + 1 → sbW s W → FolS Ω.1.2.2.2.1 Ω.1.2.2.2.2 s p → bcN best1 8 ≤ bcN s 8 ∧ (bcN s 8 = bcN best1 8 → best1 ≤ s)) → ∃ r ia2 fi2, fpP Ω.1.2.2.2.1 Ω.1.2.2.2.2 W p r ∧ f_X10_fewestPremises_78 (fun a0 a1 a2 a3 a4 a5 => f_X10_fewestPremises_38 q a0 a1 a2 a3 a4 a5) (b + 83) (nI W) (nI p) (nI best1) (nI i) (wr (SK b) ia1 fi1 fl qa f) = some (nI r, wr (SK b) ia2 fi2 fl qa f) ∧ MR b ia2 fi2 Ω ∧ lowE b ia fi ia2 fi2 := by
      intro ia1 fi1 best1 h1 h2 h3 h4 h5 h6 h7
      obtain ⟨r, ia2, fi2, b1, b2, b3, b4⟩ := ih (i + 1) q best1 ia1 fi1 fl qa (by omega) (by omega) h1 h3 h4 h5 h6 h7
      refine ⟨r, ia2, fi2, b1, ?_, b3, h2.tr b4⟩
      unfold f_X10_fewestPremises_78
      rw [nI_1]
      exact b2
    have same : (sbW i W → FolS Ω.1.2.2.2.1 Ω.1.2.2.2.2 i p → bcN best 8 ≤ bcN i 8) → ∀ s, s < i + 1 → sbW s W → FolS Ω.1.2.2.2.1 Ω.1.2.2.2.2 s p → bcN best 8 ≤ bcN s 8 ∧ (bcN s 8 = bcN best 8 → best ≤ s) := fun hx s hsi h1 h3 => by
      by_cases e : s = i
      · subst e
        refine ⟨hx h1 h3, fun e => ?_⟩
        rcases hbi with h | h
        · subst h
          rcases sb_bc s hi32 best hb h1 with h | h
          · omega
          · omega
        · omega
      · exact hn s (by omega) h1 h3
    rw [f_X10_fewestPremises_38, if_neg (nI_ge hiW (by omega)), and_no W (by omega) i (by omega)]
    simp only [q1, bits_eq (show i < 2 ^ 31 by omega), bits_eq (show best < 2 ^ 31 by omega), e16, f16, Option.bind_some, q2]
    by_cases c1 : i &&& (255 ^^^ W) = 0
    · rw [if_pos c1]
      by_cases c2 : bcN best 8 ≤ bcN i 8
      · rw [if_pos c2]
        exact next ia fi best h lowE_rf hb hs hF (hbi.imp id (fun h => by omega)) (same (fun _ _ => c2))
      · rw [if_neg c2]
        obtain ⟨ia1, fi1, a1, a2⟩ := hr i p (hq.sub hi32 c1) ia fi fl qa h
        obtain ⟨m1, m2⟩ := h.hE a2
        simp only [ck_83, a1, Option.bind_some]
        rcases foV_01 Ω.1.2.2.2.1 Ω.1.2.2.2.2 i p with ⟨hF', e⟩ | ⟨hF', e⟩
        · rw [e, if_neg (by decide)]
          refine next ia1 fi1 i m1 m2 hi32 c1 hF' (Or.inr (Nat.lt_succ_self i)) (fun s hsi h1 h3 => ?_)
          by_cases es : s = i
          · subst es; exact ⟨Nat.le_refl _, fun _ => Nat.le_refl _⟩
          · have := hn s (by omega) h1 h3
            exact ⟨by omega, fun _ => by omega⟩
        · rw [e, if_pos rfl]
          exact next ia1 fi1 best m1 m2 hb hs hF (hbi.imp id (fun h => by omega)) (same (fun _ h3 => absurd h3 hF'))
    · rw [if_neg c1]
      exact next ia fi best h lowE_rf hb hs hF (hbi.imp id (fun h => by omega)) (same (fun h1 => absurd h1 c1))
theorem t_fewestPremises (w : WO Ω) (hr : refF b f Ω) {kn : Nat} (hkn : KNf b f kn) (x y : Int32) : Meth b f Ω (fun μ => f_X9_fewestPremises kn b x y μ) (fun μ => f_X10_fewestPremises (b + 83) x y μ) := by
  obtain ⟨qf, hqf⟩ := FU_1000
  refine asks_t w x y (fun ia fi fl qa e e0 h he => ?_) (fun ia fi fl qa h => ⟨fun h1 => ?_, fun h1 h2 => ?_⟩) (fun W p ex ey hq h1 h2 => ?_)
  · show f_X9_fewestPremises kn b x y _ = _
    unfold f_X9_fewestPremises
    simp only [ck_0, he, Option.bind_some, if_neg e0]
  · show f_X10_fewestPremises (b + 83) x y _ = _
    unfold f_X10_fewestPremises
    simp only [ck_83, h1, Option.bind_some, i10, if_false]
  · show f_X10_fewestPremises (b + 83) x y _ = _
    unfold f_X10_fewestPremises
    simp only [ck_83, h1, h2, Option.bind_some, i10, i00, if_true, if_false]
  · subst ex ey
    have hW := hq.1
    rcases foV_01 Ω.1.2.2.2.1 Ω.1.2.2.2.2 W p with ⟨hF, e⟩ | ⟨hF, e⟩
    · -- it follows
      have hex : ∃ r, fpP Ω.1.2.2.2.1 Ω.1.2.2.2.2 W p r ∨ ∀ r, ¬ fpP Ω.1.2.2.2.1 Ω.1.2.2.2.2 W p r := by
        by_cases h : ∃ r, fpP Ω.1.2.2.2.1 Ω.1.2.2.2.2 W p r
        · obtain ⟨r, h⟩ := h; exact ⟨r, Or.inl h⟩
        · exact ⟨0, Or.inr (fun r hr => h ⟨r, hr⟩)⟩
      obtain ⟨r, hr0⟩ := hex
      have huse : ∀ r', fpP Ω.1.2.2.2.1 Ω.1.2.2.2.2 W p r' → r' = r := fun r' h' => hr0.elim (fun h => fpP_u h' h) (fun h => absurd h' (h r'))
      refine ⟨nI r, Ω, w, fun ia fi fl qa h => ?_, fun ia fi fl qa h => ?_⟩
      · show CRes b f ia fi (f_X9_fewestPremises kn b (nI W) (nI p) _) _ _
        obtain ⟨ia1, fi1, S, kd, lf, rt, Pn, z1, z2, z3, z4⟩ := C_asks (fl := fl) h w hkn hq
        obtain ⟨ia2, fi2, fl2, a1, a2, a3⟩ := C_found (z2.cq (fl := fl) z3) w hW hq.2.1 (fun i hi => hq.sel hi)
        obtain ⟨r', ia3, fi3, fl3, d1, d2, d3, d4⟩ := c_fp_40 (f := f) w hq (kn := kn) (fun i hi => hq.sel hi) hF 5 0 FU ia2 fi2 fl2 qa (by omega) (by omega) a2 (fun s _ _ _ _ => Nat.zero_le _)
        have er := huse r' d1
        subst er
        rw [show nI 0 = (0 : Int32) from rfl] at d2
        unfold f_X9_fewestPremises
        simp only [ck_0, h1 ia fi fl qa h, z1, Option.bind_some, if_true, R_0_6, ck_20, a1, e, i10, if_false, d2]
        exact ⟨ia3, fi3, fl3, qa, rfl, d3, (z4.tr a3).tr d4⟩
      · show MRes b f ia fi qa (f_X10_fewestPremises (b + 83) (nI W) (nI p) _) _ _
        obtain ⟨ia1, fi1, a1, a2⟩ := hr W p hq ia fi fl qa h
        obtain ⟨m1, m2⟩ := h.hE a2
        obtain ⟨r', ia3, fi3, d1, d2, d3, d4⟩ := m_fp_38 (f := f) hr hq W 0 FU W ia1 fi1 fl qa (by omega) (by omega) m1 hW (sb_self W hW) hF (Or.inl rfl) (fun s hs => absurd hs (Nat.not_lt_zero _))
        have er := huse r' d1
        subst er
        rw [show nI 0 = (0 : Int32) from rfl] at d2
        unfold f_X10_fewestPremises
        simp only [ck_83, (h2 ia fi fl qa h).1, (h2 ia fi fl qa h).2, Option.bind_some, if_true, a1, e, i10, if_false, d2]
        exact ⟨ia3, fi3, fl, rfl, d3, m2.tr d4⟩
    · refine ⟨-4, Ω, w, fun ia fi fl qa h => ?_, fun ia fi fl qa h => ?_⟩
      · show CRes b f ia fi (f_X9_fewestPremises kn b (nI W) (nI p) _) _ _
        obtain ⟨ia1, fi1, S, kd, lf, rt, Pn, z1, z2, z3, z4⟩ := C_asks (fl := fl) h w hkn hq
        obtain ⟨ia2, fi2, fl2, a1, a2, a3⟩ := C_found (z2.cq (fl := fl) z3) w hW hq.2.1 (fun i hi => hq.sel hi)
        unfold f_X9_fewestPremises
        simp only [ck_0, h1 ia fi fl qa h, z1, Option.bind_some, if_true, R_0_6, ck_20, a1, e]
        exact ⟨ia2, fi2, fl2, qa, rfl, a2.2.2, z4.tr a3⟩
      · show MRes b f ia fi qa (f_X10_fewestPremises (b + 83) (nI W) (nI p) _) _ _
        obtain ⟨ia1, fi1, a1, a2⟩ := hr W p hq ia fi fl qa h
        obtain ⟨m1, m2⟩ := h.hE a2
        unfold f_X10_fewestPremises
        simp only [ck_83, (h2 ia fi fl qa h).1, (h2 ia fi fl qa h).2, Option.bind_some, if_true, a1, e]
        exact ⟨ia1, fi1, fl, rfl, m1, m2⟩
end FEWP
