/-! THE SHELF: which places are filled; drop -/
def plN (K : Nat → Nat) : Nat → Nat := fun n => fo (fun i x => x ||| (if K i = 0 then 0 else 2 ^ i)) n 0
theorem plN_s (K : Nat → Nat) (n : Nat) : plN K (n + 1) = plN K n ||| (if K n = 0 then 0 else 2 ^ n) := rfl
theorem plN_lt (K : Nat → Nat) : ∀ n : Nat, plN K n < 2 ^ n
  | 0 => by
    show (0 : Nat) < 2 ^ 0
    decide
  | n + 1 => by
    rw [plN_s]
    have h1 := plN_lt K n
    have h2 : 2 ^ n < 2 ^ (n + 1) := Nat.pow_lt_pow_right (by decide) (by omega)
    refine or_lt (Nat.lt_trans h1 h2) ?_
    by_cases h : K n = 0
    · rw [if_pos h]; exact Nat.two_pow_pos _
    · rw [if_neg h]; exact h2
theorem plN_bit (K : Nat → Nat) (i : Nat) : ∀ n : Nat, (plN K n).testBit i = (decide (i < n) && decide (K i ≠ 0))
  | 0 => by simp [plN, fo]
  | n + 1 => by
    rw [plN_s, Nat.testBit_or, plN_bit K i n]
    by_cases hi : i = n
    · subst hi
      by_cases h : K i = 0
      · simp [h]
      · simp [h, Nat.testBit_two_pow_self]
    · have e : (if K n = 0 then 0 else 2 ^ n).testBit i = false := by
        by_cases h : K n = 0
        · rw [if_pos h]; exact Nat.zero_testBit _
        · rw [if_neg h, Nat.testBit_two_pow]; exact decide_eq_false (fun h => hi h.symm)
      rw [e, Bool.or_false]
      congr 1
      exact decide_eq_decide.mpr (by omega)
section SHELF
variable {b : Nat} {ia fi : Nat → Nat → Int32} {fl : Nat → Nat → Int64} {qa : Nat → Nat → Option Nat} {f : mmF} {Ω : mO} {K : Nat → Nat} {G : Nat → Nat → Nat} {row : Nat → Int32}
theorem place_t {k : Nat} (hk : k < 5) (f : mmF) : f_X9_isPlace (nI k) f = some 1 := by
  unfold f_X9_isPlace
  rw [if_neg (nI_pos (by omega)), show (5 : Int32) = nI 5 from rfl, if_neg (nI_ge hk (by decide))]
theorem place_f {x : Int32} (hx : ∀ k, k < 5 → x ≠ nI k) (f : mmF) : f_X9_isPlace x f = some 0 := by
  unfold f_X9_isPlace
  by_cases h0 : x < 0
  · rw [if_pos h0]
  · rw [if_neg h0]
    obtain ⟨j, hj, rfl⟩ := nI_of h0
    have : 5 ≤ j := Nat.not_lt.mp fun h => hx j h rfl
    rw [show (5 : Int32) = nI 5 from rfl, if_pos (nI_le this hj)]
theorem noPlace_t {k : Nat} (hk : k < 5) (f : mmF) : f_X10_noPlace (nI k) f = some 0 := by
  unfold f_X10_noPlace
  rw [show (4 : Int32) = nI 4 from rfl, in_t (show k ≤ 4 by omega) (by decide)]
  simp only [Option.bind_some, i10, if_false]
theorem noPlace_f {x : Int32} (hx : ∀ k, k < 5 → x ≠ nI k) (f : mmF) : f_X10_noPlace x f = some 1 := by
  unfold f_X10_noPlace
  rw [show (4 : Int32) = nI 4 from rfl, in_f (m := 4) (by decide) (fun k hk => hx k (by omega))]
  simp only [Option.bind_some, i00, if_true]
theorem claimAt_t {k : Nat} (hk : k < 5) : f_X9_claimAt b (nI k) (wr (SK b) ia fi fl qa f) = some (qa (b + 1 + 3) k) := by
  unfold f_X9_claimAt
  simp only [place_t hk, Option.bind_some, i10, if_false, R_0_0, S_R3 (Or.inl rfl : isSt b (b + 1)), S_Q (Or.inl rfl : isSt b (b + 1)) hk]
theorem claimAt_f {x : Int32} (hx : ∀ k, k < 5 → x ≠ nI k) : f_X9_claimAt b x (wr (SK b) ia fi fl qa f) = some none := by
  unfold f_X9_claimAt
  simp only [place_f hx, Option.bind_some, i00, if_true]
theorem at17 (k : Nat) : (17 : Int32) + (31 : Int32) * nI k = nI (17 + 31 * k) := by
  rw [show (31 : Int32) = nI 31 from rfl, pk_mul, show (17 : Int32) = nI 17 from rfl, nI_add]
theorem noClaim_t (h : MSh (ia (b + 84)) K G) {k : Nat} (hk : k < 5) (h30 : K k < 2 ^ 31) : f_X10_noClaim (b + 83) (nI k) (wr (SK b) ia fi fl qa f) = some (if K k = 0 then 1 else 0) := by
  unfold f_X10_noClaim
  simp only [noPlace_t hk, Option.bind_some, i00, if_true, R_83_0, at17, An_84 (show 17 + 31 * k < 172 by omega), (h k hk).1]
  by_cases h0 : K k = 0
  · rw [if_pos h0, h0, if_pos (by decide)]
  · rw [if_neg h0, if_neg]
    intro e
    exact h0 ((nI_eq (b := 0) h30 (by decide)).mp e)
theorem noClaim_f {x : Int32} (hx : ∀ k, k < 5 → x ≠ nI k) : f_X10_noClaim (b + 83) x (wr (SK b) ia fi fl qa f) = some 1 := by
  unfold f_X10_noClaim
  simp only [noPlace_f hx, Option.bind_some, i10, if_false]
theorem c_fill_4 {s : Nat} (hs : isSt b s) (h : CSh b qa f s K G) : ∀ (m i q : Nat), i + m = 5 → m < q → f_X7_filledPlaces_4 (wr (SK b) ia fi fl qa f) q s (nI (plN K i)) (nI i) = some (nI (plN K 5)) := by
  intro m
  induction m with
  | zero =>
    intro i n hi hm
    obtain ⟨n, rfl⟩ : ∃ k, n = k + 1 := ⟨n - 1, by omega⟩
    have hi6 : i = 5 := by omega
    subst hi6
    rw [f_X7_filledPlaces_4, if_pos (show (5 : Int32) ≤ nI 5 by decide)]
  | succ m ih =>
    intro i n hi hm
    obtain ⟨n, rfl⟩ : ∃ k, n = k + 1 := ⟨n - 1, by omega⟩
    have hlt : ¬ (5 : Int32) ≤ nI i := nI_ge (a := i) (b := 5) (by omega) (by decide)
    rw [f_X7_filledPlaces_4, if_neg hlt]
    simp only [S_R3 hs, S_Q hs (show i < 5 by omega), Option.bind_some]
    rcases h i (by omega) with ⟨h0, h1⟩ | ⟨h0, c, h1, _⟩
    · rw [h1]
      simp only [qc]
      unfold f_X7_filledPlaces_26
      rw [show (0 : Int32) = nI 0 from rfl, fa_or, nI_1, ← ih (i + 1) n (by omega) (by omega), plN_s, if_pos h0]
    · rw [h1]
      simp only [qc]
      unfold f_X7_filledPlaces_26
      rw [bt_shl (show i < 32 by omega), fa_or, nI_1, ← ih (i + 1) n (by omega) (by omega), plN_s, if_neg (by omega)]
theorem c_fill {s : Nat} (hs : isSt b s) (h : CSh b qa f s K G) : f_X7_filledPlaces s (wr (SK b) ia fi fl qa f) = some (nI (plN K 5)) := by
  obtain ⟨q, hq⟩ := FU_1000
  exact c_fill_4 hs h 5 0 FU rfl (by omega)
theorem m_places_4 (h : MSh (ia (b + 84)) K G) (h30 : ∀ p, p < 5 → K p < 2 ^ 31) : ∀ (m i q : Nat), i + m = 5 → m < q → f_X10_places_4 (wr (SK b) ia fi fl qa f) q (b + 83) (nI (plN K i)) (nI i) = some (nI (plN K 5)) := by
  intro m
  induction m with
  | zero =>
    intro i n hi hm
    obtain ⟨n, rfl⟩ : ∃ k, n = k + 1 := ⟨n - 1, by omega⟩
    have hi6 : i = 5 := by omega
    subst hi6
    rw [f_X10_places_4, if_pos (show (5 : Int32) ≤ nI 5 by decide)]
  | succ m ih =>
    intro i n hi hm
    obtain ⟨n, rfl⟩ : ∃ k, n = k + 1 := ⟨n - 1, by omega⟩
    have hlt : ¬ (5 : Int32) ≤ nI i := nI_ge (a := i) (b := 5) (by omega) (by decide)
    rw [f_X10_places_4, if_neg hlt]
    simp only [ck_83, noClaim_t h (show i < 5 by omega) (h30 i (by omega)), Option.bind_some]
    by_cases h0 : K i = 0
    · rw [if_pos h0, if_neg (by decide)]
      unfold f_X10_places_25
      rw [show (0 : Int32) = nI 0 from rfl, fa_or, nI_1, ← ih (i + 1) n (by omega) (by omega), plN_s, if_pos h0]
    · rw [if_neg h0, if_pos rfl]
      unfold f_X10_places_25
      rw [bt_shl (show i < 32 by omega), fa_or, nI_1, ← ih (i + 1) n (by omega) (by omega), plN_s, if_neg h0]
theorem m_places (h : MSh (ia (b + 84)) K G) (h30 : ∀ p, p < 5 → K p < 2 ^ 31) : f_X10_places (b + 83) (wr (SK b) ia fi fl qa f) = some (nI (plN K 5)) := by
  obtain ⟨q, hq⟩ := FU_1000
  exact m_places_4 h h30 5 0 FU rfl (by omega)
theorem WSt.k30 {σ : mSt} (w : WSt σ) {p : Nat} (hp : p < 5) : σ.2.2.2.1 p ≤ 30 := by
  by_cases h : 0 < σ.2.2.2.1 p
  · exact (w.2 p hp h).2.1
  · omega
end SHELF
section METH5
variable {b : Nat} {f : mmF} {Ω : mO}
theorem upd_sN (K : Nat → Nat) (p v : Nat) : (fun q => if q = p then v else K q) p = v := if_pos rfl
theorem t_drop (w : WO Ω) (x : Int32) : Meth b f Ω (fun μ => f_X9_drop b x μ) (fun μ => f_X10_drop (b + 83) x μ) := by
  have hb1 : isSt b (b + 1) := Or.inl rfl
  by_cases hx : ∃ k, k < 5 ∧ x = nI k
  · obtain ⟨k, hk, rfl⟩ := hx
    by_cases h0 : Ω.1.2.2.2.1 k = 0
    · refine ⟨-1, Ω, w, fun ia fi fl qa h => ?_, fun ia fi fl qa h => ?_⟩
      · show CRes b f ia fi (f_X9_drop b (nI k) _) _ _
        unfold f_X9_drop
        simp only [ck_0, claimAt_t hk, Option.bind_some]
        rcases h.1.2 k hk with ⟨_, h1⟩ | ⟨h1, _⟩
        · rw [h1]
          exact CRes.same h
        · omega
      · show MRes b f ia fi qa (f_X10_drop (b + 83) (nI k) _) _ _
        unfold f_X10_drop
        simp only [ck_83, noClaim_t h.1.2 hk (show Ω.1.2.2.2.1 k < 2 ^ 31 by omega), Option.bind_some, h0, if_true, i10, if_false]
        exact MRes.same h
    · have wk := w.1.k30 hk
      obtain ⟨σ, hσ⟩ : ∃ σ : mSt, σ = (Ω.1.1, Ω.1.2.1, Ω.1.2.2.1, (fun q => if q = k then 0 else Ω.1.2.2.2.1 q), Ω.1.2.2.2.2) := ⟨_, rfl⟩
      have wσ : WSt σ := by
        subst hσ
        refine ⟨w.1.1, fun p hp hq => ?_⟩
        have hq' : 0 < (if p = k then 0 else Ω.1.2.2.2.1 p) := hq
        by_cases hpk : p = k
        · rw [if_pos hpk] at hq'; omega
        · show VC (if p = k then 0 else Ω.1.2.2.2.1 p) _
          rw [if_neg hpk] at hq' ⊢
          exact w.1.2 p hp hq'
      have eK : ∀ p, σ.2.2.2.1 p = if p = k then 0 else Ω.1.2.2.2.1 p := by subst hσ; intro p; rfl
      refine ⟨nI (bcN (plN σ.2.2.2.1 5) 8), (σ, (recO Ω).2.1, (recO Ω).2.2), w.rec.cur wσ (Nat.le_refl _), fun ia fi fl qa h => ?_, fun ia fi fl qa h => ?_⟩
      · show CRes b f ia fi (f_X9_drop b (nI k) _) _ _
        obtain ⟨ia1, fi1, qa1, er, hr, hh⟩ := C_rec (fl := fl) h w
        have hcs : CSt b ia1 fi1 (u2 qa1 (b + 1 + 3) k none) f (b + 1) σ := by
          have h1 : CSt b ia1 fi1 qa1 f (b + 1) Ω.1 := hr.1
          subst hσ
          refine ⟨h1.1, fun p hp => ?_⟩
          by_cases hpk : p = k
          · subst hpk
            exact Or.inl ⟨if_pos rfl, u2_s _ _ _ _⟩
          · have e1 : (if p = k then 0 else Ω.1.2.2.2.1 p) = Ω.1.2.2.2.1 p := if_neg hpk
            rw [u2_i _ _ hpk]
            show ((if p = k then 0 else Ω.1.2.2.2.1 p) = 0 ∧ _) ∨ (0 < (if p = k then 0 else Ω.1.2.2.2.1 p) ∧ ∃ c, _ ∧ ClA b f c (if p = k then 0 else Ω.1.2.2.2.1 p) _)
            rw [e1]
            exact h1.2 p hp
        unfold f_X9_drop
        simp only [ck_0, claimAt_t hk, Option.bind_some]
        rcases h.1.2 k hk with ⟨h1, _⟩ | ⟨h1, c, h2, _⟩
        · omega
        · rw [h2]
          simp only [qc, er, Option.bind_some, R_0_0, S_R3 hb1, S_sQ hb1 hk (r := none) rfl, S_ck hb1, c_fill hb1 hcs.2, jb_eq (Nat.lt_of_lt_of_le (plN_lt _ 5) (by decide))]
          have hS := hr.cur (ia1 := ia1) (fi1 := fi1) (qa1 := u2 qa1 (b + 1 + 3) k none) (σ := σ) (r := (recO Ω).2.1) hcs (Nat.le_refl _) (fun a ha => rfl) (fun a j h1 h2 => rfl) hr.2.2.1 (fun a ha => u2_row _ _ (by omega))
          exact ⟨_, _, _, _, rfl, hS.1, hh.tr hS.2⟩
      · show MRes b f ia fi qa (f_X10_drop (b + 83) (nI k) _) _ _
        obtain ⟨ia1, fi1, er, hr, hl⟩ := M_rec (fl := fl) (qa := qa) (f := f) h w
        have h1 : MSt (ia1 (b + 84)) Ω.1 := hr.1
        have hms : MSt (fun j => if j = 17 + 31 * k then 0 else ia1 (b + 84) j) σ := by
          have n8' := w.1.1.2.1
          subst hσ
          refine ⟨⟨?_, fun i hi => ?_⟩, fun p hp => ⟨?_, fun j hj => ?_⟩⟩
          · exact (if_neg (by omega)).trans h1.1.1
          · have hi' : i < Ω.1.1 := hi
            exact ⟨(if_neg (by omega)).trans (h1.1.2 i hi).1, (if_neg (by omega)).trans (h1.1.2 i hi).2⟩
          · show (if 17 + 31 * p = 17 + 31 * k then 0 else ia1 (b + 84) (17 + 31 * p)) = nI (if p = k then 0 else Ω.1.2.2.2.1 p)
            by_cases hpk : p = k
            · subst hpk
              rw [if_pos rfl, if_pos rfl]
              rfl
            · rw [if_neg (by omega), if_neg hpk]
              exact (h1.2 p hp).1
          · have hj' : j < (if p = k then 0 else Ω.1.2.2.2.1 p) := hj
            by_cases hpk : p = k
            · rw [if_pos hpk] at hj'; omega
            · rw [if_neg hpk] at hj'
              have := w.1.k30 hp
              exact (if_neg (by omega)).trans ((h1.2 p hp).2 j hj')
        unfold f_X10_drop
        have e31 : ∀ p, p < 5 → σ.2.2.2.1 p < 2 ^ 31 := fun p hp => by
          have := wσ.k30 hp
          omega
        simp only [ck_83, noClaim_t h.1.2 hk (show Ω.1.2.2.2.1 k < 2 ^ 31 by omega), Option.bind_some, if_neg h0, i00, if_true, er, R_83_0, at17, sAn_84 (show 17 + 31 * k < 172 by omega), u2_is]
        rw [m_places (K := σ.2.2.2.1) (G := σ.2.2.2.2) (by rw [rw2_s]; exact hms.2) e31]
        simp only [Option.bind_some]
        rw [bits_eq (Nat.lt_of_lt_of_le (plN_lt _ 5) (by decide)), bcN_more (n := 5) (plN_lt _ 5) 11, ← bcN_more (n := 5) (plN_lt _ 5) 3]
        have hS := hr.cur (R := fun j => if j = 17 + 31 * k then 0 else ia1 (b + 84) j) (fi1 := fi1) (σ := σ) (r := (recO Ω).2.1) hms (Nat.le_refl _) (fun a j h2 => rfl) hr.2.2.1
        exact ⟨_, _, _, rfl, hS.1, hl.tr hS.2⟩
  · have hx2 : ∀ k, k < 5 → x ≠ nI k := fun k hk e => hx ⟨k, hk, e⟩
    refine ⟨-1, Ω, w, fun ia fi fl qa h => ?_, fun ia fi fl qa h => ?_⟩
    · show CRes b f ia fi (f_X9_drop b x _) _ _
      unfold f_X9_drop
      simp only [ck_0, claimAt_f hx2, Option.bind_some, qc]
      exact CRes.same h
    · show MRes b f ia fi qa (f_X10_drop (b + 83) x _) _ _
      unfold f_X10_drop
      simp only [ck_83, noClaim_f hx2, Option.bind_some, i10, if_false]
      exact MRes.same h
end METH5
