/-! THE REFERENCE FINDS THE STAGES THAT ARE ALIKE -/
def clb (a k : Nat) : Nat := a &&& (255 ^^^ 2 ^ k)
theorem clb_1 : ∀ a, a < 256 → ∀ k, k < 8 → nI a &&& ((1 : Int32) <<< (nI k &&& 31) ^^^ (-1 : Int32)) = nI (clb a k) := by decide +kernel
theorem clb_bit {a k j : Nat} (ha : a < 256) : (clb a k).testBit j = (a.testBit j && decide (j ≠ k)) := by
  unfold clb
  rw [Nat.testBit_and, Nat.testBit_xor, show (255 : Nat) = 2 ^ 8 - 1 from rfl, Nat.testBit_two_pow_sub_one, Nat.testBit_two_pow]
  by_cases hj : j < 8
  · by_cases hk : j = k
    · subst hk
      simp [hj]
    · have hk' : ¬ k = j := fun h => hk h.symm
      simp [hj, hk, hk']
  · rw [bt_lt (n := 8) ha (by omega)]
    simp
theorem clb_lt {a k n : Nat} (h : a < 2 ^ n) : clb a k < 2 ^ n := Nat.lt_of_le_of_lt Nat.and_le_left h
def eqB (F : Nat → Nat) (s : Nat) (n : Nat) : Nat := fo (fun t x => x ||| (if F s = F t then 2 ^ t else 0)) n 0
theorem eqB_bit (F : Nat → Nat) (s t : Nat) : ∀ n : Nat, (eqB F s n).testBit t = (decide (t < n) && decide (F s = F t))
  | 0 => by simp [eqB, fo]
  | n + 1 => by
    show (eqB F s n ||| (if F s = F n then 2 ^ n else 0)).testBit t = _
    rw [Nat.testBit_or, eqB_bit F s t n]
    by_cases hi : t = n
    · subst hi
      by_cases h : F s = F t
      · simp [h, Nat.testBit_two_pow_self]
      · simp [h]
    · have e : (if F s = F n then 2 ^ n else 0).testBit t = false := by
        by_cases h : F s = F n
        · rw [if_pos h, Nat.testBit_two_pow]; exact decide_eq_false (fun h => hi h.symm)
        · rw [if_neg h]; exact Nat.zero_testBit _
      rw [e, Bool.or_false]
      congr 1
      exact decide_eq_decide.mpr (by omega)
theorem eqB_lt (F : Nat → Nat) (s n : Nat) : eqB F s n < 2 ^ n := bt_lim fun i hi => by
  rw [eqB_bit, decide_eq_false (by omega : ¬ i < n)]
  rfl
theorem and_bit {a c : Nat} : a &&& c ≠ 0 ↔ ∃ v, a.testBit v = true ∧ c.testBit v = true := by
  constructor
  · intro h
    by_cases hx : ∃ v, a.testBit v = true ∧ c.testBit v = true
    · exact hx
    · refine absurd (Nat.eq_of_testBit_eq fun i => ?_) h
      rw [Nat.testBit_and, Nat.zero_testBit]
      cases ha : a.testBit i with
      | false => rfl
      | true => cases hc : c.testBit i with
        | false => rfl
        | true => exact absurd ⟨i, ha, hc⟩ hx
  · intro ⟨v, h1, h2⟩ h
    have := congrArg (fun x => x.testBit v) h
    simp only [Nat.testBit_and, h1, h2, Nat.zero_testBit] at this
    cases this
/-- what the array like holds on its way -/
def LK (n : Nat) (L F lk : Nat → Nat) : Prop := (∀ s, s < n → lk s < 2 ^ n) ∧ (∀ s t, s < n → t < n → (lk s).testBit t = true → (lk t).testBit s = true ∧ F s = F t) ∧ ∀ s t, Al n L F s t → (lk s).testBit t = true
def MtL (L lk : Nat → Nat) (a c : Nat) : Prop := ∀ u, (L a).testBit u = true → lk u &&& L c ≠ 0
noncomputable def mz (lk : Nat → Nat) : Nat := cnP (fun p => (lk (p / 8)).testBit (p % 8) = true) 64
section LIKEM
variable {n : Nat} {L F : Nat → Nat}
theorem LK.met {lk : Nat → Nat} (h : LK n L F lk) {s t : Nat} (hA : Al n L F s t) : MtL L lk s t := by
  intro u hu
  obtain ⟨v, hv, e⟩ := hA.fw u hu
  exact and_bit.mpr ⟨v, h.2.2 u v e, hv⟩
/-- a pair is taken out -/
def rmv (lk : Nat → Nat) (s t : Nat) : Nat → Nat := fun j => if j = t then clb (lk t) s else if j = s then clb (lk s) t else lk j
theorem rmv_bit {lk : Nat → Nat} {s t : Nat} (hs : lk s < 256) (ht : lk t < 256) (hst : s ≠ t) (a c : Nat) : (rmv lk s t a).testBit c = ((lk a).testBit c && decide (¬ ((a = s ∧ c = t) ∨ (a = t ∧ c = s)))) := by
  unfold rmv
  by_cases h1 : a = t
  · subst h1
    rw [if_pos rfl, clb_bit ht]
    congr 1
    exact decide_eq_decide.mpr (by omega)
  · rw [if_neg h1]
    by_cases h2 : a = s
    · subst h2
      rw [if_pos rfl, clb_bit hs]
      congr 1
      exact decide_eq_decide.mpr (by omega)
    · rw [if_neg h2, decide_eq_true (by omega : ¬ ((a = s ∧ c = t) ∨ (a = t ∧ c = s))), Bool.and_true]
theorem LK.rmv {lk : Nat → Nat} (h : LK n L F lk) (hL : ∀ i, i < n → L i < 2 ^ n) (h8 : n ≤ 8) {s t : Nat} (hs : s < n) (ht : t < n) (hb : (lk s).testBit t = true) (hn : ¬ (MtL L lk s t ∧ MtL L lk t s)) : s ≠ t ∧ LK n L F (rmv lk s t) ∧ mz (rmv lk s t) < mz lk := by
  have hA : ¬ Al n L F s t := fun hA => hn ⟨h.met hA, h.met hA.sy⟩
  have hlt : ∀ j, j < n → lk j < 256 := fun j hj => Nat.lt_of_lt_of_le (h.1 j hj) (p8 h8)
  have hst : s ≠ t := by
    intro e
    subst e
    exact hA (Al.rf hL hs)
  have hbit := rmv_bit (hlt s hs) (hlt t ht) hst
  refine ⟨hst, ⟨fun j hj => ?_, fun a c ha hc hac => ?_, fun a c hac => ?_⟩, ?_⟩
  · show (if j = t then clb (lk t) s else if j = s then clb (lk s) t else lk j) < 2 ^ n
    by_cases h1 : j = t
    · rw [if_pos h1]; exact clb_lt (h.1 t ht)
    · rw [if_neg h1]
      by_cases h2 : j = s
      · rw [if_pos h2]; exact clb_lt (h.1 s hs)
      · rw [if_neg h2]; exact h.1 j hj
  · rw [hbit, Bool.and_eq_true, decide_eq_true_eq] at hac
    have := h.2.1 a c ha hc hac.1
    refine ⟨?_, this.2⟩
    rw [hbit, Bool.and_eq_true, decide_eq_true_eq]
    exact ⟨this.1, by omega⟩
  · rw [hbit, Bool.and_eq_true, decide_eq_true_eq]
    refine ⟨h.2.2 a c hac, fun hx => ?_⟩
    rcases hx with ⟨rfl, rfl⟩ | ⟨rfl, rfl⟩
    · exact hA hac
    · exact hA hac.sy
  · refine cnP_lt 64 (fun i _ hi => ?_) (8 * s + t) (by omega) ?_ ?_
    · rw [hbit, Bool.and_eq_true] at hi
      exact hi.1
    · rw [show (8 * s + t) / 8 = s by omega, show (8 * s + t) % 8 = t by omega, hbit, Bool.and_eq_true, decide_eq_true_eq]
      intro hx
      exact hx.2 (Or.inl ⟨rfl, rfl⟩)
    · show (lk ((8 * s + t) / 8)).testBit ((8 * s + t) % 8) = true
      rw [show (8 * s + t) / 8 = s by omega, show (8 * s + t) % 8 = t by omega]
      exact hb
/-- at the end the array says what is alike -/
theorem LK.fin {lk : Nat → Nat} (h : LK n L F lk) (hL : ∀ i, i < n → L i < 2 ^ n) (hc : ∀ s t, s < n → t < n → (lk s).testBit t = true → MtL L lk s t ∧ MtL L lk t s) {s t : Nat} (hs : s < n) : (lk s).testBit t = true ↔ Al n L F s t := by
  refine ⟨fun hb => ?_, h.2.2 s t⟩
  have ht : ∀ a c, a < n → (lk a).testBit c = true → c < n := fun a c ha hx => Nat.not_le.mp fun hle => by rw [bt_lt (h.1 a ha) hle] at hx; cases hx
  refine Al.of (E := fun a c => a < n ∧ c < n ∧ (lk a).testBit c = true) (fun a c hx => ⟨hx.2.1, hx.1, (h.2.1 a c hx.1 hx.2.1 hx.2.2).1⟩) (fun a c hx => ⟨hx.1, hx.2.1, (h.2.1 a c hx.1 hx.2.1 hx.2.2).2, fun u hu => ?_⟩) ⟨hs, ht s t hs hb, hb⟩
  have hun : u < n := Nat.not_le.mp fun hle => by rw [bt_lt (hL a hx.1) hle] at hu; cases hu
  obtain ⟨v, hv, hv2⟩ := and_bit.mp ((hc a c hx.1 hx.2.1 hx.2.2).1 u hu)
  exact ⟨v, hv2, hun, ht u v hun hv, hv⟩
end LIKEM
section LIKEM2
variable {b n : Nat} {L F : Nat → Nat} {ia fi : Nat → Nat → Int32} {fl : Nat → Nat → Int64} {qa : Nat → Nat → Option Nat} {f : mmF} {X : Nat → Int32}
/-- the array like as numbers -/
def lkR (n : Nat) (lk : Nat → Nat) (X : Nat → Int32) : Nat → Int32 := fun j => if j < n then nI (lk j) else X j
theorem lkR_at {lk : Nat → Nat} {j : Nat} (h : j < n) : lkR n lk X j = nI (lk j) := if_pos h
theorem lkR_rmv {lk : Nat → Nat} {s t : Nat} (hs : s < n) (ht : t < n) (hst : s ≠ t) : (fun j => if j = t then nI (clb (lk t) s) else if j = s then nI (clb (lk s) t) else lkR n lk X j) = lkR n (rmv lk s t) X := by
  funext j
  unfold lkR rmv
  by_cases h1 : j = t
  · subst h1; rw [if_pos rfl, if_pos ht, if_pos rfl]
  · rw [if_neg h1]
    by_cases h2 : j = s
    · subst h2; rw [if_pos rfl, if_pos hs, if_neg h1, if_pos rfl]
    · rw [if_neg h2]
      by_cases h3 : j < n
      · rw [if_pos h3, if_pos h3, if_neg h1, if_neg h2]
      · rw [if_neg h3, if_neg h3]
theorem m_isMet_2 (h : MS (ia (b + 84)) n L F) (w : WF n L F) {lk : Nat → Nat} (hk : ∀ j, j < n → lk j < 256) {a c : Nat} (ha : a < n) (hc : c < n) : ∀ (m i q : Nat), i + m = n → m < q → (∀ u, u < i → (L a).testBit u = true → lk u &&& L c ≠ 0) → ∃ r : Int32, f_X10_isMet_2 (wr (SK b) (rw2 ia (b + 87) (lkR n lk X)) fi fl qa f) q (b + 83) (nI a) (nI c) (nI i) = some r ∧ ((r = 1 ∧ MtL L lk a c) ∨ (r = 0 ∧ ¬ MtL L lk a c)) := by
  intro m
  have h' : MS (rw2 ia (b + 87) (lkR n lk X) (b + 84)) n L F := by rw [rw2_n _ _ (by omega)]; exact h
  induction m with
  | zero =>
    intro i q hi hm hu
    obtain ⟨q, rfl⟩ : ∃ k, q = k + 1 := ⟨q - 1, by omega⟩
    have hin : i = n := by omega
    subst hin
    refine ⟨1, ?_, Or.inl ⟨rfl, fun u hu2 => hu u ?_ hu2⟩⟩
    · rw [f_X10_isMet_2]
      simp only [R_83_0, A16, Option.bind_some, h'.1]
      rw [if_pos (Int32.le_refl _)]
    · exact Nat.not_le.mp fun hle => by rw [bt_lt (w.2.2 a ha).1 hle] at hu2; cases hu2
  | succ m ih =>
    intro i q hi hm hu
    obtain ⟨q, rfl⟩ : ∃ k, q = k + 1 := ⟨q - 1, by omega⟩
    have n8' := w.2.1
    have hlt : ¬ nI n ≤ nI i := nI_ge (by omega) (by omega)
    rw [f_X10_isMet_2]
    simp only [R_83_0, A16, Option.bind_some, h'.1, if_neg hlt, ck_83, m_leads h' w ha (show i < 32 by omega)]
    cases hb : (L a).testBit i with
    | false =>
      simp only [Bool.false_eq_true, if_false, i00, if_true]
      unfold f_X10_isMet_42
      rw [nI_1]
      refine ih (i + 1) q (by omega) (by omega) (fun u hu2 hu3 => ?_)
      by_cases hui : u = i
      · subst hui; rw [hb] at hu3; cases hu3
      · exact hu u (by omega) hu3
    | true =>
      simp only [if_true, i10, if_false, R_83_5, n0, Option.bind_some, An_87 (show i < 8 by omega), An_84 (show c < 172 by omega), rw2_s, lkR_at (show i < n by omega), (h'.2 c hc).1, fa_and]
      by_cases h0 : lk i &&& L c = 0
      · rw [h0, if_pos (by decide)]
        exact ⟨0, rfl, Or.inr ⟨rfl, fun hM => hM i hb h0⟩⟩
      · have hne : ¬ nI (lk i &&& L c) = 0 := fun e => h0 ((nI_eq (b := 0) (Nat.lt_of_le_of_lt Nat.and_le_left (Nat.lt_trans (hk i (by omega)) (by decide))) (by decide)).mp e)
        rw [if_neg hne]
        unfold f_X10_isMet_42
        rw [nI_1]
        refine ih (i + 1) q (by omega) (by omega) (fun u hu2 hu3 => ?_)
        by_cases hui : u = i
        · subst hui; exact h0
        · exact hu u (by omega) hu3
theorem m_isMet (h : MS (ia (b + 84)) n L F) (w : WF n L F) {lk : Nat → Nat} (hk : ∀ j, j < n → lk j < 256) {a c : Nat} (ha : a < n) (hc : c < n) : ∃ r : Int32, f_X10_isMet (b + 83) (nI a) (nI c) (wr (SK b) (rw2 ia (b + 87) (lkR n lk X)) fi fl qa f) = some r ∧ ((r = 1 ∧ MtL L lk a c) ∨ (r = 0 ∧ ¬ MtL L lk a c)) := by
  obtain ⟨q, hq⟩ := FU_1000
  have n8' := w.2.1
  exact m_isMet_2 h w hk ha hc n 0 FU (by omega) (by omega) (fun u hu => absurd hu (by omega))
theorem m_fl_96 (h : MS (ia (b + 84)) n L F) (w : WF n L F) {s : Nat} (hs : s < n) {k80 : Nat → Int32 → Int32 → mmF → Option (mmF)} {k88 : Nat → Int32 → Int32 → Int32 → mmF → Option (mmF)} : ∀ (m t q : Nat) (lk : Nat → Nat) (v2 : Int32), t + m = n → m < q → LK n L F lk → ∃ (lk1 : Nat → Nat) (v3 : Int32), LK n L F lk1 ∧ ((lk1 = lk ∧ v3 = v2 ∧ ∀ u, t ≤ u → u < n → (lk s).testBit u = true → MtL L lk s u ∧ MtL L lk u s) ∨ (v3 = 1 ∧ mz lk1 < mz lk)) ∧ f_X10_findsLike_96 k80 k88 q (b + 83) (nI n) v2 (nI s) (nI t) (wr (SK b) (rw2 ia (b + 87) (lkR n lk X)) fi fl qa f) = k88 (b + 83) (nI n) v3 (nI (s + 1)) (wr (SK b) (rw2 ia (b + 87) (lkR n lk1 X)) fi fl qa f) := by
  have n8' := w.2.1
  have hL : ∀ i, i < n → L i < 2 ^ n := fun i hi => (w.2.2 i hi).1
  intro m
  induction m with
  | zero =>
    intro t q lk v2 ht hm hI
    obtain ⟨q, rfl⟩ : ∃ k, q = k + 1 := ⟨q - 1, by omega⟩
    have htn : t = n := by omega
    subst htn
    refine ⟨lk, v2, hI, Or.inl ⟨rfl, rfl, fun u h1 h2 => absurd h2 (by omega)⟩, ?_⟩
    rw [f_X10_findsLike_96, if_pos (Int32.le_refl _), nI_1]
  | succ m ih =>
    intro t q lk v2 ht hm hI
    obtain ⟨q, rfl⟩ : ∃ k, q = k + 1 := ⟨q - 1, by omega⟩
    have hlt : ¬ nI n ≤ nI t := nI_ge (by omega) (by omega)
    have hk : ∀ j, j < n → lk j < 256 := fun j hj => Nat.lt_of_lt_of_le (hI.1 j hj) (p8 n8')
    have hks : lk s < 2 ^ 31 := Nat.lt_trans (hk s hs) (by decide)
    -- nothing is done with t
    have skip : (((lk s).testBit t = true) → MtL L lk s t ∧ MtL L lk t s) → ∃ (lk1 : Nat → Nat) (v3 : Int32), LK n L F lk1 ∧ ((lk1 = lk ∧ v3 = v2 ∧ ∀ u, t ≤ u → u < n → (lk s).testBit u = true → MtL L lk s u ∧ MtL L lk u s) ∨ (v3 = 1 ∧ mz lk1 < mz lk)) ∧ f_X10_findsLike_96 k80 k88 q (b + 83) (nI n) v2 (nI s) (nI (t + 1)) (wr (SK b) (rw2 ia (b + 87) (lkR n lk X)) fi fl qa f) = k88 (b + 83) (nI n) v3 (nI (s + 1)) (wr (SK b) (rw2 ia (b + 87) (lkR n lk1 X)) fi fl qa f) := by
      intro hsk
      obtain ⟨lk1, v3, h1, h2, h3⟩ := ih (t + 1) q lk v2 (by omega) (by omega) hI
      refine ⟨lk1, v3, h1, ?_, h3⟩
      rcases h2 with ⟨e1, e2, e3⟩ | h2
      · refine Or.inl ⟨e1, e2, fun u hu hu2 hb => ?_⟩
        by_cases hut : u = t
        · subst hut; exact hsk hb
        · exact e3 u (by omega) hu2 hb
      · exact Or.inr h2
    -- the pair is taken out
    have cut : (lk s).testBit t = true → ¬ (MtL L lk s t ∧ MtL L lk t s) → ∃ (lk1 : Nat → Nat) (v3 : Int32), LK n L F lk1 ∧ ((lk1 = lk ∧ v3 = v2 ∧ ∀ u, t ≤ u → u < n → (lk s).testBit u = true → MtL L lk s u ∧ MtL L lk u s) ∨ (v3 = 1 ∧ mz lk1 < mz lk)) ∧ f_X10_findsLike_137 k80 k88 (fun a0 a1 a2 a3 a4 a5 => f_X10_findsLike_96 k80 k88 q a0 a1 a2 a3 a4 a5) (b + 83) (nI n) (nI s) (nI t) (wr (SK b) (rw2 ia (b + 87) (lkR n lk X)) fi fl qa f) = k88 (b + 83) (nI n) v3 (nI (s + 1)) (wr (SK b) (rw2 ia (b + 87) (lkR n lk1 X)) fi fl qa f) := by
      intro hb hn
      obtain ⟨hst, r1, r2⟩ := hI.rmv hL n8' hs (show t < n by omega) hb hn
      obtain ⟨lk1, v3, h1, h2, h3⟩ := ih (t + 1) q (rmv lk s t) 1 (by omega) (by omega) r1
      refine ⟨lk1, v3, h1, ?_, ?_⟩
      · rcases h2 with ⟨e1, e2, e3⟩ | h2
        · exact Or.inr ⟨e2, by rw [e1]; exact r2⟩
        · exact Or.inr ⟨h2.1, Nat.lt_trans h2.2 r2⟩
      · rw [← h3]
        unfold f_X10_findsLike_137 f_X10_findsLike_169
        simp only [R_83_5, An_87 (show s < 8 by omega), An_87 (show t < 8 by omega), sAn_87 (show s < 8 by omega), sAn_87 (show t < 8 by omega), Option.bind_some, rw2_s, lkR_at hs, clb_1 _ (hk s hs) t (by omega), u2_rw2, if_neg (Ne.symm hst), lkR_at (show t < n by omega), clb_1 _ (hk t (by omega)) s (by omega), nI_1]
        rw [lkR_rmv hs (show t < n by omega) hst]
    rw [f_X10_findsLike_96, if_neg hlt]
    simp only [R_83_5, An_87 (show s < 8 by omega), Option.bind_some, rw2_s, lkR_at hs]
    by_cases hb : (lk s).testBit t = true
    · rw [if_pos ((bt_1 hks (by omega)).mpr hb)]
      obtain ⟨r, hr, hr2⟩ := m_isMet (X := X) (fi := fi) (fl := fl) (qa := qa) (f := f) h w hk hs (show t < n by omega)
      simp only [ck_83, hr, Option.bind_some]
      rcases hr2 with ⟨rfl, hM⟩ | ⟨rfl, hM⟩
      · obtain ⟨r, hr, hr2⟩ := m_isMet (X := X) (fi := fi) (fl := fl) (qa := qa) (f := f) h w hk (show t < n by omega) hs
        simp only [i10, if_false, hr, Option.bind_some]
        rcases hr2 with ⟨rfl, hM2⟩ | ⟨rfl, hM2⟩
        · simp only [i10, if_false]
          unfold f_X10_findsLike_169
          rw [nI_1]
          exact skip (fun _ => ⟨hM, hM2⟩)
        · simp only [i00, if_true]
          exact cut hb (fun hx => hM2 hx.2)
      · simp only [i00, if_true]
        exact cut hb (fun hx => hM hx.1)
    · rw [if_neg (fun e => hb ((bt_1 hks (by omega)).mp e))]
      unfold f_X10_findsLike_169
      rw [nI_1]
      exact skip (fun hx => absurd hx hb)
theorem m_fl_88 (h : MS (ia (b + 84)) n L F) (w : WF n L F) {k80 : Nat → Int32 → Int32 → mmF → Option (mmF)} : ∀ (m s q : Nat) (lk : Nat → Nat) (v2 : Int32), s + m = n → m < q → LK n L F lk → ∃ (lk1 : Nat → Nat) (v3 : Int32), LK n L F lk1 ∧ ((lk1 = lk ∧ v3 = v2 ∧ ∀ u t, s ≤ u → u < n → t < n → (lk u).testBit t = true → MtL L lk u t ∧ MtL L lk t u) ∨ (v3 = 1 ∧ mz lk1 < mz lk)) ∧ f_X10_findsLike_88 k80 q (b + 83) (nI n) v2 (nI s) (wr (SK b) (rw2 ia (b + 87) (lkR n lk X)) fi fl qa f) = k80 (b + 83) (nI n) v3 (wr (SK b) (rw2 ia (b + 87) (lkR n lk1 X)) fi fl qa f) := by
  have n8' := w.2.1
  intro m
  induction m with
  | zero =>
    intro s q lk v2 ht hm hI
    obtain ⟨q, rfl⟩ : ∃ k, q = k + 1 := ⟨q - 1, by omega⟩
    have htn : s = n := by omega
    subst htn
    refine ⟨lk, v2, hI, Or.inl ⟨rfl, rfl, fun u t h1 h2 => absurd h2 (by omega)⟩, ?_⟩
    rw [f_X10_findsLike_88, if_pos (Int32.le_refl _)]
  | succ m ih =>
    intro s q lk v2 ht hm hI
    obtain ⟨q, rfl⟩ : ∃ k, q = k + 1 := ⟨q - 1, by omega⟩
    obtain ⟨q0, hq0⟩ := FU_1000
    have hlt : ¬ nI n ≤ nI s := nI_ge (by omega) (by omega)
    rw [f_X10_findsLike_88, if_neg hlt]
    obtain ⟨lk1, v3, h1, h2, h3⟩ := m_fl_96 (X := X) (fi := fi) (fl := fl) (qa := qa) (f := f) (k80 := k80) (k88 := fun a0 a1 a2 a3 a4 => f_X10_findsLike_88 k80 q a0 a1 a2 a3 a4) h w (show s < n by omega) n 0 FU lk v2 (by omega) (by omega) hI
    obtain ⟨lk2, v4, g1, g2, g3⟩ := ih (s + 1) q lk1 v3 (by omega) (by omega) h1
    refine ⟨lk2, v4, g1, ?_, ?_⟩
    · rcases h2 with ⟨rfl, rfl, e3⟩ | ⟨rfl, e3⟩
      · rcases g2 with ⟨rfl, rfl, e4⟩ | g2
        · refine Or.inl ⟨rfl, rfl, fun u t hu hun htn hb => ?_⟩
          by_cases hus : u = s
          · subst hus; exact e3 t (by omega) htn hb
          · exact e4 u t (by omega) hun htn hb
        · exact Or.inr g2
      · rcases g2 with ⟨rfl, rfl, e4⟩ | g2
        · exact Or.inr ⟨rfl, e3⟩
        · exact Or.inr ⟨g2.1, Nat.lt_trans g2.2 e3⟩
    · rw [show (0 : Int32) = nI 0 from rfl, h3]
      exact g3
theorem m_fl_80 (h : MS (ia (b + 84)) n L F) (w : WF n L F) : ∀ (M q : Nat) (lk : Nat → Nat), mz lk ≤ M → M + 1 < q → LK n L F lk → ∃ lk1 : Nat → Nat, LK n L F lk1 ∧ (∀ s t, s < n → t < n → (lk1 s).testBit t = true → MtL L lk1 s t ∧ MtL L lk1 t s) ∧ f_X10_findsLike_80 q (b + 83) (nI n) 1 (wr (SK b) (rw2 ia (b + 87) (lkR n lk X)) fi fl qa f) = some (wr (SK b) (rw2 ia (b + 87) (lkR n lk1 X)) fi fl qa f) := by
  have n8' := w.2.1
  intro M
  induction M with
  | zero =>
    intro q lk hM hm hI
    obtain ⟨q, rfl⟩ : ∃ k, q = k + 2 := ⟨q - 2, by omega⟩
    obtain ⟨q0, hq0⟩ := FU_1000
    rw [f_X10_findsLike_80, if_neg (by decide)]
    obtain ⟨lk1, v3, h1, h2, h3⟩ := m_fl_88 (X := X) (fi := fi) (fl := fl) (qa := qa) (f := f) (k80 := fun a0 a1 a2 a3 => f_X10_findsLike_80 (q + 1) a0 a1 a2 a3) h w n 0 FU lk 0 (by omega) (by omega) hI
    rcases h2 with ⟨rfl, rfl, e3⟩ | h2
    · refine ⟨lk1, h1, fun s t hs ht hb => e3 s t (by omega) hs ht hb, ?_⟩
      rw [show (0 : Int32) = nI 0 from rfl] at h3 ⊢
      rw [h3, f_X10_findsLike_80, if_pos (by decide)]
    · omega
  | succ M ih =>
    intro q lk hM hm hI
    obtain ⟨q, rfl⟩ : ∃ k, q = k + 2 := ⟨q - 2, by omega⟩
    obtain ⟨q0, hq0⟩ := FU_1000
    rw [f_X10_findsLike_80, if_neg (by decide)]
    obtain ⟨lk1, v3, h1, h2, h3⟩ := m_fl_88 (X := X) (fi := fi) (fl := fl) (qa := qa) (f := f) (k80 := fun a0 a1 a2 a3 => f_X10_findsLike_80 (q + 1) a0 a1 a2 a3) h w n 0 FU lk 0 (by omega) (by omega) hI
    rcases h2 with ⟨rfl, rfl, e3⟩ | ⟨rfl, h2⟩
    · refine ⟨lk1, h1, fun s t hs ht hb => e3 s t (by omega) hs ht hb, ?_⟩
      rw [show (0 : Int32) = nI 0 from rfl] at h3 ⊢
      rw [h3, f_X10_findsLike_80, if_pos (by decide)]
    · obtain ⟨lk2, g1, g2, g3⟩ := ih (q + 1) lk1 (by omega) (by omega) h1
      refine ⟨lk2, g1, g2, ?_⟩
      rw [show (0 : Int32) = nI 0 from rfl] at h3 ⊢
      rw [h3, g3]
end LIKEM2
