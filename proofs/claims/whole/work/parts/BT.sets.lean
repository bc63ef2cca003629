/-! THE CLASS'S SETS OF PARTS (ts_bit began as a row of the kit's laws) -/
theorem ts_bit {w : Int64} {s : UInt64} {j : Nat} (hj : j < 64) (hs : s.toNat = j) : ((w.toUInt64 >>> s).toInt64 &&& 1) = 0 ↔ w.toBitVec.getLsbD j = false := by
  have e : (w.toUInt64 >>> s).toInt64.toBitVec = w.toBitVec >>> j := by
    apply BitVec.eq_of_toNat_eq
    show (w.toUInt64 >>> s).toNat = _
    rw [UInt64.toNat_shiftRight, hs, Nat.mod_eq_of_lt hj, BitVec.toNat_ushiftRight]
    rfl
  rw [← Int64.toBitVec_inj, Int64.toBitVec_and, e]
  show w.toBitVec >>> j &&& 1#64 = 0#64 ↔ _
  constructor
  · intro h
    have t := congrArg (fun x => x.getLsbD 0) h
    simpa using t
  · intro h
    apply BitVec.eq_of_getLsbD_eq
    intro i hi
    cases i with
    | zero => simp [h]
    | succ i => simp
/-- whether a part is in a set -/
def sB (fl : Nat → Nat → Int64) (a p : Nat) : Bool := (fl a (p / 64)).toBitVec.getLsbD (p % 64)
section PSETS
variable {b : Nat} {ia fi : Nat → Nat → Int32} {fl : Nat → Nat → Int64} {qa : Nat → Nat → Option Nat} {f : mmF} {a a2 : Nat}
theorem lgz (x : Int64) : (lg_cmp x 0 = 0) ↔ x = 0 := by
  unfold lg_cmp
  by_cases h : x = 0
  · subst h; simp
  · by_cases h2 : x > 0
    · rw [if_pos h2]; exact ⟨fun e => absurd e (by decide), fun e => absurd e h⟩
    · rw [if_neg h2, if_neg h]; exact ⟨fun e => absurd e (by decide), fun e => absurd e h⟩
theorem ps_J (h : SK b a = some pset) {j : Nat} (hj : j < 3) : ldJ (wr (SK b) ia fi fl qa f) a 3 j = some (fl a j) := by
  obtain rfl | rfl | rfl : j = 0 ∨ j = 1 ∨ j = 2 := by omega
  · exact wr_J h rfl
  · exact wr_J h rfl
  · exact wr_J h rfl
theorem ps_sJ (h : SK b a = some pset) {j : Nat} (hj : j < 3) (x : Int64) : stF (wr (SK b) ia fi fl qa f) a 3 j (.long x) = some (wr (SK b) ia fi (u2 fl a j x) qa f) := by
  obtain rfl | rfl | rfl : j = 0 ∨ j = 1 ∨ j = 2 := by omega
  · exact wr_sJ h rfl x
  · exact wr_sJ h rfl x
  · exact wr_sJ h rfl x
theorem ps_ck (h : SK b a = some pset) : ckO (wr (SK b) ia fi fl qa f) a 3 = some () := wr_ck h
theorem ush64 : ∀ k, k < 64 → (((nI k).toInt64.toUInt64 &&& Int64.toUInt64 63)).toNat = k := by decide +kernel
theorem one64 : ∀ k, k < 64 → ((1 : Int64) <<< ((nI k).toInt64 &&& 63)).toBitVec = BitVec.twoPow 64 k := by decide +kernel
theorem and63 {p : Nat} (h : p < 2 ^ 31) : nI p &&& (63 : Int32) = nI (p % 64) := pk_andN (n := p) (m := 63) (by omega) 6 (by decide)
theorem lb_1 (x : Int64) {k : Nat} (hk : k < 64) : ((lg_cmp ((mm_lushr x (nI k)) &&& (1 : Int64)) (0 : Int64)) = 0) ↔ x.toBitVec.getLsbD k = false := by
  rw [lgz]
  exact ts_bit hk (ush64 k hk)
theorem has31 (x : Int64) {p : Nat} (hp : p < 192) (μ : mmF) : f_X3_has_31 μ (nI p) x = some (if x.toBitVec.getLsbD (p % 64) = true then 1 else 0) := by
  have hm : p % 64 < 64 := Nat.mod_lt _ (by decide)
  unfold f_X3_has_31
  rw [and63 (by omega)]
  cases hb : x.toBitVec.getLsbD (p % 64) with
  | false => rw [if_pos ((lb_1 x hm).mpr hb)]; rfl
  | true =>
    rw [if_neg (fun e => by rw [(lb_1 x hm).mp e] at hb; cases hb)]
    rfl
theorem w192 {p : Nat} (hp : p < 192) : (p < 64 ∧ p / 64 = 0) ∨ (64 ≤ p ∧ p < 128 ∧ p / 64 = 1) ∨ (128 ≤ p ∧ p / 64 = 2) := by omega
theorem has_s (h : SK b a = some pset) {p : Nat} (hp : p < 192) : f_X3_has a (nI p) (wr (SK b) ia fi fl qa f) = some (if sB fl a p = true then 1 else 0) := by
  unfold f_X3_has sB
  rcases w192 hp with ⟨h1, e⟩ | ⟨h1, h2, e⟩ | ⟨h1, e⟩
  · rw [if_neg (show ¬ (64 : Int32) ≤ nI p from nI_ge (b := 64) h1 (by decide)), ps_J h (by decide), e]
    exact has31 _ hp (wr (SK b) ia fi fl qa f)
  · rw [if_pos (show (64 : Int32) ≤ nI p from nI_le (a := 64) h1 (by omega)), if_neg (show ¬ (128 : Int32) ≤ nI p from nI_ge (b := 128) h2 (by decide)), ps_J h (by decide), e]
    exact has31 _ hp (wr (SK b) ia fi fl qa f)
  · rw [if_pos (show (64 : Int32) ≤ nI p from nI_le (a := 64) (by omega) (by omega)), if_pos (show (128 : Int32) ≤ nI p from nI_le (a := 128) h1 (by omega)), ps_J h (by decide), e]
    exact has31 _ hp (wr (SK b) ia fi fl qa f)
/-- a set is written -/
def sE1 (fl fl1 : Nat → Nat → Int64) (a : Nat) (Γ : Nat → Bool) : Prop := (∀ c, c ≠ a → fl1 c = fl c) ∧ ∀ q, q < 192 → sB fl1 a q = Γ q
theorem sE1.o {fl1 : Nat → Nat → Int64} {Γ : Nat → Bool} (h : sE1 fl fl1 a Γ) {c : Nat} (hc : c ≠ a) : sB fl1 c = sB fl c := by
  funext q
  unfold sB
  rw [h.1 c hc]
theorem or_w (x : Int64) {k j : Nat} (hk : k < 64) (hj : j < 64) : (x ||| ((1 : Int64) <<< ((nI k).toInt64 &&& 63))).toBitVec.getLsbD j = if j = k then true else x.toBitVec.getLsbD j := by
  rw [Int64.toBitVec_or, one64 k hk, BitVec.getLsbD_or, BitVec.getLsbD_twoPow]
  by_cases e : j = k
  · subst e; simp [hj]
  · have : ¬ k = j := fun h => e h.symm
    simp [e, this]
theorem an_w (x : Int64) {k j : Nat} (hk : k < 64) (hj : j < 64) : (x &&& (((1 : Int64) <<< ((nI k).toInt64 &&& 63)) ^^^ (-1 : Int64))).toBitVec.getLsbD j = if j = k then false else x.toBitVec.getLsbD j := by
  rw [Int64.toBitVec_and, Int64.toBitVec_xor, one64 k hk, BitVec.getLsbD_and, BitVec.getLsbD_xor, BitVec.getLsbD_twoPow, show (-1 : Int64).toBitVec = BitVec.allOnes 64 from by decide, BitVec.getLsbD_allOnes]
  by_cases e : j = k
  · subst e; simp [hj]
  · have : ¬ k = j := fun h => e h.symm
    simp [e, this, hj]
theorem u2_set {j p : Nat} {y : Int64} {x : Bool} (hp : p < 192) (hj : p / 64 = j) (hy : ∀ i, i < 64 → y.toBitVec.getLsbD i = if i = p % 64 then x else (fl a j).toBitVec.getLsbD i) : sE1 fl (u2 fl a j y) a (upB (sB fl a) p x) := by
  refine ⟨fun c hc => u2_row _ _ hc, fun q hq => ?_⟩
  unfold sB upB
  by_cases e : q / 64 = j
  · rw [e, u2_s, hy _ (Nat.mod_lt _ (by decide))]
    by_cases eq : q = p
    · subst eq; rw [if_pos rfl, if_pos rfl]
    · rw [if_neg (show ¬ q % 64 = p % 64 by omega), if_neg eq]
      show _ = (fl a (q / 64)).toBitVec.getLsbD (q % 64)
      rw [e]
  · rw [u2_i _ _ e, if_neg (show ¬ q = p from fun h => e (by rw [h]; exact hj))]
theorem set_s (h : SK b a = some pset) {p : Nat} (hp : p < 192) (v : Int32) : ∃ fl1, f_X3_set a (nI p) v (wr (SK b) ia fi fl qa f) = some (wr (SK b) ia fi fl1 qa f) ∧ sE1 fl fl1 a (upB (sB fl a) p (if v = 0 then false else true)) := by
  have hm : p % 64 < 64 := Nat.mod_lt _ (by decide)
  unfold f_X3_set
  rw [and63 (show p < 2 ^ 31 by omega)]
  by_cases hv : v = 0
  · simp only [if_pos hv]
    rcases w192 hp with ⟨h1, e⟩ | ⟨h1, h2, e⟩ | ⟨h1, e⟩
    · rw [if_neg (show ¬ (64 : Int32) ≤ nI p from nI_ge (b := 64) h1 (by decide))]
      unfold f_X3_set_37
      simp only [ps_J h (show 0 < 3 by decide), ps_sJ h (show 0 < 3 by decide), Option.bind_some]
      exact ⟨_, rfl, u2_set hp e (fun i hi => an_w _ hm hi)⟩
    · rw [if_pos (show (64 : Int32) ≤ nI p from nI_le (a := 64) h1 (by omega)), if_neg (show ¬ (128 : Int32) ≤ nI p from nI_ge (b := 128) h2 (by decide))]
      unfold f_X3_set_74
      simp only [ps_J h (show 1 < 3 by decide), ps_sJ h (show 1 < 3 by decide), Option.bind_some]
      exact ⟨_, rfl, u2_set hp e (fun i hi => an_w _ hm hi)⟩
    · rw [if_pos (show (64 : Int32) ≤ nI p from nI_le (a := 64) (by omega) (by omega)), if_pos (show (128 : Int32) ≤ nI p from nI_le (a := 128) h1 (by omega))]
      unfold f_X3_set_104
      simp only [ps_J h (show 2 < 3 by decide), ps_sJ h (show 2 < 3 by decide), Option.bind_some]
      exact ⟨_, rfl, u2_set hp e (fun i hi => an_w _ hm hi)⟩
  · simp only [if_neg hv]
    rcases w192 hp with ⟨h1, e⟩ | ⟨h1, h2, e⟩ | ⟨h1, e⟩
    · rw [if_neg (show ¬ (64 : Int32) ≤ nI p from nI_ge (b := 64) h1 (by decide))]
      unfold f_X3_set_37
      simp only [ps_J h (show 0 < 3 by decide), ps_sJ h (show 0 < 3 by decide), Option.bind_some]
      exact ⟨_, rfl, u2_set hp e (fun i hi => or_w _ hm hi)⟩
    · rw [if_pos (show (64 : Int32) ≤ nI p from nI_le (a := 64) h1 (by omega)), if_neg (show ¬ (128 : Int32) ≤ nI p from nI_ge (b := 128) h2 (by decide))]
      unfold f_X3_set_74
      simp only [ps_J h (show 1 < 3 by decide), ps_sJ h (show 1 < 3 by decide), Option.bind_some]
      exact ⟨_, rfl, u2_set hp e (fun i hi => or_w _ hm hi)⟩
    · rw [if_pos (show (64 : Int32) ≤ nI p from nI_le (a := 64) (by omega) (by omega)), if_pos (show (128 : Int32) ≤ nI p from nI_le (a := 128) h1 (by omega))]
      unfold f_X3_set_104
      simp only [ps_J h (show 2 < 3 by decide), ps_sJ h (show 2 < 3 by decide), Option.bind_some]
      exact ⟨_, rfl, u2_set hp e (fun i hi => or_w _ hm hi)⟩
theorem u3_set {y0 y1 y2 : Int64} {Γ : Nat → Bool} (h0 : ∀ i, i < 64 → y0.toBitVec.getLsbD i = Γ i) (h1 : ∀ i, i < 64 → y1.toBitVec.getLsbD i = Γ (64 + i)) (h2 : ∀ i, i < 64 → y2.toBitVec.getLsbD i = Γ (128 + i)) : sE1 fl (u2 (u2 (u2 fl a 0 y0) a 1 y1) a 2 y2) a Γ := by
  refine ⟨fun c hc => by rw [u2_row _ _ hc, u2_row _ _ hc, u2_row _ _ hc], fun q hq => ?_⟩
  unfold sB
  have hm : q % 64 < 64 := Nat.mod_lt _ (by decide)
  rcases w192 hq with ⟨c1, e⟩ | ⟨c1, c2, e⟩ | ⟨c1, e⟩
  · rw [e, u2_i _ _ (by decide), u2_i _ _ (by decide), u2_s, h0 _ hm]
    congr 1; omega
  · rw [e, u2_i _ _ (by decide), u2_s, h1 _ hm]
    congr 1; omega
  · rw [e, u2_s, h2 _ hm]
    congr 1; omega
theorem fill_s (h : SK b a = some pset) (v : Int32) : ∃ fl1, f_X3_fill a v (wr (SK b) ia fi fl qa f) = some (wr (SK b) ia fi fl1 qa f) ∧ sE1 fl fl1 a (fun _ => if v = 0 then false else true) := by
  unfold f_X3_fill f_X3_fill_12
  by_cases hv : v = 0
  · simp only [if_pos hv, ps_sJ h (show 0 < 3 by decide), ps_sJ h (show 1 < 3 by decide), ps_sJ h (show 2 < 3 by decide), ps_J h (show 0 < 3 by decide), Option.bind_some]
    refine ⟨_, rfl, ?_⟩
    rw [u2_s, u2_i _ _ (by decide), u2_s]
    have : ∀ i, i < 64 → (0 : Int64).toBitVec.getLsbD i = false := fun i _ => by simp
    exact u3_set this this this
  · simp only [if_neg hv, ps_sJ h (show 0 < 3 by decide), ps_sJ h (show 1 < 3 by decide), ps_sJ h (show 2 < 3 by decide), ps_J h (show 0 < 3 by decide), Option.bind_some]
    refine ⟨_, rfl, ?_⟩
    rw [u2_s, u2_i _ _ (by decide), u2_s]
    have : ∀ i, i < 64 → (-1 : Int64).toBitVec.getLsbD i = true := fun i hi => by
      rw [show (-1 : Int64).toBitVec = BitVec.allOnes 64 from by decide, BitVec.getLsbD_allOnes]
      exact decide_eq_true hi
    exact u3_set this this this
theorem sB_w (c : Nat) {w i : Nat} (hi : i < 64) : sB fl c (64 * w + i) = (fl c w).toBitVec.getLsbD i := by
  unfold sB
  rw [show (64 * w + i) / 64 = w by omega, show (64 * w + i) % 64 = i by omega]
theorem take_s (h : SK b a = some pset) (h2 : SK b a2 = some pset) (hn : a2 ≠ a) : ∃ fl1, f_X3_takeFrom a a2 (wr (SK b) ia fi fl qa f) = some (wr (SK b) ia fi fl1 qa f) ∧ sE1 fl fl1 a (sB fl a2) := by
  unfold f_X3_takeFrom
  simp only [ps_sJ h (show 0 < 3 by decide), ps_sJ h (show 1 < 3 by decide), ps_sJ h (show 2 < 3 by decide), ps_J h2 (show 0 < 3 by decide), ps_J h2 (show 1 < 3 by decide), ps_J h2 (show 2 < 3 by decide), Option.bind_some, u2_a _ _ hn]
  refine ⟨_, rfl, u3_set (fun i hi => ?_) (fun i hi => ?_) (fun i hi => ?_)⟩
  · have := sB_w (fl := fl) a2 (w := 0) hi
    rw [Nat.mul_zero, Nat.zero_add] at this
    exact this.symm
  · exact (sB_w (fl := fl) a2 (w := 1) hi).symm
  · exact (sB_w (fl := fl) a2 (w := 2) hi).symm
theorem keep_s (h : SK b a = some pset) (h2 : SK b a2 = some pset) (hn : a2 ≠ a) : ∃ fl1, f_X3_keepOnly a a2 (wr (SK b) ia fi fl qa f) = some (wr (SK b) ia fi fl1 qa f) ∧ sE1 fl fl1 a (fun q => sB fl a q && sB fl a2 q) := by
  unfold f_X3_keepOnly
  simp only [ps_sJ h (show 0 < 3 by decide), ps_sJ h (show 1 < 3 by decide), ps_sJ h (show 2 < 3 by decide), ps_J h (show 0 < 3 by decide), ps_J h (show 1 < 3 by decide), ps_J h (show 2 < 3 by decide), ps_J h2 (show 0 < 3 by decide), ps_J h2 (show 1 < 3 by decide), ps_J h2 (show 2 < 3 by decide), Option.bind_some, u2_a _ _ hn, u2_i _ _ (show (1 : Nat) ≠ 0 by decide), u2_i _ _ (show (2 : Nat) ≠ 0 by decide), u2_i _ _ (show (2 : Nat) ≠ 1 by decide)]
  refine ⟨_, rfl, u3_set (fun i hi => ?_) (fun i hi => ?_) (fun i hi => ?_)⟩
  · rw [Int64.toBitVec_and, BitVec.getLsbD_and]
    have e1 := sB_w (fl := fl) a (w := 0) hi
    have e2 := sB_w (fl := fl) a2 (w := 0) hi
    rw [Nat.mul_zero, Nat.zero_add] at e1 e2
    rw [e1, e2]
  · rw [Int64.toBitVec_and, BitVec.getLsbD_and]
    rw [show 64 + i = 64 * 1 + i from rfl, sB_w (fl := fl) a (w := 1) hi, sB_w (fl := fl) a2 (w := 1) hi]
  · rw [Int64.toBitVec_and, BitVec.getLsbD_and]
    rw [show 128 + i = 64 * 2 + i from rfl, sB_w (fl := fl) a (w := 2) hi, sB_w (fl := fl) a2 (w := 2) hi]
theorem wi_0 (x y : Int64) : (x &&& (y ^^^ (-1 : Int64)) = 0) ↔ ∀ i, i < 64 → x.toBitVec.getLsbD i = true → y.toBitVec.getLsbD i = true := by
  have hb : ∀ i, i < 64 → (x &&& (y ^^^ (-1 : Int64))).toBitVec.getLsbD i = (x.toBitVec.getLsbD i && !y.toBitVec.getLsbD i) := fun i hi => by
    rw [Int64.toBitVec_and, Int64.toBitVec_xor, BitVec.getLsbD_and, BitVec.getLsbD_xor, show (-1 : Int64).toBitVec = BitVec.allOnes 64 from by decide, BitVec.getLsbD_allOnes, decide_eq_true hi]
    cases y.toBitVec.getLsbD i <;> rfl
  constructor
  · intro h i hi hx
    have := hb i hi
    rw [h, hx] at this
    cases hy : y.toBitVec.getLsbD i with
    | true => rfl
    | false => rw [hy] at this; simp at this
  · intro h
    apply Int64.toBitVec_inj.mp
    apply BitVec.eq_of_getLsbD_eq
    intro i hi
    rw [hb i hi]
    cases hx : x.toBitVec.getLsbD i with
    | false => simp
    | true => rw [h i hi hx]; simp
theorem within_s (h : SK b a = some pset) (h2 : SK b a2 = some pset) : ((∀ q, q < 192 → sB fl a q = true → sB fl a2 q = true) ∧ f_X3_isWithin a a2 (wr (SK b) ia fi fl qa f) = some 1) ∨ ((¬ ∀ q, q < 192 → sB fl a q = true → sB fl a2 q = true) ∧ f_X3_isWithin a a2 (wr (SK b) ia fi fl qa f) = some 0) := by
  unfold f_X3_isWithin
  simp only [ps_J h (show 0 < 3 by decide), ps_J h (show 1 < 3 by decide), ps_J h (show 2 < 3 by decide), ps_J h2 (show 0 < 3 by decide), ps_J h2 (show 1 < 3 by decide), ps_J h2 (show 2 < 3 by decide), Option.bind_some, lgz, wi_0]
  have hw : (∀ q, q < 192 → sB fl a q = true → sB fl a2 q = true) ↔ ∀ w, w < 3 → ∀ i, i < 64 → (fl a w).toBitVec.getLsbD i = true → (fl a2 w).toBitVec.getLsbD i = true := by
    constructor
    · intro h w hw i hi
      have := h (64 * w + i) (by omega)
      rw [sB_w a hi, sB_w a2 hi] at this
      exact this
    · intro h q hq hx
      exact h (q / 64) (by omega) (q % 64) (Nat.mod_lt _ (by decide)) hx
  rw [hw]
  by_cases c0 : ∀ i, i < 64 → (fl a 0).toBitVec.getLsbD i = true → (fl a2 0).toBitVec.getLsbD i = true
  · rw [if_pos c0]
    by_cases c1 : ∀ i, i < 64 → (fl a 1).toBitVec.getLsbD i = true → (fl a2 1).toBitVec.getLsbD i = true
    · rw [if_pos c1]
      by_cases c2 : ∀ i, i < 64 → (fl a 2).toBitVec.getLsbD i = true → (fl a2 2).toBitVec.getLsbD i = true
      · rw [if_pos c2]
        refine Or.inl ⟨fun w hw => ?_, rfl⟩
        obtain rfl | rfl | rfl : w = 0 ∨ w = 1 ∨ w = 2 := by omega
        · exact c0
        · exact c1
        · exact c2
      · rw [if_neg c2]; exact Or.inr ⟨fun h => c2 (h 2 (by decide)), rfl⟩
    · rw [if_neg c1]; exact Or.inr ⟨fun h => c1 (h 1 (by decide)), rfl⟩
  · rw [if_neg c0]; exact Or.inr ⟨fun h => c0 (h 0 (by decide)), rfl⟩
end PSETS
