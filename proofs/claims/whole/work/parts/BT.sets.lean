/-! THE CLASS'S SETS OF PARTS (ts_bit began as a row of the kit's laws) -/
theorem ts_bit {w : Int64} {s : UInt64} {j : Nat} (hj : j < 64) (hs : s.toNat = j) : ((w.toUInt64 >>> s).toInt64 &&& 1) = 0 ↔ w.toBitVec.getLsbD j = false := by
  have e : (w.toUInt64 >>> s).toInt64.toBitVec = w.toBitVec >>> j := by
    apply BitVec.eq_of_toNat_eq
    show (w.toUInt64 >>> s).toNat = _
    rw [UInt64.toNat_shiftRight, hs, Nat.mod_eq_of_lt hj, BitVec.toNat_ushiftRight]
    rfl
  rw [← Int64.toBitVec_inj, Int64.toBitVec_and, e]
  show w.toBitVec >>> j &&& 1#64 = 0#64 ↔ _
  constructor
  · intro h
    have t := congrArg (fun x => x.getLsbD 0) h
    simpa using t
  · intro h
    apply BitVec.eq_of_getLsbD_eq
    intro i hi
    cases i with
    | zero => simp [h]
    | succ i => simp
/-- the k-th word of a row of longs -/
def wd (ia : Nat → Nat → Int32) (w m : Nat) : Int64 := lg2 (ia w (2 * m)) (ia w (2 * m + 1))
theorem wd_s (ia : Nat → Nat → Int32) (w m : Nat) (x : Int64) : wd (u2L ia w m x) w m = x := by
  have h := congrFun (u2L_s ia w m x) m
  unfold wd
  exact h.trans (by simp [vp_updL])
theorem wd_n (ia : Nat → Nat → Int32) {w w2 m m2 : Nat} (x : Int64) (h : w2 ≠ w ∨ m2 ≠ m) : wd (u2L ia w m x) w2 m2 = wd ia w2 m2 := by
  unfold wd
  by_cases hw : w2 = w
  · subst hw
    have hm : m2 ≠ m := h.elim (fun e => absurd rfl e) id
    have h1 := congrFun (u2L_s ia w2 m x) m2
    exact h1.trans (by simp [vp_updL, hm])
  · rw [u2L_a _ _ hw]
theorem sB_wd (ia : Nat → Nat → Int32) (w k : Nat) {p : Nat} (hp : p < 192) : sB (ia w) k p = (wd ia w (3 * k + p / 64)).toBitVec.getLsbD (p % 64) := by
  unfold wd
  rw [lg2_bit _ _ (Nat.mod_lt _ (by decide))]
  unfold sB
  by_cases h : p % 64 < 32
  · rw [if_pos h, show 6 * k + p / 32 = 2 * (3 * k + p / 64) by omega, show p % 32 = p % 64 by omega]
  · rw [if_neg h, show 6 * k + p / 32 = 2 * (3 * k + p / 64) + 1 by omega, show p % 32 = p % 64 - 32 by omega]
/-- an object with a row of n sets -/
def isPS (b a w n : Nat) : Prop := SK b a = some (.inr (3, [.inl w])) ∧ SK b w = some (.inl (4, 3 * n)) ∧ n ≤ 153
theorem PS_K (b : Nat) : isPS b (b + 34) (b + 35) 1 := ⟨K_34 b, K_35 b, by decide⟩
theorem PS_R (b : Nat) : isPS b (b + 37) (b + 38) 151 := ⟨K_37 b, K_38 b, by decide⟩
theorem PS_U (b : Nat) : isPS b (b + 40) (b + 41) 153 := ⟨K_40 b, K_41 b, by decide⟩
theorem PS_D (b : Nat) : isPS b (b + 42) (b + 43) 153 := ⟨K_42 b, K_43 b, by decide⟩
theorem PS_F (b : Nat) : isPS b (b + 44) (b + 45) 153 := ⟨K_44 b, K_45 b, by decide⟩
theorem PS_M (b : Nat) : isPS b (b + 48) (b + 49) 128 := ⟨K_48 b, K_49 b, by decide⟩
theorem PS_P (b : Nat) : isPS b (b + 52) (b + 53) 128 := ⟨K_52 b, K_53 b, by decide⟩
section PSETS
variable {b : Nat} {ia fi : Nat → Nat → Int32} {fl : Nat → Nat → Int64} {qa : Nat → Nat → Option Nat} {f : mmF} {a a2 w w2 n n2 : Nat}
theorem lgz (x : Int64) : (lg_cmp x 0 = 0) ↔ x = 0 := by
  unfold lg_cmp
  by_cases h : x = 0
  · subst h; simp
  · by_cases h2 : x > 0
    · rw [if_pos h2]; exact ⟨fun e => absurd e (by decide), fun e => absurd e h⟩
    · rw [if_neg h2, if_neg h]; exact ⟨fun e => absurd e (by decide), fun e => absurd e h⟩
theorem ps_ck (h : isPS b a w n) : ckO (wr (SK b) ia fi fl qa f) a 3 = some () := wr_ck h.1
theorem ps_R (h : isPS b a w n) : ldR (wr (SK b) ia fi fl qa f) a 3 0 = some w := wr_R h.1 rfl
theorem ps_L (h : isPS b a w n) : lenA (wr (SK b) ia fi fl qa f) w = some (nI (3 * n)) := wr_len h.2.1 (by decide)
theorem ps_ld (h : isPS b a w n) {m : Nat} (hm : m < 3 * n) : ldL (wr (SK b) ia fi fl qa f) w (nI m) = some (wd ia w m) := by
  have hn := h.2.2
  rw [wr_L h.2.1 (vp_in_nI hm (by omega)), nI_clamp (by omega)]
  rfl
theorem ps_st (h : isPS b a w n) {m : Nat} (hm : m < 3 * n) (x : Int64) : stL (wr (SK b) ia fi fl qa f) w (nI m) x = some (wr (SK b) (u2L ia w m x) fi fl qa f) := by
  have hn := h.2.2
  rw [wr_sL h.2.1 (vp_in_nI hm (by omega)), nI_clamp (by omega)]
theorem sh6 : ∀ p, p < 192 → nI p >>> ((6 : Int32) &&& 31) = nI (p / 64) := by decide +kernel
theorem ix3 (k j : Nat) : ((3 : Int32) * nI k) + nI j = nI (3 * k + j) := by
  rw [show (3 : Int32) = nI 3 from rfl, pk_mul, nI_add]
theorem ixp (k : Nat) {p : Nat} (hp : p < 192) : ((3 : Int32) * nI k) + (nI p >>> ((6 : Int32) &&& 31)) = nI (3 * k + p / 64) := by
  rw [sh6 p hp, ix3]
theorem ush64 : ∀ k, k < 64 → (((nI k).toInt64.toUInt64 &&& Int64.toUInt64 63)).toNat = k := by decide +kernel
theorem one64 : ∀ k, k < 64 → ((1 : Int64) <<< ((nI k).toInt64 &&& 63)).toBitVec = BitVec.twoPow 64 k := by decide +kernel
theorem and63 {p : Nat} (h : p < 2 ^ 31) : nI p &&& (63 : Int32) = nI (p % 64) := pk_andN (n := p) (m := 63) (by omega) 6 (by decide)
theorem lb_1 (x : Int64) {k : Nat} (hk : k < 64) : ((lg_cmp ((mm_lushr x (nI k)) &&& (1 : Int64)) (0 : Int64)) = 0) ↔ x.toBitVec.getLsbD k = false := by
  rw [lgz]
  exact ts_bit hk (ush64 k hk)
theorem has_s (h : isPS b a w n) {k p : Nat} (hk : k < n) (hp : p < 192) : f_X3_has a (nI k) (nI p) (wr (SK b) ia fi fl qa f) = some (if sB (ia w) k p = true then 1 else 0) := by
  have hn := h.2.2
  have hlt : 3 * k + p / 64 < 3 * n := by omega
  have key := lb_1 (wd ia w (3 * k + p / 64)) (k := p % 64) (Nat.mod_lt _ (by decide))
  rw [← sB_wd ia w k hp] at key
  unfold f_X3_has
  rw [ixp k hp, if_neg (nI_pos (show 3 * k + p / 64 < 2 ^ 31 by omega))]
  simp only [ps_R h, ps_L h, Option.bind_some]
  rw [if_neg (nI_ge hlt (by omega))]
  simp only [ps_ld h hlt, Option.bind_some]
  rw [and63 (show p < 2 ^ 31 by omega)]
  cases hb : sB (ia w) k p with
  | false => rw [if_pos (key.mpr hb)]; rfl
  | true => rw [if_neg (fun e => by have := key.mp e; rw [hb] at this; cases this)]; rfl
/-- the k-th set of a row is another one, all else as before -/
def sEw (ia ia1 : Nat → Nat → Int32) (w k : Nat) (Γ : Nat → Bool) : Prop := (∀ c, c ≠ w → ia1 c = ia c) ∧ (∀ j, j ≠ k → ∀ q, q < 192 → sB (ia1 w) j q = sB (ia w) j q) ∧ ∀ q, q < 192 → sB (ia1 w) k q = Γ q
theorem sEw.rf (k : Nat) : sEw ia ia w k (sB (ia w) k) := ⟨fun _ _ => rfl, fun _ _ _ _ => rfl, fun _ _ => rfl⟩
theorem sEw.tr {ia1 ia2 : Nat → Nat → Int32} {k : Nat} {Γ Γ2 : Nat → Bool} (h : sEw ia ia1 w k Γ) (h2 : sEw ia1 ia2 w k Γ2) : sEw ia ia2 w k Γ2 := ⟨fun c hc => (h2.1 c hc).trans (h.1 c hc), fun j hj q hq => (h2.2.1 j hj q hq).trans (h.2.1 j hj q hq), h2.2.2⟩
theorem sEw.ext {ia1 : Nat → Nat → Int32} {k : Nat} {Γ Γ2 : Nat → Bool} (h : sEw ia ia1 w k Γ) (e : ∀ q, q < 192 → Γ q = Γ2 q) : sEw ia ia1 w k Γ2 := ⟨h.1, h.2.1, fun q hq => (h.2.2 q hq).trans (e q hq)⟩
theorem or_w (x : Int64) {k j : Nat} (hk : k < 64) (hj : j < 64) : (x ||| ((1 : Int64) <<< ((nI k).toInt64 &&& 63))).toBitVec.getLsbD j = if j = k then true else x.toBitVec.getLsbD j := by
  rw [Int64.toBitVec_or, one64 k hk, BitVec.getLsbD_or, BitVec.getLsbD_twoPow]
  by_cases e : j = k
  · subst e; simp [hj]
  · have : ¬ k = j := fun h => e h.symm
    simp [e, this]
theorem an_w (x : Int64) {k j : Nat} (hk : k < 64) (hj : j < 64) : (x &&& (((1 : Int64) <<< ((nI k).toInt64 &&& 63)) ^^^ (-1 : Int64))).toBitVec.getLsbD j = if j = k then false else x.toBitVec.getLsbD j := by
  rw [Int64.toBitVec_and, Int64.toBitVec_xor, one64 k hk, BitVec.getLsbD_and, BitVec.getLsbD_xor, BitVec.getLsbD_twoPow, show (-1 : Int64).toBitVec = BitVec.allOnes 64 from by decide, BitVec.getLsbD_allOnes]
  by_cases e : j = k
  · subst e; simp [hj]
  · have : ¬ k = j := fun h => e h.symm
    simp [e, this, hj]
theorem set1 {k p : Nat} {y : Int64} {x : Bool} (hp : p < 192) (hy : ∀ i, i < 64 → y.toBitVec.getLsbD i = if i = p % 64 then x else (wd ia w (3 * k + p / 64)).toBitVec.getLsbD i) : sEw ia (u2L ia w (3 * k + p / 64) y) w k (upB (sB (ia w) k) p x) := by
  refine ⟨fun c hc => u2L_a _ _ hc, fun j hj q hq => ?_, fun q hq => ?_⟩
  · rw [sB_wd _ _ _ hq, sB_wd _ _ _ hq, wd_n _ _ (Or.inr (show 3 * j + q / 64 ≠ 3 * k + p / 64 by omega))]
  · rw [sB_wd _ _ _ hq]
    unfold upB
    by_cases e : q / 64 = p / 64
    · rw [e, wd_s, hy _ (Nat.mod_lt _ (by decide))]
      by_cases e2 : q = p
      · subst e2; rw [if_pos rfl, if_pos rfl]
      · rw [if_neg e2, if_neg (show ¬ q % 64 = p % 64 by omega), ← e, ← sB_wd _ _ _ hq]
    · rw [wd_n _ _ (Or.inr (show 3 * k + q / 64 ≠ 3 * k + p / 64 by omega)), if_neg (show ¬ q = p by intro e2; subst e2; exact e rfl), ← sB_wd _ _ _ hq]
theorem add_s (h : isPS b a w n) {k p : Nat} (hk : k < n) (hp : p < 192) : ∃ ia1, f_X3_add a (nI k) (nI p) (wr (SK b) ia fi fl qa f) = some (wr (SK b) ia1 fi fl qa f) ∧ sEw ia ia1 w k (upB (sB (ia w) k) p true) := by
  have hn := h.2.2
  have hlt : 3 * k + p / 64 < 3 * n := by omega
  refine ⟨u2L ia w (3 * k + p / 64) (wd ia w (3 * k + p / 64) ||| ((1 : Int64) <<< ((nI (p % 64)).toInt64 &&& 63))), ?_, set1 hp (fun i hi => or_w _ (Nat.mod_lt _ (by decide)) hi)⟩
  unfold f_X3_add
  rw [ixp k hp, if_neg (nI_pos (show 3 * k + p / 64 < 2 ^ 31 by omega))]
  simp only [ps_R h, ps_L h, Option.bind_some]
  rw [if_neg (nI_ge hlt (by omega))]
  simp only [ps_ld h hlt, Option.bind_some]
  rw [and63 (show p < 2 ^ 31 by omega), ps_st h hlt]
  rfl
theorem remove_s (h : isPS b a w n) {k p : Nat} (hk : k < n) (hp : p < 192) : ∃ ia1, f_X3_remove a (nI k) (nI p) (wr (SK b) ia fi fl qa f) = some (wr (SK b) ia1 fi fl qa f) ∧ sEw ia ia1 w k (upB (sB (ia w) k) p false) := by
  have hn := h.2.2
  have hlt : 3 * k + p / 64 < 3 * n := by omega
  refine ⟨u2L ia w (3 * k + p / 64) (wd ia w (3 * k + p / 64) &&& (((1 : Int64) <<< ((nI (p % 64)).toInt64 &&& 63)) ^^^ (-1 : Int64))), ?_, set1 hp (fun i hi => an_w _ (Nat.mod_lt _ (by decide)) hi)⟩
  unfold f_X3_remove
  rw [ixp k hp, if_neg (nI_pos (show 3 * k + p / 64 < 2 ^ 31 by omega))]
  simp only [ps_R h, ps_L h, Option.bind_some]
  rw [if_neg (nI_ge hlt (by omega))]
  simp only [ps_ld h hlt, Option.bind_some]
  rw [and63 (show p < 2 ^ 31 by omega), ps_st h hlt]
  rfl
theorem sE_of {ia1 : Nat → Nat → Int32} {k : Nat} {Γ : Nat → Bool} (h1 : ∀ c, c ≠ w → ia1 c = ia c) (h2 : ∀ j, (j < 3 * k ∨ 3 * k + 3 ≤ j) → wd ia1 w j = wd ia w j) (h3 : ∀ j, j < 3 → ∀ i, i < 64 → (wd ia1 w (3 * k + j)).toBitVec.getLsbD i = Γ (64 * j + i)) : sEw ia ia1 w k Γ := by
  refine ⟨h1, fun j hj q hq => ?_, fun q hq => ?_⟩
  · rw [sB_wd _ _ _ hq, sB_wd _ _ _ hq, h2 _ (by omega)]
  · rw [sB_wd _ _ _ hq, h3 _ (by omega) _ (Nat.mod_lt _ (by decide)), show 64 * (q / 64) + q % 64 = q by omega]
theorem word_s (h : isPS b a w n) {k i : Nat} (hk : k < n) (hi : i < 3) : f_X3_word a (nI k) (nI i) (wr (SK b) ia fi fl qa f) = some (wd ia w (3 * k + i)) := by
  have hn := h.2.2
  have hlt : 3 * k + i < 3 * n := by omega
  unfold f_X3_word
  rw [ix3, if_neg (nI_pos (show 3 * k + i < 2 ^ 31 by omega))]
  simp only [ps_R h, ps_L h, Option.bind_some]
  rw [if_neg (nI_ge hlt (by omega)), ps_ld h hlt]
  rfl
theorem write_s (h : isPS b a w n) {k i : Nat} (hk : k < n) (hi : i < 3) (x : Int64) : f_X3_write a (nI k) (nI i) x (wr (SK b) ia fi fl qa f) = some (wr (SK b) (u2L ia w (3 * k + i) x) fi fl qa f) := by
  have hn := h.2.2
  have hlt : 3 * k + i < 3 * n := by omega
  unfold f_X3_write
  rw [ix3, if_neg (nI_pos (show 3 * k + i < 2 ^ 31 by omega))]
  simp only [ps_R h, ps_L h, Option.bind_some]
  rw [if_neg (nI_ge hlt (by omega)), ps_st h hlt]
  rfl
theorem copy_3 (h : isPS b a w n) (h2 : isPS b a2 w2 n2) {k k2 : Nat} (hk : k < n) (hk2 : k2 < n2) : ∀ (m i q : Nat) (ia : Nat → Nat → Int32), i + m = 3 → m < q → ∃ ia1, f_X3_copy_3 q a (nI k) a2 (nI k2) (nI i) (wr (SK b) ia fi fl qa f) = some (wr (SK b) ia1 fi fl qa f) ∧ (∀ c, c ≠ w → ia1 c = ia c) ∧ (∀ j, (j < 3 * k + i ∨ 3 * k + 3 ≤ j) → wd ia1 w j = wd ia w j) ∧ ∀ j, i ≤ j → j < 3 → wd ia1 w (3 * k + j) = wd ia w2 (3 * k2 + j) := by
  intro m
  induction m with
  | zero =>
    intro i q ia hi hq
    obtain ⟨q, rfl⟩ : ∃ k, q = k + 1 := ⟨q - 1, by omega⟩
    have e : i = 3 := by omega
    subst e
    refine ⟨ia, ?_, fun _ _ => rfl, fun _ _ => rfl, fun j h1 h2 => by omega⟩
    rw [f_X3_copy_3, if_pos (show (3 : Int32) ≤ nI 3 by decide)]
  | succ m ih =>
    intro i q ia hi hq
    obtain ⟨q, rfl⟩ : ∃ k, q = k + 1 := ⟨q - 1, by omega⟩
    have h3 : i < 3 := by omega
    obtain ⟨y, hy⟩ : ∃ y, y = wd ia w2 (3 * k2 + i) := ⟨_, rfl⟩
    obtain ⟨ia1, a1, a2, a3, a4⟩ := ih (i + 1) q (u2L ia w (3 * k + i) y) (by omega) (by omega)
    refine ⟨ia1, ?_, fun c hc => (a2 c hc).trans (u2L_a _ _ hc), fun j hj => (a3 j (by omega)).trans (wd_n _ _ (Or.inr (by omega))), fun j h1 h4 => ?_⟩
    · rw [f_X3_copy_3, if_neg (show ¬ (3 : Int32) ≤ nI i from nI_ge (b := 3) h3 (by decide))]
      simp only [ps_ck h, ps_ck h2, word_s h hk h3, word_s h2 hk2 h3, write_s h hk h3, Option.bind_some, nI_1]
      rw [← hy]
      exact a1
    · by_cases e : j = i
      · subst e
        rw [a3 _ (by omega), wd_s, hy]
      · rw [a4 j (by omega) h4, wd_n _ _ (show w2 ≠ w ∨ 3 * k2 + j ≠ 3 * k + i by omega)]
theorem copy_s (h : isPS b a w n) (h2 : isPS b a2 w2 n2) {k k2 : Nat} (hk : k < n) (hk2 : k2 < n2) : ∃ ia1, f_X3_copy a (nI k) a2 (nI k2) (wr (SK b) ia fi fl qa f) = some (wr (SK b) ia1 fi fl qa f) ∧ sEw ia ia1 w k (sB (ia w2) k2) := by
  obtain ⟨q, hq⟩ := FU_1000
  obtain ⟨ia1, a1, a2, a3, a4⟩ := copy_3 (fi := fi) (fl := fl) (qa := qa) (f := f) h h2 hk hk2 3 0 FU ia (by omega) (by omega)
  refine ⟨ia1, a1, sE_of a2 (fun j hj => a3 j (by omega)) (fun j hj i hi => ?_)⟩
  have hq : 64 * j + i < 192 := by omega
  have e1 : (64 * j + i) / 64 = j := by omega
  have e2 : (64 * j + i) % 64 = i := by omega
  rw [a4 j (Nat.zero_le _) hj]
  rw [sB_wd _ _ _ hq, e1, e2]
theorem unite_3 (h : isPS b a w n) (h2 : isPS b a2 w2 n2) {k k2 : Nat} (hk : k < n) (hk2 : k2 < n2) : ∀ (m i q : Nat) (ia : Nat → Nat → Int32), i + m = 3 → m < q → ∃ ia1, f_X3_unite_3 q a (nI k) a2 (nI k2) (nI i) (wr (SK b) ia fi fl qa f) = some (wr (SK b) ia1 fi fl qa f) ∧ (∀ c, c ≠ w → ia1 c = ia c) ∧ (∀ j, (j < 3 * k + i ∨ 3 * k + 3 ≤ j) → wd ia1 w j = wd ia w j) ∧ ∀ j, i ≤ j → j < 3 → wd ia1 w (3 * k + j) = (wd ia w (3 * k + j) ||| wd ia w2 (3 * k2 + j)) := by
  intro m
  induction m with
  | zero =>
    intro i q ia hi hq
    obtain ⟨q, rfl⟩ : ∃ k, q = k + 1 := ⟨q - 1, by omega⟩
    have e : i = 3 := by omega
    subst e
    refine ⟨ia, ?_, fun _ _ => rfl, fun _ _ => rfl, fun j h1 h2 => by omega⟩
    rw [f_X3_unite_3, if_pos (show (3 : Int32) ≤ nI 3 by decide)]
  | succ m ih =>
    intro i q ia hi hq
    obtain ⟨q, rfl⟩ : ∃ k, q = k + 1 := ⟨q - 1, by omega⟩
    have h3 : i < 3 := by omega
    obtain ⟨y, hy⟩ : ∃ y, y = (wd ia w (3 * k + i) ||| wd ia w2 (3 * k2 + i)) := ⟨_, rfl⟩
    obtain ⟨ia1, a1, a2, a3, a4⟩ := ih (i + 1) q (u2L ia w (3 * k + i) y) (by omega) (by omega)
    refine ⟨ia1, ?_, fun c hc => (a2 c hc).trans (u2L_a _ _ hc), fun j hj => (a3 j (by omega)).trans (wd_n _ _ (Or.inr (by omega))), fun j h1 h4 => ?_⟩
    · rw [f_X3_unite_3, if_neg (show ¬ (3 : Int32) ≤ nI i from nI_ge (b := 3) h3 (by decide))]
      simp only [ps_ck h, ps_ck h2, word_s h hk h3, word_s h2 hk2 h3, write_s h hk h3, Option.bind_some, nI_1]
      rw [← hy]
      exact a1
    · by_cases e : j = i
      · subst e
        rw [a3 _ (by omega), wd_s, hy]
      · rw [a4 j (by omega) h4, wd_n _ _ (Or.inr (show 3 * k + j ≠ 3 * k + i by omega)), wd_n _ _ (show w2 ≠ w ∨ 3 * k2 + j ≠ 3 * k + i by omega)]
theorem unite_s (h : isPS b a w n) (h2 : isPS b a2 w2 n2) {k k2 : Nat} (hk : k < n) (hk2 : k2 < n2) : ∃ ia1, f_X3_unite a (nI k) a2 (nI k2) (wr (SK b) ia fi fl qa f) = some (wr (SK b) ia1 fi fl qa f) ∧ sEw ia ia1 w k (fun q => sB (ia w) k q || sB (ia w2) k2 q) := by
  obtain ⟨q, hq⟩ := FU_1000
  obtain ⟨ia1, a1, a2, a3, a4⟩ := unite_3 (fi := fi) (fl := fl) (qa := qa) (f := f) h h2 hk hk2 3 0 FU ia (by omega) (by omega)
  refine ⟨ia1, a1, sE_of a2 (fun j hj => a3 j (by omega)) (fun j hj i hi => ?_)⟩
  have hq : 64 * j + i < 192 := by omega
  have e1 : (64 * j + i) / 64 = j := by omega
  have e2 : (64 * j + i) % 64 = i := by omega
  rw [a4 j (Nat.zero_le _) hj]
  show _ = (sB (ia w) k (64 * j + i) || sB (ia w2) k2 (64 * j + i))
  rw [sB_wd _ _ _ hq, sB_wd _ _ _ hq, e1, e2, Int64.toBitVec_or, BitVec.getLsbD_or]
theorem keepOnly_3 (h : isPS b a w n) (h2 : isPS b a2 w2 n2) {k k2 : Nat} (hk : k < n) (hk2 : k2 < n2) : ∀ (m i q : Nat) (ia : Nat → Nat → Int32), i + m = 3 → m < q → ∃ ia1, f_X3_keepOnly_3 q a (nI k) a2 (nI k2) (nI i) (wr (SK b) ia fi fl qa f) = some (wr (SK b) ia1 fi fl qa f) ∧ (∀ c, c ≠ w → ia1 c = ia c) ∧ (∀ j, (j < 3 * k + i ∨ 3 * k + 3 ≤ j) → wd ia1 w j = wd ia w j) ∧ ∀ j, i ≤ j → j < 3 → wd ia1 w (3 * k + j) = (wd ia w (3 * k + j) &&& wd ia w2 (3 * k2 + j)) := by
  intro m
  induction m with
  | zero =>
    intro i q ia hi hq
    obtain ⟨q, rfl⟩ : ∃ k, q = k + 1 := ⟨q - 1, by omega⟩
    have e : i = 3 := by omega
    subst e
    refine ⟨ia, ?_, fun _ _ => rfl, fun _ _ => rfl, fun j h1 h2 => by omega⟩
    rw [f_X3_keepOnly_3, if_pos (show (3 : Int32) ≤ nI 3 by decide)]
  | succ m ih =>
    intro i q ia hi hq
    obtain ⟨q, rfl⟩ : ∃ k, q = k + 1 := ⟨q - 1, by omega⟩
    have h3 : i < 3 := by omega
    obtain ⟨y, hy⟩ : ∃ y, y = (wd ia w (3 * k + i) &&& wd ia w2 (3 * k2 + i)) := ⟨_, rfl⟩
    obtain ⟨ia1, a1, a2, a3, a4⟩ := ih (i + 1) q (u2L ia w (3 * k + i) y) (by omega) (by omega)
    refine ⟨ia1, ?_, fun c hc => (a2 c hc).trans (u2L_a _ _ hc), fun j hj => (a3 j (by omega)).trans (wd_n _ _ (Or.inr (by omega))), fun j h1 h4 => ?_⟩
    · rw [f_X3_keepOnly_3, if_neg (show ¬ (3 : Int32) ≤ nI i from nI_ge (b := 3) h3 (by decide))]
      simp only [ps_ck h, ps_ck h2, word_s h hk h3, word_s h2 hk2 h3, write_s h hk h3, Option.bind_some, nI_1]
      rw [← hy]
      exact a1
    · by_cases e : j = i
      · subst e
        rw [a3 _ (by omega), wd_s, hy]
      · rw [a4 j (by omega) h4, wd_n _ _ (Or.inr (show 3 * k + j ≠ 3 * k + i by omega)), wd_n _ _ (show w2 ≠ w ∨ 3 * k2 + j ≠ 3 * k + i by omega)]
theorem keepOnly_s (h : isPS b a w n) (h2 : isPS b a2 w2 n2) {k k2 : Nat} (hk : k < n) (hk2 : k2 < n2) : ∃ ia1, f_X3_keepOnly a (nI k) a2 (nI k2) (wr (SK b) ia fi fl qa f) = some (wr (SK b) ia1 fi fl qa f) ∧ sEw ia ia1 w k (fun q => sB (ia w) k q && sB (ia w2) k2 q) := by
  obtain ⟨q, hq⟩ := FU_1000
  obtain ⟨ia1, a1, a2, a3, a4⟩ := keepOnly_3 (fi := fi) (fl := fl) (qa := qa) (f := f) h h2 hk hk2 3 0 FU ia (by omega) (by omega)
  refine ⟨ia1, a1, sE_of a2 (fun j hj => a3 j (by omega)) (fun j hj i hi => ?_)⟩
  have hq : 64 * j + i < 192 := by omega
  have e1 : (64 * j + i) / 64 = j := by omega
  have e2 : (64 * j + i) % 64 = i := by omega
  rw [a4 j (Nat.zero_le _) hj]
  show _ = (sB (ia w) k (64 * j + i) && sB (ia w2) k2 (64 * j + i))
  rw [sB_wd _ _ _ hq, sB_wd _ _ _ hq, e1, e2, Int64.toBitVec_and, BitVec.getLsbD_and]
theorem m1_bit {i : Nat} (hi : i < 64) : (-1 : Int64).toBitVec.getLsbD i = true := by
  rw [show (-1 : Int64).toBitVec = BitVec.allOnes 64 from by decide, BitVec.getLsbD_allOnes]
  exact decide_eq_true hi
theorem fill_7 (h : isPS b a w n) {k : Nat} (hk : k < n) (v : Int32) : ∀ (m i q : Nat) (ia : Nat → Nat → Int32), i + m = 3 → m < q → ∃ ia1, f_X3_fill_7 q a v (nI (3 * k)) (nI i) (wr (SK b) ia fi fl qa f) = some (wr (SK b) ia1 fi fl qa f) ∧ (∀ c, c ≠ w → ia1 c = ia c) ∧ (∀ j, (j < 3 * k + i ∨ 3 * k + 3 ≤ j) → wd ia1 w j = wd ia w j) ∧ ∀ j, i ≤ j → j < 3 → wd ia1 w (3 * k + j) = (if v = 0 then (0 : Int64) else -1) := by
  have hn := h.2.2
  intro m
  induction m with
  | zero =>
    intro i q ia hi hq
    obtain ⟨q, rfl⟩ : ∃ k, q = k + 1 := ⟨q - 1, by omega⟩
    have e : i = 3 := by omega
    subst e
    refine ⟨ia, ?_, fun _ _ => rfl, fun _ _ => rfl, fun j h1 h2 => by omega⟩
    rw [f_X3_fill_7, if_pos (show (3 : Int32) ≤ nI 3 by decide)]
  | succ m ih =>
    intro i q ia hi hq
    obtain ⟨q, rfl⟩ : ∃ k, q = k + 1 := ⟨q - 1, by omega⟩
    have h3 : i < 3 := by omega
    have hlt : 3 * k + i < 3 * n := by omega
    obtain ⟨ia1, a1, a2, a3, a4⟩ := ih (i + 1) q (u2L ia w (3 * k + i) (if v = 0 then (0 : Int64) else -1)) (by omega) (by omega)
    refine ⟨ia1, ?_, fun c hc => (a2 c hc).trans (u2L_a _ _ hc), fun j hj => (a3 j (by omega)).trans (wd_n _ _ (Or.inr (by omega))), fun j h1 h4 => ?_⟩
    · rw [f_X3_fill_7, if_neg (show ¬ (3 : Int32) ≤ nI i from nI_ge (b := 3) h3 (by decide)), nI_add, if_neg (nI_pos (show 3 * k + i < 2 ^ 31 by omega))]
      simp only [ps_R h, ps_L h, Option.bind_some]
      rw [if_neg (nI_ge hlt (by omega))]
      by_cases hv : v = 0
      · rw [if_pos hv] at a1 ⊢
        unfold f_X3_fill_51 f_X3_fill_52
        simp only [ps_st h hlt, Option.bind_some, nI_1]
        exact a1
      · rw [if_neg hv] at a1 ⊢
        unfold f_X3_fill_51 f_X3_fill_52
        simp only [ps_st h hlt, Option.bind_some, nI_1]
        exact a1
    · by_cases e : j = i
      · subst e
        rw [a3 _ (by omega), wd_s]
      · exact a4 j (by omega) h4
theorem fill_s (h : isPS b a w n) {k : Nat} (hk : k < n) (v : Int32) : ∃ ia1, f_X3_fill a (nI k) v (wr (SK b) ia fi fl qa f) = some (wr (SK b) ia1 fi fl qa f) ∧ sEw ia ia1 w k (fun _ => if v = 0 then false else true) := by
  obtain ⟨q, hq⟩ := FU_1000
  obtain ⟨ia1, a1, a2, a3, a4⟩ := fill_7 (fi := fi) (fl := fl) (qa := qa) (f := f) h hk v 3 0 FU ia (by omega) (by omega)
  refine ⟨ia1, ?_, sE_of a2 (fun j hj => a3 j (by omega)) (fun j hj i hi => ?_)⟩
  · unfold f_X3_fill
    rw [show (3 : Int32) = nI 3 from rfl, pk_mul]
    exact a1
  · rw [a4 j (Nat.zero_le _) hj]
    by_cases hv : v = 0
    · rw [if_pos hv, if_pos hv]; simp
    · rw [if_neg hv, if_neg hv, m1_bit hi]
theorem wi_0 (x y : Int64) : (x &&& (y ^^^ (-1 : Int64)) = 0) ↔ ∀ i, i < 64 → x.toBitVec.getLsbD i = true → y.toBitVec.getLsbD i = true := by
  have hb : ∀ i, i < 64 → (x &&& (y ^^^ (-1 : Int64))).toBitVec.getLsbD i = (x.toBitVec.getLsbD i && !y.toBitVec.getLsbD i) := fun i hi => by
    rw [Int64.toBitVec_and, Int64.toBitVec_xor, BitVec.getLsbD_and, BitVec.getLsbD_xor, show (-1 : Int64).toBitVec = BitVec.allOnes 64 from by decide, BitVec.getLsbD_allOnes, decide_eq_true hi]
    cases y.toBitVec.getLsbD i <;> rfl
  constructor
  · intro h i hi hx
    have := hb i hi
    rw [h, hx] at this
    cases hy : y.toBitVec.getLsbD i with
    | true => rfl
    | false => rw [hy] at this; simp at this
  · intro h
    apply Int64.toBitVec_inj.mp
    apply BitVec.eq_of_getLsbD_eq
    intro i hi
    rw [hb i hi]
    cases hx : x.toBitVec.getLsbD i with
    | false => simp
    | true => rw [h i hi hx]; simp
theorem within_3 (h : isPS b a w n) (h2 : isPS b a2 w2 n2) {k k2 : Nat} (hk : k < n) (hk2 : k2 < n2) : ∀ (m i q : Nat), i + m = 3 → m < q → ((∀ j, i ≤ j → j < 3 → ∀ r, r < 64 → (wd ia w (3 * k + j)).toBitVec.getLsbD r = true → (wd ia w2 (3 * k2 + j)).toBitVec.getLsbD r = true) ∧ f_X3_isWithin_3 (wr (SK b) ia fi fl qa f) q a (nI k) a2 (nI k2) (nI i) = some 1) ∨ ((¬ ∀ j, i ≤ j → j < 3 → ∀ r, r < 64 → (wd ia w (3 * k + j)).toBitVec.getLsbD r = true → (wd ia w2 (3 * k2 + j)).toBitVec.getLsbD r = true) ∧ f_X3_isWithin_3 (wr (SK b) ia fi fl qa f) q a (nI k) a2 (nI k2) (nI i) = some 0) := by
  intro m
  induction m with
  | zero =>
    intro i q hi hq
    obtain ⟨q, rfl⟩ : ∃ k, q = k + 1 := ⟨q - 1, by omega⟩
    have e : i = 3 := by omega
    subst e
    refine Or.inl ⟨fun j h1 h2 => by omega, ?_⟩
    rw [f_X3_isWithin_3, if_pos (show (3 : Int32) ≤ nI 3 by decide)]
  | succ m ih =>
    intro i q hi hq
    obtain ⟨q, rfl⟩ : ∃ k, q = k + 1 := ⟨q - 1, by omega⟩
    have h3 : i < 3 := by omega
    rw [f_X3_isWithin_3, if_neg (show ¬ (3 : Int32) ≤ nI i from nI_ge (b := 3) h3 (by decide))]
    simp only [ps_ck h, ps_ck h2, word_s h hk h3, word_s h2 hk2 h3, Option.bind_some, nI_1, lgz, wi_0]
    by_cases c : ∀ r, r < 64 → (wd ia w (3 * k + i)).toBitVec.getLsbD r = true → (wd ia w2 (3 * k2 + i)).toBitVec.getLsbD r = true
    · rw [if_pos c]
      rcases ih (i + 1) q (by omega) (by omega) with ⟨b1, b2⟩ | ⟨b1, b2⟩
      · refine Or.inl ⟨fun j h1 h4 => ?_, b2⟩
        by_cases e : j = i
        · subst e; exact c
        · exact b1 j (by omega) h4
      · exact Or.inr ⟨fun h => b1 (fun j h1 h4 => h j (by omega) h4), b2⟩
    · rw [if_neg c]
      exact Or.inr ⟨fun h => c (h i (Nat.le_refl _) h3), rfl⟩
theorem within_s (h : isPS b a w n) (h2 : isPS b a2 w2 n2) {k k2 : Nat} (hk : k < n) (hk2 : k2 < n2) : ((∀ q, q < 192 → sB (ia w) k q = true → sB (ia w2) k2 q = true) ∧ f_X3_isWithin a (nI k) a2 (nI k2) (wr (SK b) ia fi fl qa f) = some 1) ∨ ((¬ ∀ q, q < 192 → sB (ia w) k q = true → sB (ia w2) k2 q = true) ∧ f_X3_isWithin a (nI k) a2 (nI k2) (wr (SK b) ia fi fl qa f) = some 0) := by
  obtain ⟨q, hq⟩ := FU_1000
  have e : (∀ q, q < 192 → sB (ia w) k q = true → sB (ia w2) k2 q = true) ↔ ∀ j, 0 ≤ j → j < 3 → ∀ r, r < 64 → (wd ia w (3 * k + j)).toBitVec.getLsbD r = true → (wd ia w2 (3 * k2 + j)).toBitVec.getLsbD r = true := by
    constructor
    · intro h0 j _ hj r hr hb
      have hq : 64 * j + r < 192 := by omega
      have e1 : (64 * j + r) / 64 = j := by omega
      have e2 : (64 * j + r) % 64 = r := by omega
      have := h0 (64 * j + r) hq
      rw [sB_wd _ _ _ hq, sB_wd _ _ _ hq, e1, e2] at this
      exact this hb
    · intro h0 q hq hb
      rw [sB_wd _ _ _ hq] at hb ⊢
      exact h0 (q / 64) (Nat.zero_le _) (by omega) (q % 64) (Nat.mod_lt _ (by decide)) hb
  rw [e]
  exact within_3 h h2 hk hk2 3 0 FU (by omega) (by omega)
theorem has_any (h : isPS b a w n) {k : Nat} (v : Int32) : ∃ x, f_X3_has a (nI k) v (wr (SK b) ia fi fl qa f) = some x := by
  have hn := h.2.2
  unfold f_X3_has
  generalize ((3 : Int32) * nI k) + (v >>> ((6 : Int32) &&& 31)) = x
  by_cases c : x < 0
  · rw [if_pos c]; exact ⟨_, rfl⟩
  · rw [if_neg c]
    obtain ⟨j, hj, rfl⟩ := nI_of c
    simp only [ps_R h, ps_L h, Option.bind_some]
    by_cases c2 : nI (3 * n) ≤ nI j
    · rw [if_pos c2]; exact ⟨_, rfl⟩
    · rw [if_neg c2]
      have hlt : j < 3 * n := by
        rw [nI_leI (by omega) hj] at c2
        omega
      simp only [ps_ld h hlt, Option.bind_some]
      split
      · exact ⟨_, rfl⟩
      · exact ⟨_, rfl⟩
theorem sEw.oth {ia1 : Nat → Nat → Int32} {k : Nat} {Γ : Nat → Bool} (h : sEw ia ia1 w k Γ) {c : Nat} (hc : c ≠ w) : ia1 c = ia c := h.1 c hc
end PSETS
