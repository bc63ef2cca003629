/-! THE STAGES' OPERATIONS ON NUMBERS; both sides do them -/
def gL (n k : Nat) (L : Nat → Nat) : Nat → Nat := fun i => if i < n then (if (L i).testBit k then L i ||| 2 ^ n else L i) else 2 ^ n
def gF (n k : Nat) (F : Nat → Nat) : Nat → Nat := fun i => if i < n then F i else F k
/-- to all stages of w, kn -/
def tF (w kn : Nat) (F : Nat → Nat) : Nat → Nat := fun i => if w.testBit i then F i ||| kn else F i
/-- to all stages that lead to 'from', what 'to' leads to -/
def cL (n fr to : Nat) (L : Nat → Nat) : Nat → Nat := fun i => if (L i).testBit fr then L i ||| L to else L i
def clr (a k : Nat) : Nat := a &&& (15 ^^^ 2 ^ k)
def uF (w k : Nat) (F : Nat → Nat) : Nat → Nat := fun i => if w.testBit i then clr (F i) k else F i
def wo (a k : Nat) : Nat := a % 2 ^ k + a / 2 / 2 ^ k * 2 ^ k
def rL (k : Nat) (L : Nat → Nat) : Nat → Nat := fun i => wo (L (if i < k then i else i + 1)) k
def rF (k : Nat) (F : Nat → Nat) : Nat → Nat := fun i => F (if i < k then i else i + 1)
theorem clr_1 : ∀ a, a < 16 → ∀ k, k < 4 → nI a &&& ((1 : Int32) <<< (nI k &&& 31) ^^^ (-1 : Int32)) = nI (clr a k) := by decide +kernel
theorem clr_lt : ∀ a, a < 16 → ∀ k, k < 4 → clr a k < 16 := by decide +kernel
theorem and15 : ∀ a, a < 16 → nI a &&& (15 : Int32) = nI a := by decide +kernel
theorem andm1 : ∀ a, a < 256 → nI a &&& (-1 : Int32) = nI a := by decide +kernel
theorem wo_1 : ∀ a, a < 256 → ∀ k, k < 8 → (nI a &&& ((1 : Int32) <<< (nI k &&& 31) - 1)) ||| ((nI a >>> ((1 : Int32) &&& 31)) &&& (((1 : Int32) <<< (nI k &&& 31) - 1) ^^^ (-1 : Int32))) = nI (wo a k) := by decide +kernel
theorem wo_lt {a n k : Nat} (h : a < 2 ^ (n + 1)) (hk : k ≤ n) : wo a k < 2 ^ n := by
  unfold wo
  have h1 : a / 2 < 2 ^ n := by
    have : 2 ^ (n + 1) = 2 ^ n * 2 := Nat.pow_succ 2 n
    omega
  have hkn : 2 ^ n = 2 ^ (n - k) * 2 ^ k := by rw [← Nat.pow_add]; congr 1; omega
  have hp : 0 < 2 ^ k := Nat.two_pow_pos k
  have h2 : a / 2 / 2 ^ k < 2 ^ (n - k) := by
    apply Nat.div_lt_of_lt_mul
    rw [Nat.mul_comm, ← hkn]
    exact h1
  have h3 : a % 2 ^ k < 2 ^ k := Nat.mod_lt _ hp
  have h4 : (a / 2 / 2 ^ k + 1) * 2 ^ k ≤ 2 ^ (n - k) * 2 ^ k := Nat.mul_le_mul_right _ h2
  rw [Nat.add_mul, Nat.one_mul, ← hkn] at h4
  omega
theorem WF.grow {n k : Nat} {L F : Nat → Nat} (w : WF n L F) (h8 : n < 8) (hk : k < n) : WF (n + 1) (gL n k L) (gF n k F) := by
  refine ⟨by omega, by omega, fun i hi => ?_⟩
  have hp : (2 : Nat) ^ n < 2 ^ (n + 1) := Nat.pow_lt_pow_right (by decide) (by omega)
  constructor
  · unfold gL
    by_cases h : i < n
    · rw [if_pos h]
      have h1 := Nat.lt_trans (w.2.2 i h).1 hp
      split
      · exact or_lt h1 hp
      · exact h1
    · rw [if_neg h]; exact hp
  · unfold gF
    by_cases h : i < n
    · rw [if_pos h]; exact (w.2.2 i h).2
    · rw [if_neg h]; exact (w.2.2 k hk).2
theorem WF.teach {n : Nat} {L F : Nat → Nat} (w : WF n L F) {x kn : Nat} (hk : kn < 16) : WF n L (tF x kn F) := by
  refine ⟨w.1, w.2.1, fun i hi => ⟨(w.2.2 i hi).1, ?_⟩⟩
  unfold tF
  split
  · exact or_lt (n := 4) (w.2.2 i hi).2 hk
  · exact (w.2.2 i hi).2
theorem WF.unteach {n k : Nat} {L F : Nat → Nat} (w : WF n L F) {x : Nat} (hk : k < 4) : WF n L (uF x k F) := by
  refine ⟨w.1, w.2.1, fun i hi => ⟨(w.2.2 i hi).1, ?_⟩⟩
  unfold uF
  split
  · exact clr_lt _ (w.2.2 i hi).2 k hk
  · exact (w.2.2 i hi).2
theorem WF.connect {n fr to : Nat} {L F : Nat → Nat} (w : WF n L F) (ht : to < n) : WF n (cL n fr to L) F := by
  refine ⟨w.1, w.2.1, fun i hi => ⟨?_, (w.2.2 i hi).2⟩⟩
  unfold cL
  split
  · exact or_lt (w.2.2 i hi).1 (w.2.2 to ht).1
  · exact (w.2.2 i hi).1
theorem WF.takeOut {n k : Nat} {L F : Nat → Nat} (w : WF (n + 1) L F) (h1 : 1 ≤ n) (hk : k ≤ n) : WF n (rL k L) (rF k F) := by
  refine ⟨h1, by have := w.2.1; omega, fun i hi => ?_⟩
  have hj : (if i < k then i else i + 1) < n + 1 := by split <;> omega
  exact ⟨wo_lt (w.2.2 _ hj).1 hk, (w.2.2 _ hj).2⟩
section OP
variable {b s n : Nat} {L F : Nat → Nat} {ia fi : Nat → Nat → Int32} {fl : Nat → Nat → Int64} {qa : Nat → Nat → Option Nat} {f : mmF}
/-! the class's side: what the explicit contents hold -/
theorem CS.grow (h : CS ia fi s n L F) (w : WF n L F) (h8 : n < 8) {k : Nat} (hk : k < n) : CS (u2 (u2 (rw2 ia (s + 1) (fun j => if j < n then grL (ia (s + 1)) (colF (ia (s + 1)) (nI k) n) n j else ia (s + 1) j)) (s + 1) n ((1 : Int32) <<< (nI n &&& 31))) (s + 2) n (ia (s + 2) k)) (u2 fi s 0 (nI (n + 1))) s (n + 1) (gL n k L) (gF n k F) := by
  refine ⟨u2_s _ _ _ _, fun i hi => ⟨?_, ?_⟩⟩
  · rw [u2_a _ _ (by omega)]
    by_cases hn : i = n
    · subst hn
      rw [u2_s, bt_shl (by omega)]
      unfold gL
      rw [if_neg (by omega)]
    · have hi2 : i < n := by omega
      rw [u2_i _ _ hn, rw2_s]
      show (if i < n then grL (ia (s + 1)) (colF (ia (s + 1)) (nI k) n) n i else ia (s + 1) i) = _
      rw [if_pos hi2]
      unfold grL gL
      have hl := w.L31 hi2
      rw [colF_N (by omega) n (by omega) (fun i hi => ⟨(h.2 i hi).1, by have := w.L31 hi; omega⟩), if_pos hi2, (h.2 i hi2).1]
      have hc := Nat.lt_of_lt_of_le (colN_lt L k n) (p8 (show n ≤ 8 by omega))
      have hb := colN_bit L k i n
      rw [decide_eq_true hi2, Bool.true_and] at hb
      by_cases ht : (L i).testBit k = true
      · rw [if_neg (by rw [bt_0 (by omega) (by omega), hb, ht]; decide), if_pos ht, bt_shl (by omega), fa_or]
      · have hf : (L i).testBit k = false := by simpa using ht
        rw [if_pos (by rw [bt_0 (by omega) (by omega), hb, hf]), if_neg ht, show (0 : Int32) = nI 0 from rfl, fa_or, Nat.or_zero]
  · by_cases hn : i = n
    · subst hn
      rw [u2_s, (h.2 k hk).2]
      unfold gF
      rw [if_neg (by omega)]
    · have hi2 : i < n := by omega
      rw [u2_i _ _ hn, u2_a _ _ (by omega), rw2_n _ _ (by omega), (h.2 i hi2).2]
      unfold gF
      rw [if_pos hi2]
theorem CS.teach (h : CS ia fi s n L F) (w : WF n L F) {x kn : Nat} (hx : x < 256) : CS (rw2 ia (s + 2) (fun j => if j < n then teL (ia (s + 2)) (nI x) (nI kn) j else ia (s + 2) j)) fi s n L (tF x kn F) := by
  refine ⟨h.1, fun i hi => ⟨?_, ?_⟩⟩
  · rw [rw2_n _ _ (by omega)]; exact (h.2 i hi).1
  · rw [rw2_s]
    show (if i < n then teL (ia (s + 2)) (nI x) (nI kn) i else ia (s + 2) i) = _
    have h8 := w.2.1
    rw [if_pos hi]
    unfold teL tF
    rw [(h.2 i hi).2]
    by_cases ht : x.testBit i = true
    · rw [if_neg (by rw [bt_0 (by omega) (by omega), ht]; decide), if_pos ht, fa_or]
    · have hf : x.testBit i = false := by simpa using ht
      rw [if_pos (by rw [bt_0 (by omega) (by omega), hf]), if_neg ht, show (0 : Int32) = nI 0 from rfl, fa_or, Nat.or_zero]
theorem CS.unteach (h : CS ia fi s n L F) (w : WF n L F) {x k : Nat} (hx : x < 256) (hk : k < 4) : CS (rw2 ia (s + 2) (fun j => if j < n then utL (ia (s + 2)) (nI x) ((1 : Int32) <<< (nI k &&& 31)) j else ia (s + 2) j)) fi s n L (uF x k F) := by
  refine ⟨h.1, fun i hi => ⟨?_, ?_⟩⟩
  · rw [rw2_n _ _ (by omega)]; exact (h.2 i hi).1
  · rw [rw2_s]
    show (if i < n then utL (ia (s + 2)) (nI x) ((1 : Int32) <<< (nI k &&& 31)) i else ia (s + 2) i) = _
    have h8 := w.2.1
    have hf16 := (w.2.2 i hi).2
    rw [if_pos hi]
    unfold utL uF
    rw [(h.2 i hi).2]
    by_cases ht : x.testBit i = true
    · rw [if_neg (by rw [bt_0 (by omega) (by omega), ht]; decide), if_pos ht, clr_1 _ hf16 k hk]
    · have hf : x.testBit i = false := by simpa using ht
      rw [if_pos (by rw [bt_0 (by omega) (by omega), hf]), if_neg ht, andm1 _ (by omega)]
end OP
