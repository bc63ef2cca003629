/-! A CLAIM'S SIGNS AS A TREE: its nodes are the places of the signs; which nodes lie on the stack; values by nodes -/
/-- the node in place d of the stack behind i signs -/
def sl (g : Nat → Nat) : Nat → Nat → Nat
  | 0, _ => 0
  | i + 1, d => if d + 1 = dpt g (i + 1) then i else sl g i d
def lc (g : Nat → Nat) (i : Nat) : Nat := sl g i (dpt g i - 2)
def rc (g : Nat → Nat) (i : Nat) : Nat := sl g i (dpt g i - 1)
def okp (g : Nat → Nat) (k : Nat) : Prop := ∀ j, j < k → g j < 10 ∧ (6 ≤ g j → 1 ≤ dpt g j) ∧ (7 ≤ g j → 2 ≤ dpt g j)
theorem VC.ok {k : Nat} {g : Nat → Nat} (h : VC k g) : okp g k := h.2.2.1
theorem dpt_s (g : Nat → Nat) (i : Nat) : dpt g (i + 1) = if g i < 6 then dpt g i + 1 else if g i = 6 then dpt g i else dpt g i - 1 := rfl
theorem dpt_le (g : Nat → Nat) : ∀ i : Nat, dpt g i ≤ i
  | 0 => Nat.le_refl _
  | i + 1 => by
    have := dpt_le g i
    rw [dpt_s]
    by_cases h : g i < 6
    · rw [if_pos h]; omega
    · rw [if_neg h]
      by_cases h2 : g i = 6
      · rw [if_pos h2]; omega
      · rw [if_neg h2]; omega
theorem dpt_pos {g : Nat → Nat} {k i : Nat} (h : okp g k) (hi : i < k) : 1 ≤ dpt g (i + 1) := by
  obtain ⟨_, h1, h2⟩ := h i hi
  rw [dpt_s]
  by_cases h6 : g i < 6
  · rw [if_pos h6]; omega
  · rw [if_neg h6]
    by_cases h7 : g i = 6
    · rw [if_pos h7]; exact h1 (by omega)
    · rw [if_neg h7]
      have := h2 (by omega)
      omega
theorem sl_top (g : Nat → Nat) {i d : Nat} (h : d + 1 = dpt g (i + 1)) : sl g (i + 1) d = i := if_pos h
theorem sl_low (g : Nat → Nat) {i d : Nat} (h : d + 1 ≠ dpt g (i + 1)) : sl g (i + 1) d = sl g i d := if_neg h
theorem dpt_up (g : Nat → Nat) (i : Nat) : dpt g (i + 1) ≤ dpt g i + 1 := by
  rw [dpt_s]
  by_cases h6 : g i < 6
  · rw [if_pos h6]; omega
  · rw [if_neg h6]
    by_cases h7 : g i = 6
    · rw [if_pos h7]; omega
    · rw [if_neg h7]; omega
theorem sl_lt (g : Nat → Nat) : ∀ (i d : Nat), d < dpt g i → sl g i d < i
  | 0, d, h => absurd h (Nat.not_lt_zero _)
  | i + 1, d, h => by
    by_cases e : d + 1 = dpt g (i + 1)
    · rw [sl_top g e]; omega
    · rw [sl_low g e]
      have := dpt_up g i
      have := sl_lt g i d (by omega)
      omega
theorem rc_lt {g : Nat → Nat} {k i : Nat} (h : okp g k) (hi : i < k) (h6 : 6 ≤ g i) : rc g i < i := sl_lt g i _ (by have := (h i hi).2.1 h6; omega)
theorem lc_lt {g : Nat → Nat} {k i : Nat} (h : okp g k) (hi : i < k) (h7 : 7 ≤ g i) : lc g i < i := sl_lt g i _ (by have := (h i hi).2.2 h7; omega)
/-- values of nodes, made from those of the parts -/
def nvT {α : Type} (lf : Nat → α) (un : α → α) (bn : Nat → α → α → α) (g : Nat → Nat) (d0 : α) : Nat → Nat → α
  | 0 => fun _ => d0
  | i + 1 => fun j => if j = i then (if g i < 6 then lf (g i) else if g i = 6 then un (nvT lf un bn g d0 i (rc g i)) else bn (g i) (nvT lf un bn g d0 i (lc g i)) (nvT lf un bn g d0 i (rc g i))) else nvT lf un bn g d0 i j
def nv {α : Type} (lf : Nat → α) (un : α → α) (bn : Nat → α → α → α) (g : Nat → Nat) (d0 : α) (i : Nat) : α := nvT lf un bn g d0 (i + 1) i
section NV
variable {α : Type} {lf : Nat → α} {un : α → α} {bn : Nat → α → α → α} {g : Nat → Nat} {d0 : α}
theorem nvT_lt : ∀ (i j : Nat), j < i → nvT lf un bn g d0 i j = nv lf un bn g d0 j
  | 0, j, h => absurd h (Nat.not_lt_zero _)
  | i + 1, j, h => by
    by_cases e : j = i
    · subst e; rfl
    · show (if j = i then _ else nvT lf un bn g d0 i j) = _
      rw [if_neg e]
      exact nvT_lt i j (by omega)
theorem nv_eq (i : Nat) : nv lf un bn g d0 i = if g i < 6 then lf (g i) else if g i = 6 then un (nvT lf un bn g d0 i (rc g i)) else bn (g i) (nvT lf un bn g d0 i (lc g i)) (nvT lf un bn g d0 i (rc g i)) := if_pos rfl
theorem nv_lf {i : Nat} (h : g i < 6) : nv lf un bn g d0 i = lf (g i) := by rw [nv_eq, if_pos h]
theorem nv_un {i : Nat} (h : g i = 6) (hr : rc g i < i) : nv lf un bn g d0 i = un (nv lf un bn g d0 (rc g i)) := by rw [nv_eq, if_neg (by omega), if_pos h, nvT_lt i _ hr]
theorem nv_bn {i : Nat} (h : 7 ≤ g i) (hl : lc g i < i) (hr : rc g i < i) : nv lf un bn g d0 i = bn (g i) (nv lf un bn g d0 (lc g i)) (nv lf un bn g d0 (rc g i)) := by rw [nv_eq, if_neg (by omega), if_neg (by omega), nvT_lt i _ hr, nvT_lt i _ hl]
end NV
/-- the stages that lead to none of some -/
def alo (L : Nat → Nat) (n w : Nat) : Nat := fo (fun s x => x ||| (if L s &&& w = 0 then 2 ^ s else 0)) n 0
theorem alo_bit (L : Nat → Nat) (w v : Nat) : ∀ n : Nat, (alo L n w).testBit v = (decide (v < n) && decide (L v &&& w = 0))
  | 0 => by simp [alo, fo]
  | n + 1 => by
    show (alo L n w ||| (if L n &&& w = 0 then 2 ^ n else 0)).testBit v = _
    rw [Nat.testBit_or, alo_bit L w v n]
    by_cases hi : v = n
    · subst hi
      by_cases h : L v &&& w = 0
      · simp [h, Nat.testBit_two_pow_self]
      · simp [h]
    · have e : (if L n &&& w = 0 then 2 ^ n else 0).testBit v = false := by
        by_cases h : L n &&& w = 0
        · rw [if_pos h, Nat.testBit_two_pow]; exact decide_eq_false (fun h => hi h.symm)
        · rw [if_neg h]; exact Nat.zero_testBit _
      rw [e, Bool.or_false]
      congr 1
      exact decide_eq_decide.mpr (by omega)
theorem alo_lt (L : Nat → Nat) (w n : Nat) : alo L n w < 2 ^ n := bt_lim fun i hi => by
  rw [alo_bit, decide_eq_false (by omega : ¬ i < n)]
  rfl
/-- where a claim's parts hold -/
def hLf (n : Nat) (F : Nat → Nat) (k : Nat) : Nat := if k < 4 then colN F k n else if k = 4 then 2 ^ n - 1 else 0
def hBn (n : Nat) (L : Nat → Nat) (k x y : Nat) : Nat := if k = 7 then x &&& y else if k = 8 then x ||| y else alo L n (x &&& (255 ^^^ y))
def hN (n : Nat) (L F : Nat → Nat) (g : Nat → Nat) : Nat → Nat := nv (hLf n F) (alo L n) (hBn n L) g 0
theorem hLf_lt (n : Nat) (F : Nat → Nat) (k : Nat) : hLf n F k < 2 ^ n := by
  unfold hLf
  have h2 := Nat.two_pow_pos n
  by_cases h : k < 4
  · rw [if_pos h]; exact colN_lt _ _ _
  · rw [if_neg h]
    by_cases h4 : k = 4
    · rw [if_pos h4]; omega
    · rw [if_neg h4]; exact h2
theorem hBn_lt {n x y : Nat} (L : Nat → Nat) (k : Nat) (hx : x < 2 ^ n) (hy : y < 2 ^ n) : hBn n L k x y < 2 ^ n := by
  unfold hBn
  by_cases h : k = 7
  · rw [if_pos h]; exact Nat.lt_of_le_of_lt Nat.and_le_left hx
  · rw [if_neg h]
    by_cases h8 : k = 8
    · rw [if_pos h8]; exact or_lt hx hy
    · rw [if_neg h8]; exact alo_lt _ _ _
theorem hN_lt {n : Nat} (L F : Nat → Nat) {g : Nat → Nat} {k : Nat} (ho : okp g k) : ∀ i, i < k → hN n L F g i < 2 ^ n := by
  intro i
  induction i using Nat.strongRecOn with
  | _ i ih =>
    intro hi
    unfold hN
    by_cases h6 : g i < 6
    · rw [nv_lf h6]; exact hLf_lt _ _ _
    · by_cases h7 : g i = 6
      · rw [nv_un h7 (rc_lt ho hi (by omega))]; exact alo_lt _ _ _
      · have hl := lc_lt ho hi (by omega)
        have hr := rc_lt ho hi (by omega)
        rw [nv_bn (by omega) hl hr]
        exact hBn_lt _ _ (ih _ hl (by omega)) (ih _ hr (by omega))
theorem and_no : ∀ v, v < 256 → ∀ a, a < 256 → nI a &&& (nI v ^^^ (-1 : Int32)) = nI (a &&& (255 ^^^ v)) := by decide +kernel
