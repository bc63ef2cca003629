/-! THE REFERENCE'S SEARCH: sums over what is given; a rank that falls when a part is taken to pieces -/
/-- a sum over what is given, below n -/
def wS (w : Nat → Nat) (Γ : Nat → Bool) : Nat → Nat
  | 0 => 0
  | n + 1 => wS w Γ n + if Γ n = true then w n else 0
theorem wS_cg {w w' : Nat → Nat} {Γ Γ' : Nat → Bool} : ∀ n, (∀ p, p < n → (if Γ p = true then w p else 0) = if Γ' p = true then w' p else 0) → wS w Γ n = wS w' Γ' n
  | 0, _ => rfl
  | n + 1, h => by
    show wS w Γ n + _ = wS w' Γ' n + _
    rw [wS_cg n (fun p hp => h p (by omega)), h n (by omega)]
theorem wS_le {w w' : Nat → Nat} {Γ Γ' : Nat → Bool} : ∀ n, (∀ p, p < n → (if Γ p = true then w p else 0) ≤ if Γ' p = true then w' p else 0) → wS w Γ n ≤ wS w' Γ' n
  | 0, _ => Nat.le_refl _
  | n + 1, h => Nat.add_le_add (wS_le n fun p hp => h p (by omega)) (h n (by omega))
theorem wS_out (w : Nat → Nat) (Γ : Nat → Bool) (q : Nat) (x : Bool) : ∀ n, n ≤ q → wS w (upB Γ q x) n = wS w Γ n := fun n hn => wS_cg n fun p hp => by rw [show upB Γ q x p = Γ p from if_neg (by omega)]
/-- taken away -/
theorem wS_dn (w : Nat → Nat) {Γ : Nat → Bool} {q : Nat} (hg : Γ q = true) : ∀ n, q < n → wS w (upB Γ q false) n + w q = wS w Γ n
  | 0, h => absurd h (Nat.not_lt_zero _)
  | n + 1, h => by
    show wS w (upB Γ q false) n + (if upB Γ q false n = true then w n else 0) + w q = wS w Γ n + if Γ n = true then w n else 0
    by_cases e : q = n
    · subst e
      rw [wS_out _ _ _ _ q (Nat.le_refl _), upB_s, if_pos hg, if_neg (by decide)]
      omega
    · rw [show upB Γ q false n = Γ n from if_neg (by omega), ← wS_dn w hg n (by omega)]
      omega
theorem wS_dn' (w : Nat → Nat) (Γ : Nat → Bool) (q n : Nat) : wS w (upB Γ q false) n ≤ wS w Γ n := wS_le n fun p hp => by
  by_cases e : p = q
  · subst e; rw [upB_s, if_neg (by decide)]; exact Nat.zero_le _
  · rw [show upB Γ q false p = Γ p from if_neg e]; exact Nat.le_refl _
/-- added -/
theorem wS_up (w : Nat → Nat) (Γ : Nat → Bool) (q : Nat) : ∀ n, wS w (upB Γ q true) n ≤ wS w Γ n + w q
  | 0 => Nat.zero_le _
  | n + 1 => by
    show wS w (upB Γ q true) n + (if upB Γ q true n = true then w n else 0) ≤ wS w Γ n + (if Γ n = true then w n else 0) + w q
    by_cases e : q = n
    · subst e
      rw [wS_out _ _ _ _ q (Nat.le_refl _), upB_s, if_pos rfl]
      omega
    · rw [show upB Γ q true n = Γ n from if_neg (by omega)]
      have := wS_up w Γ q n
      omega
theorem wS_bd {w : Nat → Nat} {B : Nat} (Γ : Nat → Bool) : ∀ n, (∀ p, p < n → Γ p = true → w p ≤ B) → wS w Γ n ≤ n * B
  | 0, _ => Nat.zero_le _
  | n + 1, h => by
    have h1 := wS_bd Γ n fun p hp hg => h p (by omega) hg
    have h2 : (if Γ n = true then w n else 0) ≤ B := by
      by_cases c : Γ n = true
      · rw [if_pos c]; exact h n (by omega) c
      · rw [if_neg c]; exact Nat.zero_le _
    show wS w Γ n + _ ≤ _
    rw [Nat.succ_mul]
    omega
/-- what a part weighs before an 'if', and given -/
def rkV (op lf rt : Nat → Nat) (p : Nat) : Nat × Nat := qv (fun _ => (1, 1)) (fun k x y => if k = 9 then (y.1 + 1, x.1 + y.2) else (x.1 + y.1 + 1, x.2 + y.2 + 1)) op lf rt (1, 1) p
def akR (op lf rt : Nat → Nat) (p : Nat) : Nat := (rkV op lf rt p).1
def rkR (op lf rt : Nat → Nat) (p : Nat) : Nat := (rkV op lf rt p).2
section RK
variable {P : Nat} {op lf rt : Nat → Nat} {Γ : Nat → Bool}
theorem rk_lf {p : Nat} (h : op p < 6) : akR op lf rt p = 1 ∧ rkR op lf rt p = 1 := by
  unfold akR rkR rkV
  rw [qv_lf h]
  exact ⟨rfl, rfl⟩
theorem rk_9 (ho : RPo P op lf rt) {p : Nat} (hp : p < P) (h : op p = 9) : akR op lf rt p = akR op lf rt (rt p) + 1 ∧ rkR op lf rt p = akR op lf rt (lf p) + rkR op lf rt (rt p) := by
  obtain ⟨o1, o2, o3, o4, o5, o6, o7, o8, o9⟩ := ho.two hp (by omega)
  unfold akR rkR rkV
  rw [qv_op (by omega) o5 o7, if_pos h]
  exact ⟨rfl, rfl⟩
theorem rk_78 (ho : RPo P op lf rt) {p : Nat} (hp : p < P) (h : op p = 7 ∨ op p = 8) : akR op lf rt p = akR op lf rt (lf p) + akR op lf rt (rt p) + 1 ∧ rkR op lf rt p = rkR op lf rt (lf p) + rkR op lf rt (rt p) + 1 := by
  obtain ⟨o1, o2, o3, o4, o5, o6, o7, o8, o9⟩ := ho.two hp (by omega)
  unfold akR rkR rkV
  rw [qv_op (by omega) o5 o7, if_neg (by omega)]
  exact ⟨rfl, rfl⟩
theorem rk_ext {P1 : Nat} {op1 lf1 rt1 : Nat → Nat} (ho : RPo P op lf rt) (e : REx P op lf rt P1 op1 lf1 rt1) {p : Nat} (hp : p < P) : akR op1 lf1 rt1 p = akR op lf rt p ∧ rkR op1 lf1 rt1 p = rkR op lf rt p := by
  unfold akR rkR rkV
  rw [qv_ext ho e.2 p hp]
  exact ⟨rfl, rfl⟩
theorem rk_pos (ho : RPo P op lf rt) : ∀ p, p < P → 1 ≤ akR op lf rt p ∧ 1 ≤ rkR op lf rt p := by
  intro p
  induction p using Nat.strongRecOn with
  | _ p ih =>
    intro hp
    by_cases h6 : op p < 6
    · rw [(rk_lf h6).1, (rk_lf h6).2]; omega
    · obtain ⟨o1, o2, o3, o4, o5, o6, o7, o8, o9⟩ := ho.two hp (by omega)
      have i1 := ih _ o5 (by omega)
      have i2 := ih _ o7 (by omega)
      by_cases h9 : op p = 9
      · rw [(rk_9 ho hp h9).1, (rk_9 ho hp h9).2]; omega
      · rw [(rk_78 ho hp (by omega)).1, (rk_78 ho hp (by omega)).2]; omega
/-- what 'implies' makes weighs no more -/
theorem rk_imp (ho : RPo P op lf rt) {r x y : Nat} (hr : r < P) (hx : x < P) (hy : y < P) (h : impS op lf rt r x y) : rkR op lf rt r ≤ akR op lf rt x + rkR op lf rt y := by
  have h1 := rk_pos ho x hx
  have h2 := rk_pos ho y hy
  rcases h with ⟨_, e⟩ | ⟨_, e⟩ | ⟨_, _, _, _, e1, e2, e3⟩
  · subst e; omega
  · subst e
    have : op 0 < 6 := by rcases ho.1 0 hr with h | h | h <;> omega
    rw [(rk_lf this).2]
    omega
  · rw [(rk_9 ho hr e1).2, e2, e3]
    exact Nat.le_refl _
/-- the table's parts weigh no more than R -/
def rkB (R P : Nat) (op lf rt : Nat → Nat) : Prop := ∀ p, p < P → rkR op lf rt p ≤ R
theorem rkB_gr (R : Nat) : grC (rkB R) := by
  intro P op lf rt P1 op1 lf1 rt1 x y r ho ho1 hx hy ha hg h q hq
  obtain ⟨e, hr, hi, hP⟩ := hg
  by_cases hqP : q < P
  · rw [(rk_ext ho e hqP).2]; exact h q hqP
  · have hqr : q = r := by omega
    subst hqr
    have h1 := rk_imp ho1 hr (Nat.lt_of_lt_of_le hx e.1) (Nat.lt_of_lt_of_le hy e.1) hi
    rw [(rk_ext ho e hx).1, (rk_ext ho e hy).2] at h1
    refine Nat.le_trans h1 ?_
    obtain ⟨p, hp, h9, ha⟩ := ha
    obtain ⟨o1, o2, o3, o4, o5, o6, o7, o8, o9⟩ := ho.two hp (by omega)
    refine Nat.le_trans ?_ (h p hp)
    rw [(rk_9 ho hp h9).2]
    rcases ha with ⟨h7, rfl, rfl⟩ | ⟨h8, rfl, rfl⟩ | ⟨h7, rfl, hs⟩
    · by_cases c9 : op (lf p) = 9
      · rw [(rk_9 ho (show lf p < P by omega) c9).1]; omega
      · have := (ho.to (lf p) (by omega)).1
        rw [(rk_78 ho (show lf p < P by omega) (by omega)).1]; omega
    · rw [(rk_78 ho (show lf p < P by omega) (Or.inr h8)).1]; omega
    · have hl := (ho.to (lf p) (by omega)).2 (by omega)
      have h2 := rk_imp ho hy (show rt (lf p) < P by omega) (show rt p < P by omega) hs
      rw [(rk_78 ho (show lf p < P by omega) (Or.inl h7)).1]; omega
end RK
