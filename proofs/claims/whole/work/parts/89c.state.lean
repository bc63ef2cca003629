/-! LOOPS, AND THE METHODS OF State -/
def fo {α : Type} (st : Nat → α → α) : Nat → α → α
  | 0, x => x
  | n + 1, x => st n (fo st n x)
/-- a row of a table is replaced -/
def rw2 {α : Type} (g : Nat → Nat → α) (a : Nat) (r : Nat → α) : Nat → Nat → α := fun p => if p = a then r else g p
theorem rw2_s {α : Type} (g : Nat → Nat → α) (a : Nat) (r : Nat → α) : rw2 g a r a = r := by simp [rw2]
theorem rw2_n {α : Type} (g : Nat → Nat → α) {a p : Nat} (r : Nat → α) (h : p ≠ a) : rw2 g a r p = g p := by simp [rw2, h]
theorem rw2_id {α : Type} (g : Nat → Nat → α) (a : Nat) : rw2 g a (g a) = g := by
  funext p
  by_cases h : p = a
  · subst h; rw [rw2_s]
  · rw [rw2_n _ _ h]
theorem u2_rw2 {α : Type} (g : Nat → Nat → α) (a i : Nat) (r : Nat → α) (x : α) : u2 (rw2 g a r) a i x = rw2 g a (fun j => if j = i then x else r j) := by
  funext p j
  by_cases h : p = a
  · subst h; by_cases hj : j = i <;> simp [u2, rw2, hj]
  · simp [u2, rw2, h]
theorem u2_is {α : Type} (g : Nat → Nat → α) (a i : Nat) (x : α) : u2 g a i x = rw2 g a (fun j => if j = i then x else g a j) := by
  funext p j
  by_cases h : p = a
  · subst h; by_cases hj : j = i <;> simp [u2, rw2, hj]
  · simp [u2, rw2, h]
theorem rw2_rw2 {α : Type} (g : Nat → Nat → α) (a : Nat) (r r1 : Nat → α) : rw2 (rw2 g a r) a r1 = rw2 g a r1 := by
  funext p
  by_cases h : p = a
  · subst h; simp [rw2]
  · simp [rw2, h]
theorem rw2_comm {α : Type} (g : Nat → Nat → α) {a c : Nat} (r r1 : Nat → α) (h : a ≠ c) : rw2 (rw2 g a r) c r1 = rw2 (rw2 g c r1) a r := by
  funext p
  by_cases h1 : p = a
  · subst h1; simp [rw2, h]
  · by_cases h2 : p = c
    · subst h2; simp [rw2, Ne.symm h]
    · simp [rw2, h1, h2]
def isSt (b s : Nat) : Prop := s = b + 1 ∨ s = b + 9 ∨ ∃ j, j < 4 ∧ s = b + (55 + 7 * j)
theorem KS {b s i : Nat} (h : isSt b s) (hi : i < 7) : SK b (s + i) = (stt s)[i]? := by
  rcases h with rfl | rfl | ⟨j, hj, rfl⟩
  · obtain rfl | rfl | rfl | rfl | rfl | rfl | rfl : i = 0 ∨ i = 1 ∨ i = 2 ∨ i = 3 ∨ i = 4 ∨ i = 5 ∨ i = 6 := by omega
    · exact K_1 b
    · exact K_2 b
    · exact K_3 b
    · exact K_4 b
    · exact K_5 b
    · exact K_6 b
    · exact K_7 b
  · obtain rfl | rfl | rfl | rfl | rfl | rfl | rfl : i = 0 ∨ i = 1 ∨ i = 2 ∨ i = 3 ∨ i = 4 ∨ i = 5 ∨ i = 6 := by omega
    · exact K_9 b
    · exact K_10 b
    · exact K_11 b
    · exact K_12 b
    · exact K_13 b
    · exact K_14 b
    · exact K_15 b
  · have := K_his (b := b) hj hi
    rw [show b + (55 + 7 * j) + i = b + (55 + 7 * j + i) by omega, this]
section ST
variable {b s t : Nat} {ia fi : Nat → Nat → Int32} {fl : Nat → Nat → Int64} {qa : Nat → Nat → Option Nat} {f : mmF}
theorem S_ck (h : isSt b s) : ckO (wr (SK b) ia fi fl qa f) s 7 = some () := wr_ck (KS (i := 0) h (by decide))
theorem S_I (h : isSt b s) : ldI (wr (SK b) ia fi fl qa f) s 7 0 = some (fi s 0) := wr_I (KS (i := 0) h (by decide)) rfl
theorem S_sI (h : isSt b s) {x : Int32} : stF (wr (SK b) ia fi fl qa f) s 7 0 (.int x) = some (wr (SK b) ia (u2 fi s 0 x) fl qa f) := wr_sI (KS (i := 0) h (by decide)) rfl x
theorem S_R1 (h : isSt b s) : ldR (wr (SK b) ia fi fl qa f) s 7 1 = some (s + 1) := wr_R (KS (i := 0) h (by decide)) rfl
theorem S_R2 (h : isSt b s) : ldR (wr (SK b) ia fi fl qa f) s 7 2 = some (s + 2) := wr_R (KS (i := 0) h (by decide)) rfl
theorem S_R3 (h : isSt b s) : ldR (wr (SK b) ia fi fl qa f) s 7 3 = some (s + 3) := wr_R (KS (i := 0) h (by decide)) rfl
theorem S_R4 (h : isSt b s) : ldR (wr (SK b) ia fi fl qa f) s 7 4 = some (s + 4) := wr_R (KS (i := 0) h (by decide)) rfl
theorem S_R5 (h : isSt b s) : ldR (wr (SK b) ia fi fl qa f) s 7 5 = some (s + 5) := wr_R (KS (i := 0) h (by decide)) rfl
theorem S_R6 (h : isSt b s) : ldR (wr (SK b) ia fi fl qa f) s 7 6 = some (s + 6) := wr_R (KS (i := 0) h (by decide)) rfl
theorem S_A {k i : Nat} (h : isSt b s) (hk : k = 1 ∨ k = 2 ∨ k = 4 ∨ k = 5) (hi : i < 8) : ldA 0 (wr (SK b) ia fi fl qa f) (s + k) (nI i) = some (ia (s + k) i) := by
  have e : SK b (s + k) = some (.inl (0, 8)) := by
    rcases hk with rfl | rfl | rfl | rfl
    · exact KS (i := 1) h (by decide)
    · exact KS (i := 2) h (by decide)
    · exact KS (i := 4) h (by decide)
    · exact KS (i := 5) h (by decide)
  rw [wr_A e (by decide) (vp_in_nI hi (by decide)), nI_clamp (by omega)]
theorem S_sA {k i : Nat} {x : Int32} (h : isSt b s) (hk : k = 1 ∨ k = 2 ∨ k = 4 ∨ k = 5) (hi : i < 8) : stA 0 (wr (SK b) ia fi fl qa f) (s + k) (nI i) x = some (wr (SK b) (u2 ia (s + k) i x) fi fl qa f) := by
  have e : SK b (s + k) = some (.inl (0, 8)) := by
    rcases hk with rfl | rfl | rfl | rfl
    · exact KS (i := 1) h (by decide)
    · exact KS (i := 2) h (by decide)
    · exact KS (i := 4) h (by decide)
    · exact KS (i := 5) h (by decide)
  rw [wr_sA e (by decide) (vp_in_nI hi (by decide)), nI_clamp (by omega)]
theorem S_Q {i : Nat} (h : isSt b s) (hi : i < 5) : ldQ 3 (wr (SK b) ia fi fl qa f) (s + 3) (nI i) = some (qa (s + 3) i) := by
  rw [wr_Q (KS (i := 3) h (by decide)) (by decide) (vp_in_nI hi (by decide)), nI_clamp (by omega)]
theorem S_sQ {i : Nat} {r : Option Nat} (h : isSt b s) (hi : i < 5) (ho : okQ (wr (SK b) ia fi fl qa f) 0 r = true) : stQ 3 0 (wr (SK b) ia fi fl qa f) (s + 3) (nI i) r = some (wr (SK b) ia fi fl (u2 qa (s + 3) i r) f) := by
  rw [wr_sQ (KS (i := 3) h (by decide)) (by decide) (vp_in_nI hi (by decide)) ho, nI_clamp (by omega)]
/-- a claim outside: what lies there doesn't hang on the contents -/
theorem okQ_out {r : Option Nat} (hr : ∀ v, r = some v → SK b v = none) {ia1 fi1 : Nat → Nat → Int32} {fl1 : Nat → Nat → Int64} {qa1 : Nat → Nat → Option Nat} : okQ (wr (SK b) ia1 fi1 fl1 qa1 f) 0 r = okQ f 0 r := by
  cases r with
  | none => rfl
  | some v => simp only [okQ, wr_o (hr v rfl)]
theorem isSt_ne3 (h : isSt b s) (h2 : isSt b t) (hn : s ≠ t) : s + 3 ≠ t + 3 := by omega
theorem isSt_far {i j : Nat} (h : isSt b s) (h2 : isSt b t) (hn : s ≠ t) (hi : i < 7) (hj : j < 7) : s + i ≠ t + j := by
  rcases h with rfl | rfl | ⟨k, hk, rfl⟩ <;> rcases h2 with rfl | rfl | ⟨k2, hk2, rfl⟩ <;> omega
theorem tf_48 (hs : isSt b s) (ht : isSt b t) (hn : s ≠ t) (ho : ∀ i, i < 5 → (∀ v, qa (t + 3) i = some v → SK b v = none) ∧ okQ f 0 (qa (t + 3) i) = true) : ∀ (m i n : Nat), i + m = 5 → m < n → f_X7_takeFrom_48 n s t (nI i) (wr (SK b) ia fi fl (rw2 qa (s + 3) (fun j => if j < i then qa (t + 3) j else qa (s + 3) j)) f) = some (wr (SK b) ia fi fl (rw2 qa (s + 3) (fun j => if j < 5 then qa (t + 3) j else qa (s + 3) j)) f) := by
  intro m
  induction m with
  | zero =>
    intro i n hi hm
    obtain ⟨n, rfl⟩ : ∃ k, n = k + 1 := ⟨n - 1, by omega⟩
    have hi6 : i = 5 := by omega
    subst hi6
    rw [f_X7_takeFrom_48, if_pos (show (5 : Int32) ≤ nI 5 by decide)]
  | succ m ih =>
    intro i n hi hm
    obtain ⟨n, rfl⟩ : ∃ k, n = k + 1 := ⟨n - 1, by omega⟩
    have hlt : ¬ (5 : Int32) ≤ nI i := nI_ge (a := i) (b := 5) (by omega) (by decide)
    have hne : t + 3 ≠ s + 3 := by omega
    rw [f_X7_takeFrom_48, if_neg hlt, S_R3 hs]
    simp only [Option.bind_some]
    rw [S_R3 ht]
    simp only [Option.bind_some]
    rw [S_Q ht (by omega), rw2_n _ _ hne]
    simp only [Option.bind_some]
    rw [S_sQ hs (by omega) (by rw [okQ_out (ho i (by omega)).1]; exact (ho i (by omega)).2)]
    simp only [Option.bind_some]
    rw [nI_1, u2_rw2, ← ih (i + 1) n (by omega) (by omega)]
    congr 5
    funext j
    by_cases h1 : j = i
    · subst h1; rw [if_pos rfl, if_pos (by omega)]
    · rw [if_neg h1]
      by_cases h2 : j < i
      · rw [if_pos h2, if_pos (by omega)]
      · rw [if_neg h2, if_neg (by omega)]
theorem tf_10 (hs : isSt b s) (ht : isSt b t) (hn : s ≠ t) {v : mmF} : ∀ (m i n : Nat), i + m = 8 → m < n → f_X7_takeFrom_48 FU s t (nI 0) (wr (SK b) (rw2 (rw2 ia (s + 1) (fun j => if j < 8 then ia (t + 1) j else ia (s + 1) j)) (s + 2) (fun j => if j < 8 then ia (t + 2) j else ia (s + 2) j)) fi fl qa f) = some v → f_X7_takeFrom_10 n s t (nI i) (wr (SK b) (rw2 (rw2 ia (s + 1) (fun j => if j < i then ia (t + 1) j else ia (s + 1) j)) (s + 2) (fun j => if j < i then ia (t + 2) j else ia (s + 2) j)) fi fl qa f) = some v := by
  intro m
  induction m with
  | zero =>
    intro i n hi hm hv
    obtain ⟨n, rfl⟩ : ∃ k, n = k + 1 := ⟨n - 1, by omega⟩
    have hi6 : i = 8 := by omega
    subst hi6
    rw [f_X7_takeFrom_10, if_pos (show (8 : Int32) ≤ nI 8 by decide)]
    exact hv
  | succ m ih =>
    intro i n hi hm hv
    obtain ⟨n, rfl⟩ : ∃ k, n = k + 1 := ⟨n - 1, by omega⟩
    have hlt : ¬ (8 : Int32) ≤ nI i := nI_ge (a := i) (b := 8) (by omega) (by decide)
    have n11 : t + 1 ≠ s + 1 := by omega
    have n12 : t + 1 ≠ s + 2 := isSt_far ht hs (Ne.symm hn) (by decide) (by decide)
    have n21 : t + 2 ≠ s + 1 := isSt_far ht hs (Ne.symm hn) (by decide) (by decide)
    have n22 : t + 2 ≠ s + 2 := by omega
    have s12 : s + 1 ≠ s + 2 := by omega
    rw [f_X7_takeFrom_10, if_neg hlt, S_R1 hs]
    simp only [Option.bind_some]
    rw [S_R1 ht]
    simp only [Option.bind_some]
    rw [S_A ht (Or.inl rfl) (by omega), rw2_n _ _ n12, rw2_n _ _ n11]
    simp only [Option.bind_some]
    rw [S_sA hs (Or.inl rfl) (by omega), rw2_comm _ _ _ s12, u2_rw2]
    simp only [Option.bind_some]
    rw [S_R2 hs]
    simp only [Option.bind_some]
    rw [S_R2 ht]
    simp only [Option.bind_some]
    rw [S_A ht (Or.inr (Or.inl rfl)) (by omega), rw2_n _ _ n21, rw2_n _ _ n22]
    simp only [Option.bind_some]
    rw [S_sA hs (Or.inr (Or.inl rfl)) (by omega), rw2_comm _ _ _ (Ne.symm s12), u2_rw2]
    simp only [Option.bind_some]
    rw [nI_1, ← ih (i + 1) n (by omega) (by omega) hv]
    have e : ∀ k : Nat, (fun j => if j = i then ia (t + k) i else if j < i then ia (t + k) j else ia (s + k) j) = fun j => if j < i + 1 then ia (t + k) j else ia (s + k) j := by
      intro k
      funext j
      by_cases h1 : j = i
      · subst h1; rw [if_pos rfl, if_pos (by omega)]
      · rw [if_neg h1]
        by_cases h2 : j < i
        · rw [if_pos h2, if_pos (by omega)]
        · rw [if_neg h2, if_neg (by omega)]
    rw [e 1, e 2]
/-- takeFrom: the stages, what they lead to, what is known, the shelf -/
theorem tf (hs : isSt b s) (ht : isSt b t) (hn : s ≠ t) (ho : ∀ i, i < 5 → (∀ v, qa (t + 3) i = some v → SK b v = none) ∧ okQ f 0 (qa (t + 3) i) = true) : f_X7_takeFrom s t (wr (SK b) ia fi fl qa f) = some (wr (SK b) (rw2 (rw2 ia (s + 1) (fun j => if j < 8 then ia (t + 1) j else ia (s + 1) j)) (s + 2) (fun j => if j < 8 then ia (t + 2) j else ia (s + 2) j)) (u2 fi s 0 (fi t 0)) fl (rw2 qa (s + 3) (fun j => if j < 5 then qa (t + 3) j else qa (s + 3) j)) f) := by
  obtain ⟨n, hn1⟩ := FU_1000
  unfold f_X7_takeFrom
  rw [S_I ht]
  simp only [Option.bind_some]
  rw [S_sI hs]
  simp only [Option.bind_some]
  have h1 := tf_48 (ia := rw2 (rw2 ia (s + 1) (fun j => if j < 8 then ia (t + 1) j else ia (s + 1) j)) (s + 2) (fun j => if j < 8 then ia (t + 2) j else ia (s + 2) j)) (fi := u2 fi s 0 (fi t 0)) (fl := fl) hs ht hn ho 5 0 FU rfl (by omega)
  have e0 : (fun j => if j < 0 then qa (t + 3) j else qa (s + 3) j) = qa (s + 3) := by funext j; simp
  rw [e0, rw2_id] at h1
  have h2 := tf_10 (ia := ia) (fi := u2 fi s 0 (fi t 0)) (fl := fl) hs ht hn 8 0 FU rfl (by omega) h1
  have e1 : ∀ k : Nat, (fun j => if j < 0 then ia (t + k) j else ia (s + k) j) = ia (s + k) := by intro k; funext j; simp
  rw [e1, e1, rw2_id, rw2_id] at h2
  exact h2
theorem isStage_t (h : isSt b s) {n k : Nat} (hn : fi s 0 = nI n) (hk : k < n) (h8 : n < 2 ^ 31) : f_X7_isStage s (nI k) (wr (SK b) ia fi fl qa f) = some 1 := by
  unfold f_X7_isStage
  rw [if_neg (nI_pos (by omega)), S_I h]
  simp only [Option.bind_some]
  rw [hn, if_neg (nI_ge hk h8)]
theorem isStage_f (h : isSt b s) {n : Nat} {x : Int32} (hn : fi s 0 = nI n) (h8 : n < 2 ^ 31) (hx : ∀ k, k < n → x ≠ nI k) : f_X7_isStage s x (wr (SK b) ia fi fl qa f) = some 0 := by
  unfold f_X7_isStage
  by_cases h0 : x < 0
  · rw [if_pos h0]
  · rw [if_neg h0, S_I h]
    simp only [Option.bind_some]
    obtain ⟨j, hj, rfl⟩ := nI_of h0
    have : n ≤ j := Nat.not_lt.mp fun h => hx j h rfl
    rw [hn, if_pos (nI_le this hj)]
/-- the bits of stages s whose row has the bit v -/
def colF (g : Nat → Int32) (v : Int32) (n : Nat) : Int32 := fo (fun i x => x ||| (((g i >>> (v &&& 31)) &&& 1) <<< (nI i &&& 31))) n 0
theorem earlier_4 (h : isSt b s) {n : Nat} {v : Int32} (hn : fi s 0 = nI n) (h8 : n ≤ 8) : ∀ (m i k : Nat), i + m = n → m < k → f_X7_earlier_4 (wr (SK b) ia fi fl qa f) k s v (colF (ia (s + 1)) v i) (nI i) = some (colF (ia (s + 1)) v n) := by
  intro m
  induction m with
  | zero =>
    intro i k hi hk
    obtain ⟨k, rfl⟩ : ∃ j, k = j + 1 := ⟨k - 1, by omega⟩
    have : i = n := by omega
    subst this
    rw [f_X7_earlier_4, S_I h]
    simp only [Option.bind_some]
    rw [hn, if_pos (nI_le (Nat.le_refl _) (by omega))]
  | succ m ih =>
    intro i k hi hk
    obtain ⟨k, rfl⟩ : ∃ j, k = j + 1 := ⟨k - 1, by omega⟩
    rw [f_X7_earlier_4, S_I h]
    simp only [Option.bind_some]
    rw [hn, if_neg (nI_ge (by omega) (by omega)), S_R1 h]
    simp only [Option.bind_some]
    rw [S_A h (Or.inl rfl) (by omega)]
    simp only [Option.bind_some]
    rw [nI_1]
    exact ih (i + 1) k (by omega) (by omega)
theorem earlier (h : isSt b s) {n : Nat} {v : Int32} (hn : fi s 0 = nI n) (h8 : n ≤ 8) : f_X7_earlier s v (wr (SK b) ia fi fl qa f) = some (colF (ia (s + 1)) v n) := by
  obtain ⟨k, hk⟩ := FU_1000
  exact earlier_4 h hn h8 n 0 FU (by omega) (by omega)
theorem knowing_4 (h : isSt b s) {n : Nat} {v : Int32} (hn : fi s 0 = nI n) (h8 : n ≤ 8) : ∀ (m i k : Nat), i + m = n → m < k → f_X7_knowing_4 (wr (SK b) ia fi fl qa f) k s v (colF (ia (s + 2)) v i) (nI i) = some (colF (ia (s + 2)) v n) := by
  intro m
  induction m with
  | zero =>
    intro i k hi hk
    obtain ⟨k, rfl⟩ : ∃ j, k = j + 1 := ⟨k - 1, by omega⟩
    have : i = n := by omega
    subst this
    rw [f_X7_knowing_4, S_I h]
    simp only [Option.bind_some]
    rw [hn, if_pos (nI_le (Nat.le_refl _) (by omega))]
  | succ m ih =>
    intro i k hi hk
    obtain ⟨k, rfl⟩ : ∃ j, k = j + 1 := ⟨k - 1, by omega⟩
    rw [f_X7_knowing_4, S_I h]
    simp only [Option.bind_some]
    rw [hn, if_neg (nI_ge (by omega) (by omega)), S_R2 h]
    simp only [Option.bind_some]
    rw [S_A h (Or.inr (Or.inl rfl)) (by omega)]
    simp only [Option.bind_some]
    rw [nI_1]
    exact ih (i + 1) k (by omega) (by omega)
theorem knowing (h : isSt b s) {n : Nat} {v : Int32} (hn : fi s 0 = nI n) (h8 : n ≤ 8) : f_X7_knowing s v (wr (SK b) ia fi fl qa f) = some (colF (ia (s + 2)) v n) := by
  obtain ⟨k, hk⟩ := FU_1000
  exact knowing_4 h hn h8 n 0 FU (by omega) (by omega)
end ST
