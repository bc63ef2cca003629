/-! SHRINK, THE REFERENCE'S LOOPS -/
section SHM
variable {b n : Nat} {L F lo lk : Nat → Nat} {ia fi : Nat → Nat → Int32} {fl : Nat → Nat → Int64} {qa : Nat → Nat → Option Nat} {f : mmF}
/-- what the reference's leadsThen holds of one stage -/
def ltV (n : Nat) (L lo : Nat → Nat) (j : Nat) : Nat := if lo j = j then lkO lo (L j) n else 0
theorem m_175 (hlo : ∀ v, lo v ≤ v) {N : Nat} (hN : N ≤ 8) : ∀ (i q n : Nat) (L F : Nat → Nat) (ia : Nat → Nat → Int32), i + 1 < q → i ≤ n → i ≤ N → MS (ia (b + 84)) n L F → WF n L F → ∃ ia1 : Nat → Nat → Int32, f_X10_shrink_175 q (b + 83) (nI (gnN lo N)) (nI i + (-1 : Int32)) (wr (SK b) ia fi fl qa f) = some (nI (bcN (gnN lo N) 16), wr (SK b) ia1 fi fl qa f) ∧ MS (ia1 (b + 84)) (rmA lo i (n, L, F)).1 (rmA lo i (n, L, F)).2.1 (rmA lo i (n, L, F)).2.2 ∧ (∀ a : Nat, a ≠ b + 84 → ia1 a = ia a) ∧ ∀ j : Nat, 17 ≤ j → ia1 (b + 84) j = ia (b + 84) j := by
  have h0 : lo 0 = 0 := by have := hlo 0; omega
  have hg : gnN lo N < 2 ^ 31 := Nat.lt_of_lt_of_le (gnN_lt lo N) (Nat.pow_le_pow_right (by decide) (by omega))
  intro i
  induction i with
  | zero =>
    intro q n L F ia hq hi hiN h w
    obtain ⟨q, rfl⟩ : ∃ k, q = k + 1 := ⟨q - 1, by omega⟩
    refine ⟨ia, ?_, h, fun a _ => rfl, fun j _ => rfl⟩
    rw [f_X10_shrink_175, if_pos (by decide), bits_eq hg, Option.bind_some]
  | succ i ih =>
    intro q n L F ia hq hi hiN h w
    obtain ⟨q, rfl⟩ : ∃ k, q = k + 1 := ⟨q - 1, by omega⟩
    have h8 := w.2.1
    rw [dec1, f_X10_shrink_175, if_neg (nI_pos (by omega))]
    unfold f_X10_shrink_193
    have hb := gnN_bit lo i N
    by_cases hl : lo i = i
    · have e1 : ¬ ((nI (gnN lo N) >>> (nI i &&& 31)) &&& 1) = (1 : Int32) := fun e => (hb.mp ((bt_1 hg (by omega)).mp e)).2 hl
      rw [if_neg e1]
      have e : rmA lo (i + 1) (n, L, F) = rmA lo i (n, L, F) := by
        show rmA lo i (if lo i = i then _ else _) = _
        rw [if_pos hl]
      rw [e]
      exact ih q n L F ia (by omega) (by omega) (by omega) h w
    · have e1 : ((nI (gnN lo N) >>> (nI i &&& 31)) &&& 1) = (1 : Int32) := (bt_1 hg (by omega)).mpr (hb.mpr ⟨by omega, hl⟩)
      rw [if_pos e1]
      have hi0 : i ≠ 0 := fun e => hl (by rw [e]; exact h0)
      obtain ⟨n', rfl⟩ : ∃ k, n = k + 1 := ⟨n - 1, by omega⟩
      have e : rmA lo (i + 1) (n' + 1, L, F) = rmA lo i (n', rL i L, rF i F) := by
        show rmA lo i (if lo i = i then _ else _) = _
        rw [if_neg hl]
        rfl
      rw [e]
      have er2 := m_removes (b := b) (ia := ia) (fi := fi) (fl := fl) (qa := qa) (f := f) (R := ia (b + 84)) (show n' < 8 by omega) (show i ≤ n' by omega) h.1
      rw [rw2_id] at er2
      simp only [ck_83, er2, Option.bind_some]
      obtain ⟨ia1, g1, g2, g3, g4⟩ := ih q n' (rL i L) (rF i F) (rw2 ia (b + 84) (reE (ia (b + 84)) i n')) (by omega) (by omega) (by omega) (by rw [rw2_s]; exact h.removes w (show i ≤ n' by omega)) (w.takeOut (by omega) (by omega))
      refine ⟨ia1, g1, g2, fun a h1 => ?_, fun j hj => ?_⟩
      · rw [g3 a h1, rw2_n _ _ h1]
      · rw [g4 j hj, rw2_s]
        exact reE_hi (by omega) hj
theorem m_146 (h8 : n ≤ 8) {g : Int32} {R : Nat → Int32} (hR : ∀ j, ia (b + 88) j = R j) : ∀ (m i q : Nat), i + m = n → m < q → f_X10_shrink_146 q (b + 83) (nI n) g (nI i) (wr (SK b) (rw2 ia (b + 84) (up1 R (ia (b + 84)) i)) fi fl qa f) = f_X10_shrink_175 FU (b + 83) g (nI n + (-1 : Int32)) (wr (SK b) (rw2 ia (b + 84) (up1 R (ia (b + 84)) n)) fi fl qa f) := by
  intro m
  induction m with
  | zero =>
    intro i q hi hm
    obtain ⟨q, rfl⟩ : ∃ k, q = k + 1 := ⟨q - 1, by omega⟩
    have hin : i = n := by omega
    subst hin
    have e1 : nI i - 1 = nI i + (-1 : Int32) := by rw [Int32.sub_eq_add_neg]
    rw [f_X10_shrink_146, if_pos (Int32.le_refl _), e1]
  | succ m ih =>
    intro i q hi hm
    obtain ⟨q, rfl⟩ : ∃ k, q = k + 1 := ⟨q - 1, by omega⟩
    have hin : i < n := by omega
    have hlt : ¬ nI n ≤ nI i := nI_ge (by omega) (by omega)
    have e0 : b + 88 ≠ b + 84 := by omega
    rw [f_X10_shrink_146, if_neg hlt]
    simp only [R_83_0, R_83_6, Option.bind_some, An_88 (show i < 8 by omega), n0, sAn_84 (show i < 172 by omega), u2_rw2, rw2_n _ _ e0, hR]
    rw [up1_step R (ia (b + 84)) i rfl, nI_1]
    exact ih (i + 1) q (by omega) (by omega)
/-- the rows of one stage -/
theorem m_66 (h : MS (ia (b + 84)) n L F) (w : WF n L F) (hlo : ∀ v, lo v ≤ v) (hk : ∀ v, v < n → ia (b + 87) v = nI (lk v) ∧ ∀ μ, f_X10_lowest (nI (lk v)) μ = some (nI (lo v))) {k16 : Nat → Int32 → Int32 → Int32 → mmF → Option (Int32 × mmF)} {g : Int32} {s : Nat} (hs : s < n) (hst : lo s = s) {X : Nat → Int32} : ∀ (m t q : Nat), t + m = n → m < q → (∀ u, u < t → (L s).testBit u = true → s ≤ lo u) → ((∃ u, (L s).testBit u = true ∧ lo u < s) ∧ ∃ R : Nat → Int32, f_X10_shrink_66 k16 q (b + 83) (nI n) g (nI s) 1 (nI t) (wr (SK b) (rw2 ia (b + 88) (fun j => if j = s then nI (lkO lo (L s) t) else X j)) fi fl qa f) = some (-4, wr (SK b) (rw2 ia (b + 88) R) fi fl qa f)) ∨ ((∀ u, (L s).testBit u = true → s ≤ lo u) ∧ f_X10_shrink_66 k16 q (b + 83) (nI n) g (nI s) 1 (nI t) (wr (SK b) (rw2 ia (b + 88) (fun j => if j = s then nI (lkO lo (L s) t) else X j)) fi fl qa f) = k16 (b + 83) (nI n) g (nI (s + 1)) (wr (SK b) (rw2 ia (b + 88) (fun j => if j = s then nI (lkO lo (L s) n) else X j)) fi fl qa f)) := by
  have h8 := w.2.1
  have h' : ∀ R : Nat → Int32, MS (rw2 ia (b + 88) R (b + 84)) n L F := fun R => by rw [rw2_n _ _ (by omega)]; exact h
  have e34 : b + 87 ≠ b + 88 := by omega
  intro m
  induction m with
  | zero =>
    intro t q ht hm hu
    obtain ⟨q, rfl⟩ : ∃ k, q = k + 1 := ⟨q - 1, by omega⟩
    have hin : t = n := by omega
    subst hin
    refine Or.inr ⟨fun u hb => hu u (Nat.not_le.mp fun hle => by rw [bt_lt (w.2.2 s hs).1 hle] at hb; cases hb) hb, ?_⟩
    rw [f_X10_shrink_66, if_pos (Int32.le_refl _), nI_1]
  | succ m ih =>
    intro t q ht hm hu
    obtain ⟨q, rfl⟩ : ∃ k, q = k + 1 := ⟨q - 1, by omega⟩
    have htn : t < n := by omega
    have hlt : ¬ nI n ≤ nI t := nI_ge (by omega) (by omega)
    have hacc : lkO lo (L s) (t + 1) = lkO lo (L s) t ||| (if (L s).testBit t then 2 ^ lo t else 0) := rfl
    rw [f_X10_shrink_66, if_neg hlt]
    simp only [i10, if_false, ck_83, Option.bind_some, m_leads (h' _) w hs (show t < 32 by omega)]
    cases hb : (L s).testBit t with
    | false =>
      simp only [Bool.false_eq_true, if_false, i00, if_true]
      unfold f_X10_shrink_121
      rw [nI_1]
      have := ih (t + 1) q (by omega) (by omega) (fun u hu1 hu2 => by
        by_cases hut : u = t
        · subst hut; rw [hb] at hu2; cases hu2
        · exact hu u (by omega) hu2)
      rw [hacc, hb, if_neg (by decide), Nat.or_zero] at this
      exact this
    | true =>
      simp only [if_true, i10, if_false, R_83_5, Option.bind_some, An_87 (show t < 8 by omega), rw2_n _ _ e34, (hk t htn).1, (hk t htn).2]
      by_cases hle : s ≤ lo t
      · rw [if_pos (nI_le hle (by have := hlo t; omega))]
        simp only [R_83_6, An_88 (show s < 8 by omega), Option.bind_some, rw2_s, if_true, sAn_88 (show s < 8 by omega), u2_rw2]
        unfold f_X10_shrink_121
        rw [bt_shl (show lo t < 32 by have := hlo t; omega), fa_or, nI_1]
        have := ih (t + 1) q (by omega) (by omega) (fun u hu1 hu2 => by
          by_cases hut : u = t
          · subst hut; exact hle
          · exact hu u (by omega) hu2)
        rw [hacc, hb, if_pos rfl] at this
        have e : (fun j => if j = s then nI (lkO lo (L s) t ||| 2 ^ lo t) else if j = s then nI (lkO lo (L s) t) else X j) = fun j => if j = s then nI (lkO lo (L s) t ||| 2 ^ lo t) else X j := by
          funext j
          by_cases hj : j = s
          · rw [if_pos hj, if_pos hj]
          · rw [if_neg hj, if_neg hj, if_neg hj]
        rw [e]
        exact this
      · rw [if_neg (nI_ge (by omega) (by omega))]
        exact Or.inl ⟨⟨t, hb, by omega⟩, _, rfl⟩
theorem m_66n (h : MS (ia (b + 84)) n L F) (w : WF n L F) {k16 : Nat → Int32 → Int32 → Int32 → mmF → Option (Int32 × mmF)} {g : Int32} {s : Nat} {μ : mmF} : ∀ (m t q : Nat), t + m = n → m < q → f_X10_shrink_66 k16 q (b + 83) (nI n) g (nI s) 0 (nI t) μ = k16 (b + 83) (nI n) g (nI (s + 1)) μ := by
  have h8 := w.2.1
  intro m
  induction m with
  | zero =>
    intro t q ht hm
    obtain ⟨q, rfl⟩ : ∃ k, q = k + 1 := ⟨q - 1, by omega⟩
    have hin : t = n := by omega
    subst hin
    rw [f_X10_shrink_66, if_pos (Int32.le_refl _), nI_1]
  | succ m ih =>
    intro t q ht hm
    obtain ⟨q, rfl⟩ : ∃ k, q = k + 1 := ⟨q - 1, by omega⟩
    have hlt : ¬ nI n ≤ nI t := nI_ge (by omega) (by omega)
    rw [f_X10_shrink_66, if_neg hlt, if_pos rfl]
    unfold f_X10_shrink_121
    rw [nI_1]
    exact ih (t + 1) q (by omega) (by omega)
theorem m_16 (h : MS (ia (b + 84)) n L F) (w : WF n L F) (hlo : ∀ v, lo v ≤ v) (hk : ∀ v, v < n → ia (b + 87) v = nI (lk v) ∧ ∀ μ, f_X10_lowest (nI (lk v)) μ = some (nI (lo v))) {X : Nat → Int32} : ∀ (m s q : Nat), s + m = n → m < q → (∀ u, u < s → ¬ bk L lo u) → ((∃ u, u < n ∧ bk L lo u) ∧ ∃ R : Nat → Int32, f_X10_shrink_16 q (b + 83) (nI n) (nI (gnN lo s)) (nI s) (wr (SK b) (rw2 ia (b + 88) (lkR s (ltV n L lo) X)) fi fl qa f) = some (-4, wr (SK b) (rw2 ia (b + 88) R) fi fl qa f)) ∨ ((∀ u, u < n → ¬ bk L lo u) ∧ ∃ q0 : Nat, f_X10_shrink_16 q (b + 83) (nI n) (nI (gnN lo s)) (nI s) (wr (SK b) (rw2 ia (b + 88) (lkR s (ltV n L lo) X)) fi fl qa f) = f_X10_shrink_16 (q0 + 1) (b + 83) (nI n) (nI (gnN lo n)) (nI n) (wr (SK b) (rw2 ia (b + 88) (lkR n (ltV n L lo) X)) fi fl qa f)) := by
  have h8 := w.2.1
  have e34 : b + 87 ≠ b + 88 := by omega
  obtain ⟨qf, hqf⟩ := FU_1000
  intro m
  induction m with
  | zero =>
    intro s q hs hm hu
    obtain ⟨q, rfl⟩ : ∃ k, q = k + 1 := ⟨q - 1, by omega⟩
    have hin : s = n := by omega
    subst hin
    exact Or.inr ⟨hu, q, rfl⟩
  | succ m ih =>
    intro s q hs hm hu
    obtain ⟨q, rfl⟩ : ∃ k, q = k + 1 := ⟨q - 1, by omega⟩
    have hsn : s < n := by omega
    have hlt : ¬ nI n ≤ nI s := nI_ge (by omega) (by omega)
    have q1 : (nI (lo s) = nI s) = (lo s = s) := propext (nI_eq (by have := hlo s; omega) (by omega))
    have go := fun (hb : ¬ bk L lo s) => ih (s + 1) q (by omega) (by omega) (fun u hu2 => by
      by_cases hus : u = s
      · subst hus; exact hb
      · exact hu u (by omega))
    have hgs : gnN lo (s + 1) = gnN lo s ||| (if lo s = s then 0 else 2 ^ s) := rfl
    rw [f_X10_shrink_16, if_neg hlt]
    simp only [R_83_5, An_87 (show s < 8 by omega), Option.bind_some, rw2_n _ _ e34, (hk s hsn).1, (hk s hsn).2]
    by_cases hl : lo s = s
    · rw [if_pos (q1.mpr hl)]
      unfold f_X10_shrink_39
      rw [if_neg (by decide)]
      unfold f_X10_shrink_54
      simp only [R_83_6, sAn_88 (show s < 8 by omega), Option.bind_some, u2_rw2]
      have e66 := m_66 (fi := fi) (fl := fl) (qa := qa) (f := f) (k16 := fun a0 a1 a2 a3 a4 => f_X10_shrink_16 q a0 a1 a2 a3 a4) (g := nI (gnN lo s) ||| 0) (X := lkR s (ltV n L lo) X) h w hlo hk hsn hl n 0 FU (by omega) (by omega) (fun u hu2 => absurd hu2 (by omega))
      rw [show nI (lkO lo (L s) 0) = (0 : Int32) from rfl, show nI 0 = (0 : Int32) from rfl] at e66
      rcases e66 with ⟨⟨u, hu1, hu2⟩, R, hR⟩ | ⟨hnb, hR⟩
      · exact Or.inl ⟨⟨s, hsn, hl, u, hu1, hu2⟩, R, hR⟩
      · rw [hR]
        have e0 : nI (gnN lo s) ||| (0 : Int32) = nI (gnN lo (s + 1)) := by
          rw [hgs, if_pos hl, show (0 : Int32) = nI 0 from rfl, fa_or]
        have e1 : (fun j => if j = s then nI (lkO lo (L s) n) else lkR s (ltV n L lo) X j) = lkR (s + 1) (ltV n L lo) X := by
          rw [← lkR_grow (ltV n L lo) s X]
          have : ltV n L lo s = lkO lo (L s) n := if_pos hl
          rw [this]
        rw [e0, e1]
        exact go (fun hb => by
          obtain ⟨_, v, v1, v2⟩ := hb
          have := hnb v v1
          omega)
    · rw [if_neg (fun e => hl (q1.mp e))]
      unfold f_X10_shrink_39
      rw [if_pos rfl]
      unfold f_X10_shrink_54
      simp only [R_83_6, sAn_88 (show s < 8 by omega), Option.bind_some, u2_rw2]
      have e66 := m_66n (n := n) (b := b) (ia := ia) (L := L) (F := F) (k16 := fun a0 a1 a2 a3 a4 => f_X10_shrink_16 q a0 a1 a2 a3 a4) (g := nI (gnN lo s) ||| ((1 : Int32) <<< (nI s &&& 31))) (s := s) (μ := wr (SK b) (rw2 ia (b + 88) (fun j => if j = s then 0 else lkR s (ltV n L lo) X j)) fi fl qa f) h w n 0 FU (by omega) (by omega)
      rw [show nI 0 = (0 : Int32) from rfl] at e66
      rw [e66]
      have e0 : nI (gnN lo s) ||| ((1 : Int32) <<< (nI s &&& 31)) = nI (gnN lo (s + 1)) := by
        rw [hgs, if_neg hl, bt_shl (show s < 32 by omega), fa_or]
      have e1 : (fun j => if j = s then (0 : Int32) else lkR s (ltV n L lo) X j) = lkR (s + 1) (ltV n L lo) X := by
        rw [← lkR_grow (ltV n L lo) s X]
        have : ltV n L lo s = 0 := if_neg hl
        rw [this]
        rfl
      rw [e0, e1]
      exact go (fun hb => hl hb.1)
end SHM
