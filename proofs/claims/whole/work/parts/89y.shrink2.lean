/-! SHRINK, THE LOOPS -/
section SHR
variable {b s n : Nat} {L F lo : Nat → Nat} {ia fi : Nat → Nat → Int32} {fl : Nat → Nat → Int64} {qa : Nat → Nat → Option Nat} {f : mmF}
/-- a kept stage would lead back -/
def bk (L lo : Nat → Nat) (i : Nat) : Prop := lo i = i ∧ ∃ v, (L i).testBit v = true ∧ lo v < i
theorem g_lkO_4 (hs : isSt b s) (h8 : n ≤ 8) (hn : fi s 0 = nI n) (hk : ∀ j, j < n → ia (s + 4) j = nI (lo j) ∧ lo j < 8) {w : Nat} (hw : w < 256) : ∀ (m i q : Nat), i + m = n → m < q → f_X7_likesOf_4 (wr (SK b) ia fi fl qa f) q s (nI w) (nI (lkO lo w i)) (nI i) = some (nI (lkO lo w n)) := by
  intro m
  induction m with
  | zero =>
    intro i q hi hm
    obtain ⟨q, rfl⟩ : ∃ k, q = k + 1 := ⟨q - 1, by omega⟩
    have hin : i = n := by omega
    subst hin
    rw [f_X7_likesOf_4]
    simp only [S_I hs, Option.bind_some, hn]
    rw [if_pos (Int32.le_refl _)]
  | succ m ih =>
    intro i q hi hm
    obtain ⟨q, rfl⟩ : ∃ k, q = k + 1 := ⟨q - 1, by omega⟩
    have hin : i < n := by omega
    have hlt : ¬ nI n ≤ nI i := nI_ge (by omega) (by omega)
    rw [f_X7_likesOf_4]
    simp only [S_I hs, Option.bind_some, hn, if_neg hlt, has_eq]
    have ihs := ih (i + 1) q (by omega) (by omega)
    rw [← ihs]
    show _ = f_X7_likesOf_4 _ q s (nI w) (nI (lkO lo w i ||| (if w.testBit i then 2 ^ lo i else 0))) (nI (i + 1))
    cases hb : w.testBit i with
    | false =>
      rw [if_pos ((bt_0 (Nat.lt_trans hw (by decide)) (by omega)).mpr hb), if_pos rfl, if_neg (by decide)]
      unfold f_X7_likesOf_33
      rw [show (0 : Int32) = nI 0 from rfl, fa_or, nI_1]
    | true =>
      have hne : ¬ ((nI w >>> (nI i &&& 31)) &&& 1) = (0 : Int32) := fun e => by
        rw [bt_0 (Nat.lt_trans hw (by decide)) (by omega), hb] at e
        cases e
      rw [if_neg hne, if_neg (by decide), if_pos rfl]
      simp only [S_R4 hs, S_A hs (Or.inr (Or.inr (Or.inl rfl))) (show i < 8 by omega), Option.bind_some, (hk i hin).1]
      unfold f_X7_likesOf_33
      rw [bt_shl (show lo i < 32 from Nat.lt_trans (hk i hin).2 (by decide)), fa_or, nI_1]
theorem g_lkO (hs : isSt b s) (h8 : n ≤ 8) (hn : fi s 0 = nI n) (hk : ∀ j, j < n → ia (s + 4) j = nI (lo j) ∧ lo j < 8) {w : Nat} (hw : w < 256) : f_X7_likesOf s (nI w) (wr (SK b) ia fi fl qa f) = some (nI (lkO lo w n)) := by
  obtain ⟨q, hq⟩ := FU_1000
  exact g_lkO_4 hs h8 hn hk hw n 0 FU (by omega) (by omega)
theorem lo_lt (hlo : ∀ v, lo v ≤ v) {i m : Nat} (h : i < m) : lo i < m := Nat.lt_of_le_of_lt (hlo i) h
theorem lkO_low (hlo : ∀ v, lo v ≤ v) (w : Nat) : lkO lo w n < 2 ^ n := lkO_lt n (fun i hi => lo_lt hlo hi)
theorem c_back_2 (hs : isSt b s) (h : CS ia fi s n L F) (w : WF n L F) (hlo : ∀ v, lo v ≤ v) (hk : ∀ j, j < n → ia (s + 4) j = nI (lo j)) : ∀ (m i q : Nat), i + m = n → m < q → (∀ j, j < i → ¬ bk L lo j) → ∃ r : Int32, f_X7_mergeLeadsBack_2 (wr (SK b) ia fi fl qa f) q s (nI i) = some r ∧ ((r = 1 ∧ ∃ j, j < n ∧ bk L lo j) ∨ (r = 0 ∧ ∀ j, j < n → ¬ bk L lo j)) := by
  have h8 := w.2.1
  have hk2 : ∀ j, j < n → ia (s + 4) j = nI (lo j) ∧ lo j < 8 := fun j hj => ⟨hk j hj, by have := hlo j; omega⟩
  intro m
  induction m with
  | zero =>
    intro i q hi hm hu
    obtain ⟨q, rfl⟩ : ∃ k, q = k + 1 := ⟨q - 1, by omega⟩
    have hin : i = n := by omega
    subst hin
    refine ⟨0, ?_, Or.inr ⟨rfl, hu⟩⟩
    rw [f_X7_mergeLeadsBack_2]
    simp only [S_I hs, Option.bind_some, h.1]
    rw [if_pos (Int32.le_refl _)]
  | succ m ih =>
    intro i q hi hm hu
    obtain ⟨q, rfl⟩ : ∃ k, q = k + 1 := ⟨q - 1, by omega⟩
    have hin : i < n := by omega
    have hlt : ¬ nI n ≤ nI i := nI_ge (by omega) (by omega)
    have q1 : (nI (lo i) = nI i) = (lo i = i) := propext (nI_eq (by have := hlo i; omega) (by omega))
    have go : ¬ bk L lo i → ∃ r : Int32, f_X7_mergeLeadsBack_2 (wr (SK b) ia fi fl qa f) q s (nI (i + 1)) = some r ∧ ((r = 1 ∧ ∃ j, j < n ∧ bk L lo j) ∨ (r = 0 ∧ ∀ j, j < n → ¬ bk L lo j)) := fun hb => ih (i + 1) q (by omega) (by omega) (fun j hj => by
      by_cases hji : j = i
      · subst hji; exact hb
      · exact hu j (by omega))
    rw [f_X7_mergeLeadsBack_2]
    simp only [S_I hs, Option.bind_some, h.1, if_neg hlt, S_R4 hs, S_A hs (Or.inr (Or.inr (Or.inl rfl))) (show i < 8 by omega), hk i hin, q1]
    by_cases hl : lo i = i
    · have hw := w.L31 hin
      have hlk : lkO lo (L i) n < 256 := Nat.lt_of_lt_of_le (lkO_low hlo _) (p8 h8)
      have h2i : 1 ≤ 2 ^ i := Nat.two_pow_pos i
      have e1 : (1 : Int32) <<< (nI i &&& 31) - 1 = nI (2 ^ i - 1) := by
        rw [bt_shl (show i < 32 by omega)]
        exact pk_sub (a := 2 ^ i) (b := 1) h2i
      rw [if_pos hl]
      simp only [S_R1 hs, S_A hs (Or.inl rfl) (show i < 8 by omega), (h.2 i hin).1, Option.bind_some, S_ck hs, g_lkO hs h8 h.1 hk2 hw, e1, fa_and]
      have q2 : (nI (lkO lo (L i) n &&& (2 ^ i - 1)) = 0) = (lkO lo (L i) n &&& (2 ^ i - 1) = 0) := propext (nI_eq (b := 0) (Nat.lt_of_le_of_lt Nat.and_le_left (Nat.lt_trans hlk (by decide))) (by decide))
      have q3 : lkO lo (L i) n &&& (2 ^ i - 1) ≠ 0 ↔ bk L lo i := by
        rw [and_bit]
        constructor
        · intro ⟨v, h1, h2⟩
          obtain ⟨t, t1, t2, t3⟩ := (lkO_bit _ _ _ _).mp h1
          rw [Nat.testBit_two_pow_sub_one, decide_eq_true_eq] at h2
          exact ⟨hl, t, t2, by omega⟩
        · intro ⟨_, t, t2, t3⟩
          have htn : t < n := Nat.not_le.mp fun hle => by rw [bt_lt (w.2.2 i hin).1 hle] at t2; cases t2
          refine ⟨lo t, (lkO_bit _ _ _ _).mpr ⟨t, htn, t2, rfl⟩, ?_⟩
          rw [Nat.testBit_two_pow_sub_one]
          exact decide_eq_true t3
      by_cases hz : lkO lo (L i) n &&& (2 ^ i - 1) = 0
      · rw [if_pos (q2.mpr hz)]
        unfold f_X7_mergeLeadsBack_41
        rw [nI_1]
        exact go (fun hb => q3.mpr hb hz)
      · rw [if_neg (fun e => hz (q2.mp e))]
        exact ⟨1, rfl, Or.inl ⟨rfl, i, hin, q3.mp hz⟩⟩
    · rw [if_neg hl]
      unfold f_X7_mergeLeadsBack_41
      rw [nI_1]
      exact go (fun hb => hl hb.1)
theorem dec1 (i : Nat) : nI (i + 1) + (-1 : Int32) = nI i := by
  rw [← nI_add, Int32.add_assoc]
  exact Int32.add_zero _
theorem c_39 (hs : isSt b s) (hlo : ∀ v, lo v ≤ v) : ∀ (i q n : Nat) (L F : Nat → Nat) (ia fi : Nat → Nat → Int32), i + 1 < q → i ≤ n → CS ia fi s n L F → WF n L F → (∀ v, v < i → ia (s + 4) v = nI (lo v)) → ∃ ia1 fi1 : Nat → Nat → Int32, f_X7_merge_39 q s (nI i + (-1 : Int32)) (wr (SK b) ia fi fl qa f) = some (wr (SK b) ia1 fi1 fl qa f) ∧ CS ia1 fi1 s (rmA lo i (n, L, F)).1 (rmA lo i (n, L, F)).2.1 (rmA lo i (n, L, F)).2.2 ∧ (∀ a : Nat, a ≠ s + 1 → a ≠ s + 2 → ia1 a = ia a) ∧ ∀ a j : Nat, a ≠ s ∨ j ≠ 0 → fi1 a j = fi a j := by
  have h0 : lo 0 = 0 := by have := hlo 0; omega
  intro i
  induction i with
  | zero =>
    intro q n L F ia fi hq hi h w hk
    obtain ⟨q, rfl⟩ : ∃ k, q = k + 1 := ⟨q - 1, by omega⟩
    refine ⟨ia, fi, ?_, h, fun a _ _ => rfl, fun a j _ => rfl⟩
    rw [f_X7_merge_39, if_pos (by decide)]
  | succ i ih =>
    intro q n L F ia fi hq hi h w hk
    obtain ⟨q, rfl⟩ : ∃ k, q = k + 1 := ⟨q - 1, by omega⟩
    have h8 := w.2.1
    have q1 : (nI (lo i) = nI i) = (lo i = i) := propext (nI_eq (by have := hlo i; omega) (by omega))
    rw [dec1, f_X7_merge_39, if_neg (nI_pos (by omega))]
    simp only [S_R4 hs, S_A hs (Or.inr (Or.inr (Or.inl rfl))) (show i < 8 by omega), hk i (by omega), Option.bind_some, q1]
    unfold f_X7_merge_58
    by_cases hl : lo i = i
    · rw [if_pos hl]
      have e : rmA lo (i + 1) (n, L, F) = rmA lo i (n, L, F) := by
        show rmA lo i (if lo i = i then _ else _) = _
        rw [if_pos hl]
      rw [e]
      exact ih q n L F ia fi (by omega) (by omega) h w (fun v hv => hk v (by omega))
    · rw [if_neg hl]
      have hi0 : i ≠ 0 := fun e => hl (by rw [e]; exact h0)
      obtain ⟨n', rfl⟩ : ∃ k, n = k + 1 := ⟨n - 1, by omega⟩
      have e : rmA lo (i + 1) (n' + 1, L, F) = rmA lo i (n', rL i L, rF i F) := by
        show rmA lo i (if lo i = i then _ else _) = _
        rw [if_neg hl]
        rfl
      rw [e]
      have hT := h.takeOut w (show i ≤ n' by omega)
      simp only [S_ck hs, takeOut hs h.1 (show n' < 8 by omega) (show i ≤ n' by omega), Option.bind_some]
      obtain ⟨ia1, fi1, g1, g2, g3, g4⟩ := ih q n' (rL i L) (rF i F) _ _ (by omega) (by omega) hT (w.takeOut (by omega) (by omega)) (fun v hv => by rw [rw2_n _ _ (by omega), rw2_n _ _ (by omega)]; exact hk v (by omega))
      refine ⟨ia1, fi1, g1, g2, fun a h1 h2 => ?_, fun a j hj => ?_⟩
      · rw [g3 a h1 h2, rw2_n _ _ h2, rw2_n _ _ h1]
      · rw [g4 a j hj]
        rcases hj with hj | hj
        · rw [u2_a _ _ hj]
        · rw [u2_i _ _ hj]
theorem c_m2 (hs : isSt b s) (hlo : ∀ v, lo v ≤ v) (h : CS ia fi s n L F) (w : WF n L F) (hk : ∀ v, v < n → ia (s + 4) v = nI (lo v)) : ∀ (m i q : Nat), i + m = n → m < q → f_X7_merge_2 q s (nI i) (wr (SK b) (rw2 ia (s + 1) (fun j => if j < i then nI (lkO lo (L j) n) else ia (s + 1) j)) fi fl qa f) = f_X7_merge_39 FU s (nI n + (-1 : Int32)) (wr (SK b) (rw2 ia (s + 1) (fun j => if j < n then nI (lkO lo (L j) n) else ia (s + 1) j)) fi fl qa f) := by
  have h8 := w.2.1
  have e41 : s + 4 ≠ s + 1 := by omega
  have hk2 : ∀ (R : Nat → Int32), ∀ j, j < n → rw2 ia (s + 1) R (s + 4) j = nI (lo j) ∧ lo j < 8 := fun R j hj => ⟨by rw [rw2_n _ _ e41]; exact hk j hj, by have := hlo j; omega⟩
  intro m
  induction m with
  | zero =>
    intro i q hi hm
    obtain ⟨q, rfl⟩ : ∃ k, q = k + 1 := ⟨q - 1, by omega⟩
    have hin : i = n := by omega
    subst hin
    have n1 := w.1
    have e1 : nI i - 1 = nI i + (-1 : Int32) := by rw [Int32.sub_eq_add_neg]
    rw [f_X7_merge_2]
    simp only [S_I hs, Option.bind_some, h.1]
    rw [if_pos (Int32.le_refl _), e1]
  | succ m ih =>
    intro i q hi hm
    obtain ⟨q, rfl⟩ : ∃ k, q = k + 1 := ⟨q - 1, by omega⟩
    have hin : i < n := by omega
    have hlt : ¬ nI n ≤ nI i := nI_ge (by omega) (by omega)
    rw [f_X7_merge_2]
    simp only [S_I hs, Option.bind_some, h.1, if_neg hlt, S_R1 hs, S_A hs (Or.inl rfl) (show i < 8 by omega), rw2_s, if_neg (Nat.lt_irrefl i), (h.2 i hin).1, S_ck hs, g_lkO hs h8 h.1 (hk2 _) (w.L31 hin), S_sA hs (Or.inl rfl) (show i < 8 by omega), u2_rw2]
    rw [row_step (fun j => nI (lkO lo (L j) n)) _ _ _ rfl, nI_1]
    exact ih (i + 1) q (by omega) (by omega)
theorem WF.mrg (w : WF n L F) (hlo : ∀ v, lo v ≤ v) : WF n (fun j => lkO lo (L j) n) F := ⟨w.1, w.2.1, fun i hi => ⟨lkO_low hlo _, (w.2.2 i hi).2⟩⟩
theorem c_merge (hs : isSt b s) (hlo : ∀ v, lo v ≤ v) (h : CS ia fi s n L F) (w : WF n L F) (hk : ∀ v, v < n → ia (s + 4) v = nI (lo v)) : ∃ ia1 fi1 : Nat → Nat → Int32, f_X7_merge s (wr (SK b) ia fi fl qa f) = some (wr (SK b) ia1 fi1 fl qa f) ∧ CS ia1 fi1 s (rmA lo n (n, (fun j => lkO lo (L j) n), F)).1 (rmA lo n (n, (fun j => lkO lo (L j) n), F)).2.1 (rmA lo n (n, (fun j => lkO lo (L j) n), F)).2.2 ∧ (∀ a : Nat, a ≠ s + 1 → a ≠ s + 2 → ia1 a = ia a) ∧ ∀ a j : Nat, a ≠ s ∨ j ≠ 0 → fi1 a j = fi a j := by
  obtain ⟨q, hq⟩ := FU_1000
  have h8 := w.2.1
  have e2 := c_m2 (fl := fl) (qa := qa) (f := f) hs hlo h w hk n 0 FU (by omega) (by omega)
  rw [row_0, rw2_id] at e2
  have hC : CS (rw2 ia (s + 1) (fun j => if j < n then nI (lkO lo (L j) n) else ia (s + 1) j)) fi s n (fun j => lkO lo (L j) n) F := ⟨h.1, fun i hi => by
    rw [rw2_s, rw2_n _ _ (by omega)]
    exact ⟨if_pos hi, (h.2 i hi).2⟩⟩
  obtain ⟨ia1, fi1, g1, g2, g3, g4⟩ := c_39 (b := b) (fl := fl) (qa := qa) (f := f) hs hlo n FU n _ F _ fi (by omega) (Nat.le_refl _) hC (w.mrg hlo) (fun v hv => by rw [rw2_n _ _ (by omega)]; exact hk v hv)
  refine ⟨ia1, fi1, ?_, g2, fun a h1 h2 => by rw [g3 a h1 h2, rw2_n _ _ h1], g4⟩
  unfold f_X7_merge
  rw [show (0 : Int32) = nI 0 from rfl, e2]
  exact g1
end SHR
