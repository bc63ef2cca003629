/-! WHAT THE SEARCH ADDS TO THE TABLE LIES IN THE LISTS -/
def clB (P : Nat) (op lf rt : Nat → Nat) (v c : Nat) (L : List Nat) : Prop := (op v = 7 → ixB P op lf rt 9 (rt v) c ∈ L ∧ ixB P op lf rt 9 (lf v) (ixB P op lf rt 9 (rt v) c) ∈ L) ∧ (op v = 8 → ixB P op lf rt 9 (lf v) c ∈ L ∧ ixB P op lf rt 9 (rt v) c ∈ L) ∧ (op v = 9 → ixB P op lf rt 9 (rt v) c ∈ L ∨ ixB P op lf rt 9 (rt v) c = 0)
section CLOSE
variable {P : Nat} {op lf rt : Nat → Nat} {g : Nat → Nat} {k : Nat}
theorem clB.mono {v c : Nat} {L L' : List Nat} (h : clB P op lf rt v c L) (hs : ∀ q, q ∈ L → q ∈ L') : clB P op lf rt v c L' := ⟨fun e => ⟨hs _ (h.1 e).1, hs _ (h.1 e).2⟩, fun e => ⟨hs _ (h.2.1 e).1, hs _ (h.2.1 e).2⟩, fun e => (h.2.2 e).imp (hs _) id⟩
theorem ix9_or (x y : Nat) : (x = 0 ∧ ixB P op lf rt 9 x y = y) ∨ ixB P op lf rt 9 x y = 0 ∨ ixB P op lf rt 9 x y = P ∨ (ixB P op lf rt 9 x y < P ∧ op (ixB P op lf rt 9 x y) = 9 ∧ lf (ixB P op lf rt 9 x y) = x ∧ rt (ixB P op lf rt 9 x y) = y) := by
  rw [ix9]
  by_cases c1 : x = 0
  · rw [if_pos c1]; exact Or.inl ⟨c1, rfl⟩
  rw [if_neg c1]
  by_cases c2 : x = 1 ∨ y = 0 ∨ x = y
  · rw [if_pos c2]; exact Or.inr (Or.inl rfl)
  rw [if_neg c2]
  rcases ixT_or (op := op) (lf := lf) (rt := rt) 9 x y P P with h | h
  · exact Or.inr (Or.inr (Or.inl h))
  · exact Or.inr (Or.inr (Or.inr h))
theorem ix7_or (x y : Nat) : ixB P op lf rt 7 x y = y ∨ (y = 0 ∧ ixB P op lf rt 7 x y = x) ∨ ixB P op lf rt 7 x y = 1 ∨ ixB P op lf rt 7 x y = P ∨ (ixB P op lf rt 7 x y < P ∧ op (ixB P op lf rt 7 x y) = 7 ∧ lf (ixB P op lf rt 7 x y) = x ∧ rt (ixB P op lf rt 7 x y) = y) := by
  rw [ix7]
  by_cases c1 : x = 0 ∨ x = y
  · rw [if_pos c1]; exact Or.inl rfl
  rw [if_neg c1]
  by_cases c2 : y = 0
  · rw [if_pos c2]; exact Or.inr (Or.inl ⟨c2, rfl⟩)
  rw [if_neg c2]
  by_cases c3 : x = 1 ∨ y = 1
  · rw [if_pos c3]; exact Or.inr (Or.inr (Or.inl rfl))
  rw [if_neg c3]
  rcases ixT_or (op := op) (lf := lf) (rt := rt) 7 x y P P with h | h
  · exact Or.inr (Or.inr (Or.inr (Or.inl h)))
  · exact Or.inr (Or.inr (Or.inr (Or.inr h)))
theorem ix8_or (x y : Nat) : ixB P op lf rt 8 x y = y ∨ ixB P op lf rt 8 x y = x ∨ ixB P op lf rt 8 x y = 0 ∨ ixB P op lf rt 8 x y = P ∨ (ixB P op lf rt 8 x y < P ∧ op (ixB P op lf rt 8 x y) = 8 ∧ lf (ixB P op lf rt 8 x y) = x ∧ rt (ixB P op lf rt 8 x y) = y) := by
  rw [ix8]
  by_cases c1 : x = 1 ∨ x = y
  · rw [if_pos c1]; exact Or.inl rfl
  rw [if_neg c1]
  by_cases c2 : y = 1
  · rw [if_pos c2]; exact Or.inr (Or.inl rfl)
  rw [if_neg c2]
  by_cases c3 : x = 0 ∨ y = 0
  · rw [if_pos c3]; exact Or.inr (Or.inr (Or.inl rfl))
  rw [if_neg c3]
  rcases ixT_or (op := op) (lf := lf) (rt := rt) 8 x y P P with h | h
  · exact Or.inr (Or.inr (Or.inr (Or.inl h)))
  · exact Or.inr (Or.inr (Or.inr (Or.inr h)))
theorem clB.leaf {v c : Nat} {L : List Nat} (h : op v < 6) : clB P op lf rt v c L := ⟨fun e => absurd e (by omega), fun e => absurd e (by omega), fun e => absurd e (by omega)⟩
theorem op_01 (ho : RPo P op lf rt) (h2 : 2 ≤ P) : op 0 < 6 ∧ op 1 < 6 := ⟨by rcases ho.1 0 (by omega) with h | h | h <;> omega, by rcases ho.1 1 (by omega) with h | h | h <;> omega⟩
theorem ixL_op (ho : RPo P op lf rt) (h2 : 2 ≤ P) {o : Nat} (h6 : o < 6) (h : ixL P op lf rt o < P) : op (ixL P op lf rt o) < 6 := by
  obtain ⟨z0, z1⟩ := op_01 ho h2
  unfold ixL at h ⊢
  by_cases c4 : o = 4
  · rw [if_pos c4]; exact z0
  · rw [if_neg c4] at h ⊢
    by_cases c5 : o = 5
    · rw [if_pos c5]; exact z1
    · rw [if_neg c5] at h ⊢
      rcases ixT_or (op := op) (lf := lf) (rt := rt) o 0 0 P P with h' | h'
      · omega
      · rw [h'.2.1]; exact h6
/-- the members of an antecedent's list -/
theorem tga_sub {i : Nat} (hok : okp g k) (hi : i < k) (h7 : 7 ≤ g i) (c : Nat) : (∀ q, q ∈ (tgA P op lf rt g (rc g i)).2.1 c → q ∈ (tgA P op lf rt g i).2.1 c) ∧ (g i = 7 → ∀ q, q ∈ (tgA P op lf rt g (lc g i)).2.1 (ixB P op lf rt 9 (tgA P op lf rt g (rc g i)).1 c) → q ∈ (tgA P op lf rt g i).2.1 c) ∧ (g i = 8 → ∀ q, q ∈ (tgA P op lf rt g (lc g i)).2.1 c → q ∈ (tgA P op lf rt g i).2.1 c) ∧ (∀ q, q ∈ (tgA P op lf rt g i).2.1 c → q = ixB P op lf rt 9 (tgA P op lf rt g i).1 c ∨ q ∈ (tgA P op lf rt g (rc g i)).2.1 c ∨ (g i = 7 ∧ q ∈ (tgA P op lf rt g (lc g i)).2.1 (ixB P op lf rt 9 (tgA P op lf rt g (rc g i)).1 c)) ∨ (g i = 8 ∧ q ∈ (tgA P op lf rt g (lc g i)).2.1 c)) := by
  have hrc := rc_lt hok hi (by omega)
  rw [tg_bn h7 (lc_lt hok hi h7) hrc]
  unfold tgB
  by_cases e7 : g i = 7
  · simp only [e7, if_true, show ¬ (7 : Nat) = 8 by decide, List.mem_cons, List.mem_append, true_and, false_and, or_false]
    refine ⟨fun q h => Or.inr (Or.inr h), fun _ q h => Or.inr (Or.inl h), fun h => absurd h (by decide), fun q h => ?_⟩
    rcases h with h | h | h
    · exact Or.inl h
    · exact Or.inr (Or.inr h)
    · exact Or.inr (Or.inl h)
  · by_cases e8 : g i = 8
    · simp only [e8, if_true, show ¬ (8 : Nat) = 7 by decide, if_false, List.mem_cons, List.mem_append, true_and, false_and, false_or]
      refine ⟨fun q h => Or.inr (Or.inr h), fun h => absurd h (by decide), fun _ q h => Or.inr (Or.inl h), fun q h => ?_⟩
      rcases h with h | h | h
      · exact Or.inl h
      · exact Or.inr (Or.inr h)
      · exact Or.inr (Or.inl h)
    · simp only [e7, e8, if_false, List.mem_cons, false_and, or_false]
      exact ⟨fun q h => Or.inr h, fun h => absurd h id, fun h => absurd h id, fun q h => h⟩
/-- an antecedent taken to pieces -/
theorem tg_B (ho : RPo P op lf rt) (h2 : 2 ≤ P) (hok : okp g k) (hre : ∀ j, j < k → ndP P op lf rt g j < P) : ∀ i, i < k → ∀ c, clB P op lf rt (ndP P op lf rt g i) c ((tgA P op lf rt g i).2.1 c) := by
  obtain ⟨z0, z1⟩ := op_01 ho h2
  intro i
  induction i using Nat.strongRecOn with
  | _ i ih =>
    intro hi c
    have hP := hre i hi
    by_cases c6 : g i < 6
    · have e : ndP P op lf rt g i = ixL P op lf rt (g i) := nv_lf c6
      rw [e] at hP ⊢
      exact clB.leaf (ixL_op ho h2 c6 hP)
    · have hrc := rc_lt hok hi (by omega)
      by_cases d6 : g i = 6
      · have e : ndP P op lf rt g i = ixB P op lf rt 9 (ndP P op lf rt g (rc g i)) 1 := nv_un d6 hrc
        rw [e] at hP ⊢
        rcases ix9_or (P := P) (op := op) (lf := lf) (rt := rt) (ndP P op lf rt g (rc g i)) 1 with ⟨_, h⟩ | h | h | ⟨h1, h2, h3, h4⟩
        · rw [h]; exact clB.leaf z1
        · rw [h]; exact clB.leaf z0
        · omega
        · refine ⟨fun e => absurd e (by omega), fun e => absurd e (by omega), fun _ => Or.inr ?_⟩
          rw [h4, ix9, if_neg (by decide), if_pos (Or.inl rfl)]
      · have h7 : 7 ≤ g i := by omega
        have hlc := lc_lt hok hi h7
        have e : ndP P op lf rt g i = ixB P op lf rt (g i) (ndP P op lf rt g (lc g i)) (ndP P op lf rt g (rc g i)) := nv_bn h7 hlc hrc
        obtain ⟨s1, s2, s3, _⟩ := tga_sub (P := P) (op := op) (lf := lf) (rt := rt) hok hi h7 c
        have ir := ih _ hrc (by omega) c
        have vl := tg_v (P := P) (op := op) (lf := lf) (rt := rt) hok (lc g i) (by omega)
        have vr := tg_v (P := P) (op := op) (lf := lf) (rt := rt) hok (rc g i) (by omega)
        have hr := (tg_hd (P := P) (op := op) (lf := lf) (rt := rt) (rc g i) hok (by omega)).2
        have hl := (tg_hd (P := P) (op := op) (lf := lf) (rt := rt) (lc g i) hok (by omega)).2
        rw [vl] at hl
        rw [vr] at hr s2
        have h10 := (hok i hi).1
        obtain e7 | e8 | e9 : g i = 7 ∨ g i = 8 ∨ g i = 9 := by omega
        · rw [e7] at e
          rw [e] at hP ⊢
          rcases ix7_or (P := P) (op := op) (lf := lf) (rt := rt) (ndP P op lf rt g (lc g i)) (ndP P op lf rt g (rc g i)) with h | ⟨h0, h⟩ | h | h | ⟨h1, h2, h3, h4⟩
          · rw [h]; exact ir.mono s1
          · rw [h]
            have il := ih _ hlc (by omega) (ixB P op lf rt 9 (ndP P op lf rt g (rc g i)) c)
            have ec : ixB P op lf rt 9 (ndP P op lf rt g (rc g i)) c = c := by rw [h0, ix9, if_pos rfl]
            have s2' := s2 e7
            rw [ec] at il s2'
            exact il.mono s2'
          · rw [h]; exact clB.leaf z1
          · omega
          · refine ⟨fun _ => ?_, fun e => absurd e (by omega), fun e => absurd e (by omega)⟩
            rw [h3, h4]
            exact ⟨s1 _ (hr c), s2 e7 _ (hl _)⟩
        · rw [e8] at e
          rw [e] at hP ⊢
          rcases ix8_or (P := P) (op := op) (lf := lf) (rt := rt) (ndP P op lf rt g (lc g i)) (ndP P op lf rt g (rc g i)) with h | h | h | h | ⟨h1, h2, h3, h4⟩
          · rw [h]; exact ir.mono s1
          · rw [h]; exact (ih _ hlc (by omega) c).mono (s3 e8)
          · rw [h]; exact clB.leaf z0
          · omega
          · refine ⟨fun e => absurd e (by omega), fun _ => ?_, fun e => absurd e (by omega)⟩
            rw [h3, h4]
            exact ⟨s3 e8 _ (hl c), s1 _ (hr c)⟩
        · rw [e9] at e
          rw [e] at hP ⊢
          rcases ix9_or (P := P) (op := op) (lf := lf) (rt := rt) (ndP P op lf rt g (lc g i)) (ndP P op lf rt g (rc g i)) with ⟨_, h⟩ | h | h | ⟨h1, h2, h3, h4⟩
          · rw [h]; exact ir.mono s1
          · rw [h]; exact clB.leaf z0
          · omega
          · refine ⟨fun e => absurd e (by omega), fun e => absurd e (by omega), fun _ => Or.inl ?_⟩
            rw [h4]
            exact s1 _ (hr c)
theorem tg_D (ho : RPo P op lf rt) (h2 : 2 ≤ P) (hok : okp g k) (hre : ∀ j, j < k → ndP P op lf rt g j < P) : ∀ i, i < k → ∀ c q, q ∈ (tgA P op lf rt g i).2.1 c → q < P → op q = 9 → q = c ∨ clB P op lf rt (lf q) (rt q) ((tgA P op lf rt g i).2.1 c) := by
  obtain ⟨z0, z1⟩ := op_01 ho h2
  intro i
  induction i using Nat.strongRecOn with
  | _ i ih =>
    intro hi c q hq hP h9
    have hd : q = ixB P op lf rt 9 (tgA P op lf rt g i).1 c → q = c ∨ clB P op lf rt (lf q) (rt q) ((tgA P op lf rt g i).2.1 c) := by
      intro e
      rw [tg_v hok i hi] at e
      rcases ix9_or (P := P) (op := op) (lf := lf) (rt := rt) (ndP P op lf rt g i) c with ⟨_, h⟩ | h | h | ⟨h1, h2', h3, h4⟩
      · exact Or.inl (e.trans h)
      · rw [e, h] at h9; omega
      · omega
      · right
        rw [e, h3, h4]
        exact tg_B ho h2 hok hre i hi c
    by_cases c6 : g i < 6
    · rw [tg_lf c6] at hq hd ⊢
      exact hd (by simpa [tgL] using hq)
    · have hrc := rc_lt hok hi (by omega)
      by_cases d6 : g i = 6
      · rw [tg_un d6 hrc] at hq hd ⊢
        exact hd (by simpa [tgU] using hq)
      · have h7 : 7 ≤ g i := by omega
        have hlc := lc_lt hok hi h7
        obtain ⟨s1, s2, s3, s4⟩ := tga_sub (P := P) (op := op) (lf := lf) (rt := rt) hok hi h7 c
        have fr : q ∈ (tgA P op lf rt g (rc g i)).2.1 c → q = c ∨ clB P op lf rt (lf q) (rt q) ((tgA P op lf rt g i).2.1 c) := fun h => (ih _ hrc (by omega) c q h hP h9).imp id (fun h => h.mono s1)
        rcases s4 q hq with h | h | ⟨e7, h⟩ | ⟨e8, h⟩
        · exact hd h
        · exact fr h
        · rcases ih _ hlc (by omega) _ q h hP h9 with h' | h'
          · refine fr ?_
            rw [h']
            exact (tg_hd (rc g i) hok (by omega)).2 c
          · exact Or.inr (h'.mono (s2 e7))
        · exact (ih _ hlc (by omega) c q h hP h9).imp id (fun h => h.mono (s3 e8))
theorem tg_C (ho : RPo P op lf rt) (h2 : 2 ≤ P) (hok : okp g k) (hre : ∀ j, j < k → ndP P op lf rt g j < P) : ∀ i, i < k → ∀ q, q ∈ (tgA P op lf rt g i).2.2 → q < P → op q = 9 → clB P op lf rt (lf q) (rt q) ((tgA P op lf rt g i).2.2) := by
  obtain ⟨z0, z1⟩ := op_01 ho h2
  intro i
  induction i using Nat.strongRecOn with
  | _ i ih =>
    intro hi q hq hP h9
    by_cases c6 : g i < 6
    · rw [tg_lf c6] at hq
      have e : q = ixL P op lf rt (g i) := by simpa [tgL] using hq
      rw [e] at hP h9
      have := ixL_op ho h2 c6 hP
      omega
    · have hrc := rc_lt hok hi (by omega)
      obtain ⟨u1, u2'⟩ := tg_sub (P := P) (op := op) (lf := lf) (rt := rt) hok hi (by omega)
      have vr := tg_v (P := P) (op := op) (lf := lf) (rt := rt) hok (rc g i) (by omega)
      have hdr := (tg_hd (P := P) (op := op) (lf := lf) (rt := rt) (rc g i) hok (by omega)).1
      have fr : q ∈ (tgA P op lf rt g (rc g i)).2.2 → clB P op lf rt (lf q) (rt q) ((tgA P op lf rt g i).2.2) := fun h => (ih _ hrc (by omega) q h hP h9).mono u1
      by_cases d6 : g i = 6
      · have su : ∀ z, z ∈ (tgA P op lf rt g (rc g i)).2.1 1 → z ∈ (tgA P op lf rt g i).2.2 := fun z hz => by
          rw [tg_un d6 hrc]
          exact List.mem_cons_of_mem _ (List.mem_append_right _ hz)
        have hq2 : q = ixB P op lf rt 9 (tgA P op lf rt g (rc g i)).1 1 ∨ q ∈ (tgA P op lf rt g (rc g i)).2.2 ∨ q ∈ (tgA P op lf rt g (rc g i)).2.1 1 := by
          rw [tg_un d6 hrc] at hq
          simpa [tgU] using hq
        rcases hq2 with h | h | h
        · rw [vr] at h
          rcases ix9_or (P := P) (op := op) (lf := lf) (rt := rt) (ndP P op lf rt g (rc g i)) 1 with ⟨_, h'⟩ | h' | h' | ⟨h1, h2', h3, h4⟩
          · rw [h, h'] at h9; omega
          · rw [h, h'] at h9; omega
          · omega
          · rw [h, h3, h4]
            exact (tg_B ho h2 hok hre _ (by omega) 1).mono su
        · exact fr h
        · rcases tg_D ho h2 hok hre _ (show rc g i < k by omega) 1 q h hP h9 with h' | h'
          · rw [h'] at h9; omega
          · exact h'.mono su
      · have h7 : 7 ≤ g i := by omega
        have hlc := lc_lt hok hi h7
        have h10 := (hok i hi).1
        have vl := tg_v (P := P) (op := op) (lf := lf) (rt := rt) hok (lc g i) (by omega)
        have hdl := (tg_hd (P := P) (op := op) (lf := lf) (rt := rt) (lc g i) hok (by omega)).1
        have fl : q ∈ (tgA P op lf rt g (lc g i)).2.2 → clB P op lf rt (lf q) (rt q) ((tgA P op lf rt g i).2.2) := fun h => (ih _ hlc (by omega) q h hP h9).mono (u2' h7)
        have hq2 : q = ixB P op lf rt (g i) (tgA P op lf rt g (lc g i)).1 (tgA P op lf rt g (rc g i)).1 ∨ q ∈ (tgA P op lf rt g (lc g i)).2.2 ∨ q ∈ (tgA P op lf rt g (rc g i)).2.2 ∨ (g i = 9 ∧ q ∈ (tgA P op lf rt g (lc g i)).2.1 (tgA P op lf rt g (rc g i)).1) := by
          rw [tg_bn h7 hlc hrc] at hq
          unfold tgB at hq
          simp only [List.mem_cons, List.mem_append] at hq
          rcases hq with h | (h | h) | h
          · exact Or.inl h
          · exact Or.inr (Or.inl h)
          · exact Or.inr (Or.inr (Or.inl h))
          · by_cases e9 : g i = 9
            · rw [if_pos e9] at h; exact Or.inr (Or.inr (Or.inr ⟨e9, h⟩))
            · rw [if_neg e9] at h; cases h
        have sa : g i = 9 → ∀ z, z ∈ (tgA P op lf rt g (lc g i)).2.1 (tgA P op lf rt g (rc g i)).1 → z ∈ (tgA P op lf rt g i).2.2 := fun e9 z hz => by
          rw [tg_bn h7 hlc hrc]
          unfold tgB
          rw [if_pos e9]
          exact List.mem_cons_of_mem _ (List.mem_append_right _ hz)
        rcases hq2 with h | h | h | ⟨e9, h⟩
        · have el : q = (tgA P op lf rt g (lc g i)).1 → clB P op lf rt (lf q) (rt q) ((tgA P op lf rt g i).2.2) := fun e => fl (by rw [e]; exact hdl)
          have er : q = (tgA P op lf rt g (rc g i)).1 → clB P op lf rt (lf q) (rt q) ((tgA P op lf rt g i).2.2) := fun e => fr (by rw [e]; exact hdr)
          obtain e7 | e8 | e9 : g i = 7 ∨ g i = 8 ∨ g i = 9 := by omega
          · rw [e7] at h
            rcases ix7_or (P := P) (op := op) (lf := lf) (rt := rt) (tgA P op lf rt g (lc g i)).1 (tgA P op lf rt g (rc g i)).1 with h' | ⟨_, h'⟩ | h' | h' | ⟨h1, h2', h3, h4⟩
            · exact er (h.trans h')
            · exact el (h.trans h')
            · rw [h, h'] at h9; omega
            · omega
            · rw [h] at h9; omega
          · rw [e8] at h
            rcases ix8_or (P := P) (op := op) (lf := lf) (rt := rt) (tgA P op lf rt g (lc g i)).1 (tgA P op lf rt g (rc g i)).1 with h' | h' | h' | h' | ⟨h1, h2', h3, h4⟩
            · exact er (h.trans h')
            · exact el (h.trans h')
            · rw [h, h'] at h9; omega
            · omega
            · rw [h] at h9; omega
          · rw [e9] at h
            rcases ix9_or (P := P) (op := op) (lf := lf) (rt := rt) (tgA P op lf rt g (lc g i)).1 (tgA P op lf rt g (rc g i)).1 with ⟨_, h'⟩ | h' | h' | ⟨h1, h2', h3, h4⟩
            · exact er (h.trans h')
            · rw [h, h'] at h9; omega
            · omega
            · rw [h, h3, h4, vl]
              exact (tg_B ho h2 hok hre _ (by omega) _).mono (sa e9)
        · exact fl h
        · exact fr h
        · rcases tg_D ho h2 hok hre _ (show lc g i < k by omega) _ q h hP h9 with h' | h'
          · exact fr (by rw [h']; exact hdr)
          · exact h'.mono (sa e9)
end CLOSE
