/-! THE DEPTH'S NUMBERS: a node's part within the tables, by the node's printed length -/
def lnN (w : Nat) (g : Nat → Nat) (i : Nat) : Nat × Nat := nv (fun _ => (1, 0)) (lnU w) (lnB w) g (0, 0) i
theorem lnP_le (w t : Nat) (x : Nat × Nat) : x.1 ≤ lnP w t x := by
  unfold lnP
  split <;> omega
def qQ (A : Nat → Nat → Nat → Nat → Nat → Nat) (R C : Nat → Nat → Nat → Nat) (nr nc G : Nat → Nat) (N : Nat) (E v : Nat → Bool) (op lf rt : Nat → Nat) (lv n r : Nat) : Prop := ∃ j, 1 ≤ j ∧ j ≤ n ∧ j ≤ N ∧ qT A R C nr nc G N E v op lf rt lv j r
section NODES
variable {A : Nat → Nat → Nat → Nat → Nat → Nat} {R C : Nat → Nat → Nat → Nat} {nr nc G : Nat → Nat} {W N : Nat} {pa pl : Bool} {P : Nat} {op lf rt : Nat → Nat} {E v : Nat → Bool} {r : Nat} {g : Nat → Nat} {k : Nat}
theorem qT_up (ht : tabOK A R C nr nc G W N pa pl) {lv i : Nat} (h1 : 1 ≤ i) (hi : i ≤ N) (h : qT A R C nr nc G N E v op lf rt lv i r) : ∀ d, lv + d ≤ 3 → qT A R C nr nc G N E v op lf rt (lv + d) i r
  | 0, _ => h
  | d + 1, hd => qT_lift ht (show lv + d < 3 by omega) h1 hi (qT_up ht h1 hi h d (by omega))
theorem qQ.lift (ht : tabOK A R C nr nc G W N pa pl) {lv lv' n : Nat} (h : qQ A R C nr nc G N E v op lf rt lv n r) (h1 : lv ≤ lv') (h3 : lv' ≤ 3) : qQ A R C nr nc G N E v op lf rt lv' n r := by
  obtain ⟨j, j1, j2, j3, h⟩ := h
  have := qT_up ht j1 j3 h (lv' - lv) (by omega)
  rw [show lv + (lv' - lv) = lv' by omega] at this
  exact ⟨j, j1, j2, j3, this⟩
theorem qQ.up {lv n n' : Nat} (h : qQ A R C nr nc G N E v op lf rt lv n r) (h1 : n ≤ n') : qQ A R C nr nc G N E v op lf rt lv n' r := by
  obtain ⟨j, j1, j2, j3, h⟩ := h
  exact ⟨j, j1, by omega, j3, h⟩
theorem qQ_atom (ht : tabOK A R C nr nc G W N pa pl) (hk : kOK pa pl E v) (h6 : op r < 6) {lv n : Nat} (hl : lv ≤ 3) (hn : 1 ≤ n) : qQ A R C nr nc G N E v op lf rt lv n r :=
  qQ.lift ht ⟨1, Nat.le_refl _, hn, by have := ht.2.2.2.2.2.2; omega, qT_atom ht hk h6⟩ (Nat.zero_le _) hl
theorem qQ.put (ht : tabOK A R C nr nc G W N pa pl) (hk : kOK pa pl E v) (ho : RPo P op lf rt) (hr : r < P) {w n t : Nat} (h : qQ A R C nr nc G N E v op lf rt w n r) (hw : w ≤ 3) (h3 : t ≤ 3) (hN : lnP W t (n, w) ≤ N) : qQ A R C nr nc G N E v op lf rt t (lnP W t (n, w)) r := by
  unfold lnP at hN ⊢
  dsimp only at hN ⊢
  by_cases c : w ≤ t
  · rw [if_pos c]; exact h.lift ht c h3
  · rw [if_neg c] at hN ⊢
    obtain ⟨j, j1, j2, j3, h⟩ := h.lift ht hw (Nat.le_refl 3)
    by_cases e1 : j = 1
    · exact qQ_atom ht hk (h.2.2.2.1 e1) h3 (by omega)
    · by_cases e2 : j = 2
      · obtain ⟨l1, l2, l3⟩ := h.2.2.2.2 e2
        have := qT_not ht ho hr l1 l3 (Nat.le_refl 1) (by have := ht.2.2.2.2.2.2; omega) (qT_atom (r := lf r) ht hk (by omega))
        exact qQ.lift ht ⟨2, by decide, by omega, by have := ht.2.2.2.2.2.2; omega, this⟩ (Nat.zero_le _) h3
      · exact qQ.lift ht ⟨j + W, by omega, by omega, by omega, qT_par ht (by omega) (by omega) h⟩ (Nat.zero_le _) h3
/-- what is made of two parts -/
theorem qQ_bn (ht : tabOK A R C nr nc G W N pa pl) (hk : kOK pa pl E v) (ho : RPo P op lf rt) (h2 : 2 ≤ P) {o x y t1 t2 lv n1 n2 : Nat} (hO : (o = 7 ∧ t1 = 1 ∧ t2 = 0 ∧ lv = 1) ∨ (o = 8 ∧ t1 = 2 ∧ t2 = 1 ∧ lv = 2) ∨ (o = 9 ∧ t1 = 2 ∧ t2 = 3 ∧ lv = 3)) (hP : ixB P op lf rt o x y < P) (hN : n1 + 1 + n2 ≤ N) (hx : x < P → qQ A R C nr nc G N E v op lf rt t1 n1 x) (hy : y < P → qQ A R C nr nc G N E v op lf rt t2 n2 y) : qQ A R C nr nc G N E v op lf rt lv (n1 + 1 + n2) (ixB P op lf rt o x y) := by
  have z0 : op 0 < 6 := by rcases ho.1 0 (by omega) with h | h | h <;> omega
  have z1 : op 1 < 6 := by rcases ho.1 1 (by omega) with h | h | h <;> omega
  rcases ixB_or (P := P) (op := op) (lf := lf) (rt := rt) (x := x) (y := y) (show o = 7 ∨ o = 8 ∨ o = 9 by omega) with h | h | h | h | h | ⟨a1, a2, a3, a4⟩
  · rw [h] at hP ⊢
    exact ((hx hP).up (by omega)).lift ht (by omega) (by omega)
  · rw [h] at hP ⊢
    exact ((hy hP).up (by omega)).lift ht (by omega) (by omega)
  · rw [h]; exact qQ_atom ht hk z0 (by omega) (by omega)
  · rw [h]; exact qQ_atom ht hk z1 (by omega) (by omega)
  · omega
  · generalize ixB P op lf rt o x y = r at *
    have hl := (ho.to r a1).2 (by omega)
    rw [← a3] at hx
    rw [← a4] at hy
    obtain ⟨i, i1, i2, i3, hi⟩ := hx (by omega)
    obtain ⟨j, j1, j2, j3, hj⟩ := hy (by omega)
    rcases hO with ⟨rfl, rfl, rfl, rfl⟩ | ⟨rfl, rfl, rfl, rfl⟩ | ⟨rfl, rfl, rfl, rfl⟩
    · exact ⟨i + 1 + j, by omega, by omega, by omega, qT_and ht hk ho a1 a2 i1 j1 (by omega) hi hj⟩
    · exact ⟨i + 1 + j, by omega, by omega, by omega, qT_or ht hk ho a1 a2 i1 j1 (by omega) hi hj⟩
    · exact ⟨i + 1 + j, by omega, by omega, by omega, qT_if ht ho a1 a2 i1 j1 (by omega) hi hj⟩
theorem qQ_un (ht : tabOK A R C nr nc G W N pa pl) (hk : kOK pa pl E v) (ho : RPo P op lf rt) (h2 : 2 ≤ P) {x n : Nat} (hP : ixB P op lf rt 9 x 1 < P) (hN : 1 + n ≤ N) (hx : x < P → qQ A R C nr nc G N E v op lf rt 0 n x) : qQ A R C nr nc G N E v op lf rt 0 (1 + n) (ixB P op lf rt 9 x 1) := by
  have z0 : op 0 < 6 := by rcases ho.1 0 (by omega) with h | h | h <;> omega
  have z1 : op 1 < 6 := by rcases ho.1 1 (by omega) with h | h | h <;> omega
  rcases ixB_or (P := P) (op := op) (lf := lf) (rt := rt) (x := x) (y := 1) (Or.inr (Or.inr rfl)) with h | h | h | h | h | ⟨a1, a2, a3, a4⟩
  · rw [h] at hP ⊢
    exact (hx hP).up (by omega)
  · rw [h]; exact qQ_atom ht hk z1 (by omega) (by omega)
  · rw [h]; exact qQ_atom ht hk z0 (by omega) (by omega)
  · rw [h]; exact qQ_atom ht hk z1 (by omega) (by omega)
  · omega
  · generalize ixB P op lf rt 9 x 1 = r at *
    have hl := (ho.to r a1).2 (by omega)
    rw [← a3] at hx
    obtain ⟨i, i1, i2, i3, hi⟩ := hx (by omega)
    exact ⟨i + 1, by omega, by omega, by omega, qT_not ht ho a1 a2 a4 i1 (by omega) hi⟩
theorem qQ_nd (ht : tabOK A R C nr nc G W N pa pl) (hk : kOK pa pl E v) (ho : RPo P op lf rt) (h2 : 2 ≤ P) (hok : okp g k) : ∀ i, i < k → 1 ≤ (lnN W g i).1 ∧ (lnN W g i).2 ≤ 3 ∧ ((lnN W g i).1 ≤ N → ndP P op lf rt g i < P → qQ A R C nr nc G N E v op lf rt (lnN W g i).2 (lnN W g i).1 (ndP P op lf rt g i)) := by
  have z0 : op 0 < 6 := by rcases ho.1 0 (by omega) with h | h | h <;> omega
  have z1 : op 1 < 6 := by rcases ho.1 1 (by omega) with h | h | h <;> omega
  intro i
  induction i using Nat.strongRecOn with
  | _ i ih =>
    intro hi
    obtain ⟨h10, h6, h7⟩ := hok i hi
    by_cases c6 : g i < 6
    · have el : lnN W g i = (1, 0) := nv_lf c6
      rw [el]
      refine ⟨Nat.le_refl _, Nat.zero_le _, fun _ hP => ?_⟩
      have e : ndP P op lf rt g i = ixL P op lf rt (g i) := nv_lf c6
      rw [e] at hP ⊢
      have : op (ixL P op lf rt (g i)) < 6 := by
        unfold ixL at hP ⊢
        by_cases c4 : g i = 4
        · rw [if_pos c4]; exact z0
        · rw [if_neg c4] at hP ⊢
          by_cases c5 : g i = 5
          · rw [if_pos c5]; exact z1
          · rw [if_neg c5] at hP ⊢
            rcases ixT_or (op := op) (lf := lf) (rt := rt) (g i) 0 0 P P with h | h
            · omega
            · rw [h.2.1]; exact c6
      exact qQ_atom ht hk this (Nat.zero_le _) (Nat.le_refl _)
    · have hrc := rc_lt hok hi (by omega)
      obtain ⟨r1, r2, r3⟩ := ih _ hrc (by omega)
      -- a side, with brackets where they are wanted
      have side : ∀ j t, t ≤ 3 → (1 ≤ (lnN W g j).1 ∧ (lnN W g j).2 ≤ 3 ∧ ((lnN W g j).1 ≤ N → ndP P op lf rt g j < P → qQ A R C nr nc G N E v op lf rt (lnN W g j).2 (lnN W g j).1 (ndP P op lf rt g j))) → lnP W t (lnN W g j) ≤ N → ndP P op lf rt g j < P → qQ A R C nr nc G N E v op lf rt t (lnP W t (lnN W g j)) (ndP P op lf rt g j) := fun j t h3 ⟨_, q2, q3⟩ hN hP => by
        have hle := lnP_le W t (lnN W g j)
        exact (q3 (by omega) hP).put ht hk ho hP q2 h3 hN
      by_cases d6 : g i = 6
      · have el : lnN W g i = (1 + lnP W 0 (lnN W g (rc g i)), 0) := nv_un d6 hrc
        have e : ndP P op lf rt g i = ixB P op lf rt 9 (ndP P op lf rt g (rc g i)) 1 := nv_un d6 hrc
        rw [el, e]
        refine ⟨Nat.le_add_right _ _, Nat.zero_le _, fun hN hP => ?_⟩
        exact qQ_un ht hk ho h2 hP hN (fun hx => side _ 0 (by decide) ⟨r1, r2, r3⟩ (by dsimp only at hN; omega) hx)
      · have hlc := lc_lt hok hi (by omega)
        have hL := ih _ hlc (by omega)
        have el : lnN W g i = lnB W (g i) (lnN W g (lc g i)) (lnN W g (rc g i)) := nv_bn (by omega) hlc hrc
        have e : ndP P op lf rt g i = ixB P op lf rt (g i) (ndP P op lf rt g (lc g i)) (ndP P op lf rt g (rc g i)) := nv_bn (by omega) hlc hrc
        have fin : ∀ t1 t2 lv, lnN W g i = (lnP W t1 (lnN W g (lc g i)) + 1 + lnP W t2 (lnN W g (rc g i)), lv) → ((g i = 7 ∧ t1 = 1 ∧ t2 = 0 ∧ lv = 1) ∨ (g i = 8 ∧ t1 = 2 ∧ t2 = 1 ∧ lv = 2) ∨ (g i = 9 ∧ t1 = 2 ∧ t2 = 3 ∧ lv = 3)) → 1 ≤ (lnN W g i).1 ∧ (lnN W g i).2 ≤ 3 ∧ ((lnN W g i).1 ≤ N → ndP P op lf rt g i < P → qQ A R C nr nc G N E v op lf rt (lnN W g i).2 (lnN W g i).1 (ndP P op lf rt g i)) := fun t1 t2 lv el hO => by
          rw [el, e]
          refine ⟨by dsimp only; omega, by dsimp only; omega, fun hN hP => ?_⟩
          dsimp only at hN ⊢
          exact qQ_bn ht hk ho h2 hO hP hN (fun hx => side _ t1 (by omega) hL (by omega) hx) (fun hy => side _ t2 (by omega) ⟨r1, r2, r3⟩ (by omega) hy)
        obtain e7 | e8 | e9 : g i = 7 ∨ g i = 8 ∨ g i = 9 := by omega
        · exact fin 1 0 1 (by rw [el, e7]; rfl) (Or.inl ⟨e7, rfl, rfl, rfl⟩)
        · exact fin 2 1 2 (by rw [el, e8]; rfl) (Or.inr (Or.inl ⟨e8, rfl, rfl, rfl⟩))
        · exact fin 2 3 3 (by rw [el, e9]; rfl) (Or.inr (Or.inr ⟨e9, rfl, rfl, rfl⟩))
/-- without brackets a node is as long as it has signs -/
theorem ln_sz (hok : okp g k) : ∀ i, i < k → (lnN 0 g i).1 = szN g i := by
  have p0 : ∀ t x, lnP 0 t x = x.1 := fun t x => by unfold lnP; split <;> omega
  intro i
  induction i using Nat.strongRecOn with
  | _ i ih =>
    intro hi
    by_cases c6 : g i < 6
    · have el : lnN 0 g i = (1, 0) := nv_lf c6
      have es : szN g i = 1 := nv_lf c6
      rw [el, es]
    · have hrc := rc_lt hok hi (by omega)
      by_cases d6 : g i = 6
      · have el : lnN 0 g i = (1 + lnP 0 0 (lnN 0 g (rc g i)), 0) := nv_un d6 hrc
        have es : szN g i = szN g (rc g i) + 1 := nv_un d6 hrc
        rw [el, es, p0, ← ih _ hrc (by omega)]
        exact Nat.add_comm _ _
      · have hlc := lc_lt hok hi (by omega)
        have el : lnN 0 g i = lnB 0 (g i) (lnN 0 g (lc g i)) (lnN 0 g (rc g i)) := nv_bn (by omega) hlc hrc
        have es : szN g i = szN g (lc g i) + szN g (rc g i) + 1 := nv_bn (by omega) hlc hrc
        rw [el, es, ← ih _ hrc (by omega), ← ih _ hlc (by omega)]
        unfold lnB
        split
        · dsimp only; rw [p0, p0]; omega
        · split
          · dsimp only; rw [p0, p0]; omega
          · dsimp only; rw [p0, p0]; omega
end NODES
section STK
variable {g : Nat → Nat} {k : Nat}
def lsd (f : Nat → Nat × Nat) : Nat → List (Nat × Nat)
  | 0 => []
  | n + 1 => f n :: lsd f n
theorem lsd_cg {f f1 : Nat → Nat × Nat} : ∀ n, (∀ d, d < n → f d = f1 d) → lsd f n = lsd f1 n
  | 0, _ => rfl
  | n + 1, h => by
    show f n :: lsd f n = f1 n :: lsd f1 n
    rw [h n (Nat.lt_succ_self _), lsd_cg n fun d hd => h d (by omega)]
/-- the stack's lengths are those of its nodes -/
theorem stk_sl (hok : okp g k) : ∀ i, i ≤ k → stk g i = lsd (fun d => lnN 2 g (sl g i d)) (dpt g i)
  | 0, _ => rfl
  | i + 1, hi => by
    have ih := stk_sl hok i (by omega)
    obtain ⟨h10, h6, h7⟩ := hok i (by omega)
    have es : stk g (i + 1) = if g i < 6 then (1, 0) :: stk g i else if g i = 6 then lnU 2 ((stk g i).headD (0, 0)) :: (stk g i).tail else lnB 2 (g i) ((stk g i).tail.headD (0, 0)) ((stk g i).headD (0, 0)) :: (stk g i).tail.tail := rfl
    have low : ∀ n, n + 1 = dpt g (i + 1) → lsd (fun d => lnN 2 g (sl g (i + 1) d)) (dpt g (i + 1)) = lnN 2 g i :: lsd (fun d => lnN 2 g (sl g i d)) n := fun n hn => by
      rw [← hn]
      show lnN 2 g (sl g (i + 1) n) :: lsd (fun d => lnN 2 g (sl g (i + 1) d)) n = _
      rw [sl_top g hn, lsd_cg n fun d hd => by
        show lnN 2 g (sl g (i + 1) d) = lnN 2 g (sl g i d)
        rw [sl_low g (by omega)]]
    have ed := dpt_s g i
    rw [es, ih]
    by_cases c6 : g i < 6
    · rw [if_pos c6] at ed ⊢
      rw [low (dpt g i) ed.symm, show lnN 2 g i = (1, 0) from nv_lf c6]
    · rw [if_neg c6] at ed ⊢
      have hrc := rc_lt hok (show i < k by omega) (by omega)
      by_cases d6 : g i = 6
      · rw [if_pos d6] at ed ⊢
        obtain ⟨n, hn⟩ : ∃ n, dpt g i = n + 1 := ⟨dpt g i - 1, by have := h6 (by omega); omega⟩
        have el : lnN 2 g i = lnU 2 (lnN 2 g (rc g i)) := nv_un d6 hrc
        have er : rc g i = sl g i n := by
          show sl g i (dpt g i - 1) = _
          rw [hn, Nat.add_sub_cancel]
        rw [low n (by omega), el, er, hn]
        rfl
      · rw [if_neg d6] at ed ⊢
        obtain ⟨n, hn⟩ : ∃ n, dpt g i = n + 2 := ⟨dpt g i - 2, by have := h7 (by omega); omega⟩
        have hlc := lc_lt hok (show i < k by omega) (by omega)
        have el : lnN 2 g i = lnB 2 (g i) (lnN 2 g (lc g i)) (lnN 2 g (rc g i)) := nv_bn (by omega) hlc hrc
        have er : rc g i = sl g i (n + 1) := by
          show sl g i (dpt g i - 1) = _
          rw [hn]
          rfl
        have e2 : lc g i = sl g i n := by
          show sl g i (dpt g i - 2) = _
          rw [hn]
          rfl
        rw [low n (by omega), el, er, e2, hn]
        rfl
theorem VC.ln (h : VC k g) : k ≤ 24 ∨ (lnN 2 g (k - 1)).1 ≤ 30 := by
  obtain ⟨h1, h2, h3, h4, h5⟩ := h
  rcases h5 with h5 | h5
  · exact Or.inl h5
  · obtain ⟨n, rfl⟩ : ∃ n, k = n + 1 := ⟨k - 1, by omega⟩
    rw [stk_sl (k := n + 1) h3 (n + 1) (Nat.le_refl _), h4] at h5
    have h5 : (lnN 2 g (sl g (n + 1) 0)).1 ≤ 30 := h5
    rw [sl_top g (i := n) (d := 0) (by omega)] at h5
    exact Or.inr h5
end STK
