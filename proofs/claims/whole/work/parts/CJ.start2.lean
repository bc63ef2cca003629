/-! FROM THE CLAIM'S START TO THE WALK, once more: nothing lies beyond the heap (88.start asked for more than is so) -/
def z_pureF (N : Nat) : Prop := ∀ (kn b b0 L : Nat) (xs : Nat → Int32) (f : mmF), L ≤ N → b < b0 → kn < b0 → f b = some (.inl (9, L, .inl xs)) → f kn = some (.inl (9, 4, .inl knw)) → fresh f b0 → ∃ res : Int32 × mmF × Nat, f_L_law kn b f b0 = some res ∧ res.1 = 1
theorem pure_of (hR : ∀ (b : Nat) (f : mmF) (Ω : mO), WO Ω → refF b f Ω) : z_pureF 2560 := fun kn b b0 L xs f hL hb hk h1 h2 h3 => law_1 hR kn b b0 L xs f hL hb hk h1 h2 h3
set_option maxHeartbeats 4000000 in
theorem start_fr {N : Nat} (PURE : z_pureF N) {p : Program} {e : Env} {s : State} {m : MethodId} {below : List Frame} {meth : Method} {c : Code} (l : Launch) (hflags : l.flags = flags0) {b L : Nat} {xs : Nat → Int32} (hL : L ≤ N) (hN : N < 2 ^ 31) (C0 : lw_At p s m meth c b L xs) : W p l e room_1 s m #[Value.ref b] below meth c s.heap [] 0 0 (lw_Z below #[Value.ref b] s) (entryFrame m ([Value.ref b] : List Value).toArray 4) := by
  obtain ⟨hx, hb, hr, hml, hown, hts, hX, hbl, hlocks, hgv⟩ := id C0
  have hs := flat_of_before _ hgv
  have h0 : ∀ a : Nat, a < s.heap.size → ¬ (fun q : Nat => s.heap.size ≤ q) a := fun a h q => absurd h (Nat.not_lt.mpr q)
  obtain ⟨kn, hkn, hT⟩ := va_Tof (tm := z_KN) (ty := .int) (N := 4) (f := fun j => .int (knw j)) (A := fun q => s.heap.size ≤ q) (by decide) (hs (.arrayOf z_KN .int) (by decide +kernel)) (va_eqt (hs (.eq (.length z_KN) (.int 4)) (by decide +kernel))) (fun j hj => by
    obtain rfl | rfl | rfl | rfl : j = 0 ∨ j = 1 ∨ j = 2 ∨ j = 3 := by omega
    · exact va_eqt (hs (.eq (.elem z_KN (.int 0)) (.int 43690)) (by decide +kernel))
    · exact va_eqt (hs (.eq (.elem z_KN (.int 1)) (.int 52428)) (by decide +kernel))
    · exact va_eqt (hs (.eq (.elem z_KN (.int 2)) (.int 61680)) (by decide +kernel))
    · exact va_eqt (hs (.eq (.elem z_KN (.int 3)) (.int 65280)) (by decide +kernel))) h0
  have hZ : va_Z RX6 "KNOWN" "[I" (.ref kn) (fun q => s.heap.size ≤ q) s s.heap := va_Zof (hts (.laysStatic RX6 "KNOWN" "[I") (by decide +kernel)) (hts (.initialized RX6) (by decide +kernel)) hkn h0
  have hknl : kn < s.heap.size := by
    obtain ⟨cell, h1, _⟩ := hT
    exact (Array.getElem?_eq_some_iff.mp h1).1
  obtain ⟨c0, i0, k0⟩ := u_known (C := RX0) (T := TX0) (N := 2) (n := 2) hts inX0 (hts (.instantiable RX0 2) (by decide +kernel))
  obtain ⟨c1, i1, k1⟩ := u_known (C := RX1) (T := TX1) (N := 4) (n := 4) hts inX1 (hts (.instantiable RX1 4) (by decide +kernel))
  obtain ⟨c2, i2, k2⟩ := u_known (C := RX2) (T := TX2) (N := 5) (n := 5) hts inX2 (hts (.instantiable RX2 5) (by decide +kernel))
  obtain ⟨c3, i3, k3⟩ := u_known (C := RX3) (T := TX3) (N := 1) (n := 1) hts inX3 (hts (.instantiable RX3 1) (by decide +kernel))
  obtain ⟨c4, i4, k4⟩ := u_known (C := RX4) (T := TX4) (N := 8) (n := 8) hts inX4 (hts (.instantiable RX4 8) (by decide +kernel))
  obtain ⟨c5, i5, k5⟩ := u_known (C := RX5) (T := TX5) (N := 10) (n := 10) hts inX5 (hts (.instantiable RX5 10) (by decide +kernel))
  obtain ⟨c6, i6, k6⟩ := u_known (C := RX6) (T := TX6) (N := 5) (n := 5) hts inX6 (hts (.instantiable RX6 5) (by decide +kernel))
  obtain ⟨c7, i7, k7⟩ := u_known (C := RX7) (T := TX7) (N := 7) (n := 7) hts inX7 (hts (.instantiable RX7 7) (by decide +kernel))
  obtain ⟨c8, i8, k8⟩ := u_known (C := RX8) (T := TX8) (N := 7) (n := 7) hts inX8 (hts (.instantiable RX8 7) (by decide +kernel))
  obtain ⟨c9, i9, k9⟩ := u_known (C := RX9) (T := TX9) (N := 9) (n := 9) hts inX9 (hts (.instantiable RX9 9) (by decide +kernel))
  obtain ⟨c10, i10, k10⟩ := u_known (C := RX10) (T := TX10) (N := 25) (n := 25) hts inX10 (hts (.instantiable RX10 25) (by decide +kernel))
  obtain ⟨a0, a0o, a0r⟩ := k_int (hts (.arrayClass .int) (by decide +kernel))
  obtain ⟨a1, a1o, a1r⟩ := k_char (hts (.arrayClass .char) (by decide +kernel))
  obtain ⟨a2, a2o, a2r⟩ := k_obj (C := RX7) (hts (.arrayOver (.object RX7)) (by decide +kernel))
  obtain ⟨a3, a3o, a3r⟩ := k_obj (C := RX0) (hts (.arrayOver (.object RX0)) (by decide +kernel))
  obtain ⟨a4, a4o, a4r⟩ := k_long (hts (.arrayClass .long) (by decide +kernel))
  obtain ⟨D, hD1, hD2⟩ : ∃ D : mmD, (va_K D.1 vwCl (mm_tys aTy D) s) ∧ D.2 9 = kn := by
    refine ⟨((fun k => match k with | 0 => c0 | 1 => c1 | 2 => c2 | 3 => c3 | 4 => c4 | 5 => c5 | 6 => c6 | 7 => c7 | 8 => c8 | 9 => c9 | _ => c10, fun k => match k with | 0 => i0 | 1 => i1 | 2 => i2 | 3 => i3 | 4 => i4 | 5 => i5 | 6 => i6 | 7 => i7 | 8 => i8 | 9 => i9 | _ => i10), fun k => match k with | 0 => a0 | 1 => a1 | 2 => a2 | 3 => a3 | 4 => a4 | 5 => a0 | 6 => a0 | 7 => a0 | 8 => a0 | _ => kn), ⟨?_, ?_⟩, rfl⟩
    · intro k q hq
      match k, hq with
      | 0, hq => cases hq; exact k0
      | 1, hq => cases hq; exact k1
      | 2, hq => cases hq; exact k2
      | 3, hq => cases hq; exact k3
      | 4, hq => cases hq; exact k4
      | 5, hq => cases hq; exact k5
      | 6, hq => cases hq; exact k6
      | 7, hq => cases hq; exact k7
      | 8, hq => cases hq; exact k8
      | 9, hq => cases hq; exact k9
      | 10, hq => cases hq; exact k10
      | k + 11, hq => simp [vwCl] at hq
    · intro k q hq
      match k, hq with
      | 0, hq => cases hq; exact ⟨a0o, a0r⟩
      | 1, hq => cases hq; exact ⟨a1o, a1r⟩
      | 2, hq => cases hq; exact ⟨a2o, a2r⟩
      | 3, hq => cases hq; exact ⟨a3o, a3r⟩
      | 4, hq => cases hq; exact ⟨a4o, a4r⟩
      | 5, hq => cases hq; exact ⟨a0o, a0r⟩
      | 6, hq => cases hq; exact ⟨a0o, a0r⟩
      | 7, hq => cases hq; exact ⟨a0o, a0r⟩
      | 8, hq => cases hq; exact ⟨a0o, a0r⟩
      | k + 9, hq =>
        have h9 := (List.getElem?_eq_some_iff.mp hq).1
        simp only [mm_tys, List.length_map, List.length_range] at h9
        omega
  have hK : KK D s.heap.size s := by
    refine ⟨hD1, fun q hq => ?_, fun C hC => ?_, by rw [hD2]; exact hZ⟩
    · have : ∀ q ∈ nestL, Cond.methodLinkNest q.1 q.2.1 q.2.2.1 q.2.2.2 ∈ lw_tbl := by decide +kernel
      exact va_Nw.of rfl (hts _ (this q hq))
    · have : ∀ C ∈ [RX7, RX0], Cond.arrayOver (.object C) ∈ lw_tbl := by decide +kernel
      exact va_AO.of (hts _ (this C hC))
  have hne : b ≠ kn ∨ b = kn := by omega
  obtain ⟨f, hf⟩ : ∃ f : mmF, f = fun a => if a = b then some (.inl (9, L, .inl xs)) else if a = kn then some (.inl (9, 4, .inl knw)) else none := ⟨_, rfl⟩
  have hbk : b ≠ kn := by
    intro h
    subst h
    have hn := hs (.not (.eq (.arg 0) z_KN)) (by decide +kernel)
    have e1 : (Term.arg 0).eval #[Value.ref b] s none [] s = some (.ref b) := rfl
    simp [Cond.before, Cond.holds, Cond.value, e1, hkn] at hn
  have hM : MM vwCl D s.heap.size f s.heap.size s s.heap := by
    refine ⟨rfl, Nat.le_refl _, fun a v hv => ?_⟩
    rw [hf] at hv
    dsimp only at hv
    by_cases ha : a = b
    · subst ha
      rw [if_pos rfl] at hv
      cases hv
      obtain ⟨scr, x1, x2, x3, x4, x5⟩ := hX
      exact Or.inl ⟨L, xs, rfl, scr, x1, x2, x3, by omega, by rw [x4], x5, h0 _ hbl⟩
    · rw [if_neg ha] at hv
      by_cases hk : a = kn
      · subst hk
        rw [if_pos rfl] at hv
        cases hv
        exact Or.inl ⟨4, knw, rfl, hT⟩
      · rw [if_neg hk] at hv
        cases hv
  obtain ⟨res, hr1, hr2⟩ := PURE kn b s.heap.size L xs f hL hbl hknl (by rw [hf]; exact if_pos rfl) (by rw [hf]; dsimp only; rw [if_neg (Ne.symm hbk), if_pos rfl]) (fun a ha => by rw [hf]; dsimp only; rw [if_neg (by omega), if_neg (by omega)])
  have hl := lv_entry ([.ref b]) (n := 4) (Nat.le_of_ble_eq_true rfl)
  rw [lg_entry_eq]
  generalize (lg_sl ([.ref b]) ++ List.replicate (4 - (lg_sl ([.ref b])).length) Slot.unset).toArray = ls at hl ⊢
  have hl : lv_has ls 4 [(0, .ref b)] := hl
  exact w_L_law (D := D) (b0 := s.heap.size) (f := f) (sz := s.heap.size) rfl ⟨hx, hb, hr, hml, hown, fun w hw => hts w (wsL_law_in w hw), hlocks, hK⟩ hD2.symm hr1 hr2 s.heap [] ls hM va_S.rf hl
