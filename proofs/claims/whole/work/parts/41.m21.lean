/-! X10_different -/
set_option maxRecDepth 20000 in
theorem qi_X10_different_X10 : ∀ w ∈ u_ws RX10 TX10 25, w ∈ wsX10_different := by decide +kernel
set_option maxRecDepth 20000 in
theorem q_X10_different_1 : Cond.fieldLink RX10 7 "StageTruthsModel" "now" "[I" ∈ wsX10_different := by decide +kernel
noncomputable def f_X10_different_83 (k18 : Nat → Int32 → Int32 → Int32 → mmF → Option (Int32 × mmF))  (v0 : Nat) (v2 : Int32) (v4 : Int32) (t0 : Int32) (t1 : Int32) (f : mmF) : Option (Int32 × mmF) :=
  k18 v0 v2 (t0 + t1) (v4 + (1 : Int32)) f
noncomputable def f_X10_different_72 (k18 : Nat → Int32 → Int32 → Int32 → mmF → Option (Int32 × mmF))  (v0 : Nat) (v2 : Int32) (v3 : Int32) (v4 : Int32) (v5 : Int32) (f : mmF) : Option (Int32 × mmF) :=
  if v5 = 0 then
  (f_X10_different_83 k18 v0 v2 v4 v3 (0 : Int32) f)
  else
  f_X10_different_83 k18 v0 v2 v4 v3 (1 : Int32) f
noncomputable def f_X10_different_64 (k18 : Nat → Int32 → Int32 → Int32 → mmF → Option (Int32 × mmF)) (k35 : Nat → Int32 → Int32 → Int32 → Int32 → Int32 → mmF → Option (Int32 × mmF))  (v0 : Nat) (v2 : Int32) (v3 : Int32) (v4 : Int32) (v6 : Int32) (t0 : Int32) (f : mmF) : Option (Int32 × mmF) :=
  k35 v0 v2 v3 v4 t0 (v6 + (1 : Int32)) f
noncomputable def f_X10_different_35 (k18 : Nat → Int32 → Int32 → Int32 → mmF → Option (Int32 × mmF))  : Nat → Nat → Int32 → Int32 → Int32 → Int32 → Int32 → mmF → Option (Int32 × mmF)
  | 0, _, _, _, _, _, _, _ => none
  | n + 1, v0, v2, v3, v4, v5, v6, f =>
    if v4 ≤ v6 then
    (f_X10_different_72 k18 v0 v2 v3 v4 v5 f)
    else
    if v5 = 0 then
    (f_X10_different_72 k18 v0 v2 v3 v4 v5 f)
    else
    (ckO f v0 10).bind fun _ =>
    (f_X10_areSame v0 v2 v4 v6 f).bind fun q53 =>
    if q53 = 0 then
    (f_X10_different_64 k18 (fun a0 a1 a2 a3 a4 a5 a6 => f_X10_different_35 k18 n a0 a1 a2 a3 a4 a5 a6) v0 v2 v3 v4 v6 (1 : Int32) f)
    else
    f_X10_different_64 k18 (fun a0 a1 a2 a3 a4 a5 a6 => f_X10_different_35 k18 n a0 a1 a2 a3 a4 a5 a6) v0 v2 v3 v4 v6 (0 : Int32) f
noncomputable def f_X10_different_18   : Nat → Nat → Int32 → Int32 → Int32 → mmF → Option (Int32 × mmF)
  | 0, _, _, _, _, _ => none
  | n + 1, v0, v2, v3, v4, f =>
    (ldR f v0 10 0).bind fun x21 =>
    (ldA 0 f x21 v2).bind fun x25 =>
    if x25 < v4 then
    (some (v3, f))
    else
    f_X10_different_35 (fun a0 a1 a2 a3 a4 => f_X10_different_18 n a0 a1 a2 a3 a4) FU v0 v2 v3 v4 (1 : Int32) (1 : Int32) f
noncomputable def f_X10_different (v0 : Nat) (v1 : Int32) (f : mmF) : Option (Int32 × mmF) :=
  (ckO f v0 10).bind fun _ =>
  (f_X10_finds v0 v1 f).bind fun q2 =>
  f_X10_different_18 FU v0 ((17 : Int32) + ((31 : Int32) * v1)) (0 : Int32) (1 : Int32) q2
section S_X10_different
variable {p : Program} {l : Launch} {e : Env} {s : State} {m : MethodId} {args : Array Value} {below : List Frame} {meth : Method} {c : Code} {D : mmD} {b0 sz : Nat} {f : mmF}
set_option maxHeartbeats 4000000 in
set_option maxRecDepth 100000 in
theorem w_X10_different_83 (C0 : CX cX10_different 7 (some .int) wsX10_different RX10 p s m args meth c D b0) {k18 : Nat → Int32 → Int32 → Int32 → mmF → Option (Int32 × mmF)} {res : Int32 × mmF} (hk18 : ∀ (v0 : Nat) (v2 : Int32) (v3 : Int32) (v4 : Int32) (f : mmF), k18 v0 v2 v3 v4 f = some res → ∀ (H : Heap) (locs : List Loc) (ls : Array Slot), MM vwCl D b0 f sz s H → mS b0 s H locs → lv_has ls 7 [(0, .ref v0), (2, .int v2), (3, .int v3), (4, .int v4)] → W p l e ({ frames := 1, cells := 0, slots := 0, locals := 25 } : Room) s m args below meth c H locs 0 0 (MQ below (QW D b0 (some (.int res.1)) res.2 sz) args s 0 0 (fun q => b0 ≤ q)) (F0 m 18 ls [])) : ∀ (v0 : Nat) (v2 : Int32) (v4 : Int32) (t0 : Int32) (t1 : Int32) (f : mmF), f_X10_different_83 k18 v0 v2 v4 t0 t1 f = some res → ∀ (H : Heap) (locs : List Loc) (ls : Array Slot), MM vwCl D b0 f sz s H → mS b0 s H locs → lv_has ls 7 [(0, .ref v0), (2, .int v2), (4, .int v4)] → W p l e ({ frames := 1, cells := 0, slots := 0, locals := 25 } : Room) s m args below meth c H locs 0 0 (MQ below (QW D b0 (some (.int res.1)) res.2 sz) args s 0 0 (fun q => b0 ≤ q)) (F0 m 83 ls [.int t1, .int t0]) := by
  obtain ⟨hx, hb, hr, hml, hown, hts, hlocks, hK⟩ := id C0
  intro v0 v2 v4 t0 t1 f h H locs ls hM hS hl
  unfold f_X10_different_83 at h
  refine lv_iadd hx hb dX10_different_83 ?_
  refine lv_istore_n (lv' := [(3, .int (t0 + t1)), (0, .ref v0), (2, .int v2), (4, .int v4)]) hx hb dX10_different_84 rfl hl (by decide) rfl (fun ls hl => ?_)
  refine lv_iinc (v := (v4 + (1 : Int32))) (lv' := [(4, .int (v4 + (1 : Int32))), (3, .int (t0 + t1)), (0, .ref v0), (2, .int v2)]) hx hb dX10_different_85 hl (k := 3) rfl rfl (by decide) rfl (fun ls hl => ?_)
  refine lv_goto (tgt := 18) hx hb dX10_different_88 (by decide) ?_
  exact hk18 _ _ _ _ _ h _ _ _ hM hS (lv_sub hl [2, 3, 1, 0] rfl)
set_option maxHeartbeats 4000000 in
set_option maxRecDepth 100000 in
theorem w_X10_different_72 (C0 : CX cX10_different 7 (some .int) wsX10_different RX10 p s m args meth c D b0) {k18 : Nat → Int32 → Int32 → Int32 → mmF → Option (Int32 × mmF)} {res : Int32 × mmF} (hk18 : ∀ (v0 : Nat) (v2 : Int32) (v3 : Int32) (v4 : Int32) (f : mmF), k18 v0 v2 v3 v4 f = some res → ∀ (H : Heap) (locs : List Loc) (ls : Array Slot), MM vwCl D b0 f sz s H → mS b0 s H locs → lv_has ls 7 [(0, .ref v0), (2, .int v2), (3, .int v3), (4, .int v4)] → W p l e ({ frames := 1, cells := 0, slots := 0, locals := 25 } : Room) s m args below meth c H locs 0 0 (MQ below (QW D b0 (some (.int res.1)) res.2 sz) args s 0 0 (fun q => b0 ≤ q)) (F0 m 18 ls [])) : ∀ (v0 : Nat) (v2 : Int32) (v3 : Int32) (v4 : Int32) (v5 : Int32) (f : mmF), f_X10_different_72 k18 v0 v2 v3 v4 v5 f = some res → ∀ (H : Heap) (locs : List Loc) (ls : Array Slot), MM vwCl D b0 f sz s H → mS b0 s H locs → lv_has ls 7 [(0, .ref v0), (2, .int v2), (3, .int v3), (4, .int v4), (5, .int v5)] → W p l e ({ frames := 1, cells := 0, slots := 0, locals := 25 } : Room) s m args below meth c H locs 0 0 (MQ below (QW D b0 (some (.int res.1)) res.2 sz) args s 0 0 (fun q => b0 ≤ q)) (F0 m 72 ls []) := by
  obtain ⟨hx, hb, hr, hml, hown, hts, hlocks, hK⟩ := id C0
  intro v0 v2 v3 v4 v5 f h H locs ls hM hS hl
  unfold f_X10_different_72 at h
  refine lv_iload_n hx hb dX10_different_72 rfl (lv_at hl 2 rfl) ?_
  refine lv_iload hx hb dX10_different_73 (lv_at hl 4 rfl) ?_
  refine lv_if_eq (tgt := 82) hx hb dX10_different_75 (by decide) (fun c75 => ?_) (fun c75 => ?_)
  · replace h := o_t c75 h
    refine lv_iconst (v := (0 : Int32)) hx hb dX10_different_82 (by decide) ?_
    exact w_X10_different_83 C0 hk18 _ _ _ _ _ _ h _ _ _ hM hS (lv_sub hl [0, 1, 3] rfl)
  replace h := o_f c75 h
  refine lv_iconst (v := (1 : Int32)) hx hb dX10_different_78 (by decide) ?_
  refine lv_goto (tgt := 83) hx hb dX10_different_79 (by decide) ?_
  exact w_X10_different_83 C0 hk18 _ _ _ _ _ _ h _ _ _ hM hS (lv_sub hl [0, 1, 3] rfl)
set_option maxHeartbeats 4000000 in
set_option maxRecDepth 100000 in
theorem w_X10_different_64 (C0 : CX cX10_different 7 (some .int) wsX10_different RX10 p s m args meth c D b0) {k18 : Nat → Int32 → Int32 → Int32 → mmF → Option (Int32 × mmF)} {k35 : Nat → Int32 → Int32 → Int32 → Int32 → Int32 → mmF → Option (Int32 × mmF)} {res : Int32 × mmF} (hk18 : ∀ (v0 : Nat) (v2 : Int32) (v3 : Int32) (v4 : Int32) (f : mmF), k18 v0 v2 v3 v4 f = some res → ∀ (H : Heap) (locs : List Loc) (ls : Array Slot), MM vwCl D b0 f sz s H → mS b0 s H locs → lv_has ls 7 [(0, .ref v0), (2, .int v2), (3, .int v3), (4, .int v4)] → W p l e ({ frames := 1, cells := 0, slots := 0, locals := 25 } : Room) s m args below meth c H locs 0 0 (MQ below (QW D b0 (some (.int res.1)) res.2 sz) args s 0 0 (fun q => b0 ≤ q)) (F0 m 18 ls [])) (hk35 : ∀ (v0 : Nat) (v2 : Int32) (v3 : Int32) (v4 : Int32) (v5 : Int32) (v6 : Int32) (f : mmF), k35 v0 v2 v3 v4 v5 v6 f = some res → ∀ (H : Heap) (locs : List Loc) (ls : Array Slot), MM vwCl D b0 f sz s H → mS b0 s H locs → lv_has ls 7 [(0, .ref v0), (2, .int v2), (3, .int v3), (4, .int v4), (5, .int v5), (6, .int v6)] → W p l e ({ frames := 1, cells := 0, slots := 0, locals := 25 } : Room) s m args below meth c H locs 0 0 (MQ below (QW D b0 (some (.int res.1)) res.2 sz) args s 0 0 (fun q => b0 ≤ q)) (F0 m 35 ls [])) : ∀ (v0 : Nat) (v2 : Int32) (v3 : Int32) (v4 : Int32) (v6 : Int32) (t0 : Int32) (f : mmF), f_X10_different_64 k18 k35 v0 v2 v3 v4 v6 t0 f = some res → ∀ (H : Heap) (locs : List Loc) (ls : Array Slot), MM vwCl D b0 f sz s H → mS b0 s H locs → lv_has ls 7 [(0, .ref v0), (2, .int v2), (3, .int v3), (4, .int v4), (6, .int v6)] → W p l e ({ frames := 1, cells := 0, slots := 0, locals := 25 } : Room) s m args below meth c H locs 0 0 (MQ below (QW D b0 (some (.int res.1)) res.2 sz) args s 0 0 (fun q => b0 ≤ q)) (F0 m 64 ls [.int t0]) := by
  obtain ⟨hx, hb, hr, hml, hown, hts, hlocks, hK⟩ := id C0
  intro v0 v2 v3 v4 v6 t0 f h H locs ls hM hS hl
  unfold f_X10_different_64 at h
  refine lv_istore (lv' := [(5, .int t0), (0, .ref v0), (2, .int v2), (3, .int v3), (4, .int v4), (6, .int v6)]) hx hb dX10_different_64 hl (by decide) rfl (fun ls hl => ?_)
  refine lv_iinc (v := (v6 + (1 : Int32))) (lv' := [(6, .int (v6 + (1 : Int32))), (5, .int t0), (0, .ref v0), (2, .int v2), (3, .int v3), (4, .int v4)]) hx hb dX10_different_66 hl (k := 5) rfl rfl (by decide) rfl (fun ls hl => ?_)
  refine lv_goto (tgt := 35) hx hb dX10_different_69 (by decide) ?_
  exact hk35 _ _ _ _ _ _ _ h _ _ _ hM hS (lv_sub hl [2, 3, 4, 5, 1, 0] rfl)
set_option maxHeartbeats 4000000 in
set_option maxRecDepth 100000 in
theorem w_X10_different_35 (C0 : CX cX10_different 7 (some .int) wsX10_different RX10 p s m args meth c D b0) {k18 : Nat → Int32 → Int32 → Int32 → mmF → Option (Int32 × mmF)} {res : Int32 × mmF} (hk18 : ∀ (v0 : Nat) (v2 : Int32) (v3 : Int32) (v4 : Int32) (f : mmF), k18 v0 v2 v3 v4 f = some res → ∀ (H : Heap) (locs : List Loc) (ls : Array Slot), MM vwCl D b0 f sz s H → mS b0 s H locs → lv_has ls 7 [(0, .ref v0), (2, .int v2), (3, .int v3), (4, .int v4)] → W p l e ({ frames := 1, cells := 0, slots := 0, locals := 25 } : Room) s m args below meth c H locs 0 0 (MQ below (QW D b0 (some (.int res.1)) res.2 sz) args s 0 0 (fun q => b0 ≤ q)) (F0 m 18 ls [])) : ∀ (n : Nat), ∀ (v0 : Nat) (v2 : Int32) (v3 : Int32) (v4 : Int32) (v5 : Int32) (v6 : Int32) (f : mmF), f_X10_different_35 k18 n v0 v2 v3 v4 v5 v6 f = some res → ∀ (H : Heap) (locs : List Loc) (ls : Array Slot), MM vwCl D b0 f sz s H → mS b0 s H locs → lv_has ls 7 [(0, .ref v0), (2, .int v2), (3, .int v3), (4, .int v4), (5, .int v5), (6, .int v6)] → W p l e ({ frames := 1, cells := 0, slots := 0, locals := 25 } : Room) s m args below meth c H locs 0 0 (MQ below (QW D b0 (some (.int res.1)) res.2 sz) args s 0 0 (fun q => b0 ≤ q)) (F0 m 35 ls []) := by
  obtain ⟨hx, hb, hr, hml, hown, hts, hlocks, hK⟩ := id C0
  intro n
  induction n with
  | zero =>
    intro v0 v2 v3 v4 v5 v6 f h
    have h : (none : Option (Int32 × mmF)) = some res := h
    cases h
  | succ n ih =>
    intro v0 v2 v3 v4 v5 v6 f h H locs ls hM hS hl
    rw [f_X10_different_35] at h
    refine lv_iload hx hb dX10_different_35 (lv_at hl 5 rfl) ?_
    refine lv_iload hx hb dX10_different_37 (lv_at hl 3 rfl) ?_
    refine lv_icmp_ge (tgt := 72) hx hb dX10_different_39 (by decide) (fun c39 => ?_) (fun c39 => ?_)
    · replace h := o_t c39 h
      exact w_X10_different_72 C0 hk18 _ _ _ _ _ _ h _ _ _ hM hS (lv_sub hl [0, 1, 2, 3, 4] rfl)
    replace h := o_f c39 h
    refine lv_iload hx hb dX10_different_42 (lv_at hl 4 rfl) ?_
    refine lv_if_eq (tgt := 72) hx hb dX10_different_44 (by decide) (fun c44 => ?_) (fun c44 => ?_)
    · replace h := o_t c44 h
      exact w_X10_different_72 C0 hk18 _ _ _ _ _ _ h _ _ _ hM hS (lv_sub hl [0, 1, 2, 3, 4] rfl)
    replace h := o_f c44 h
    refine lv_aload_n hx hb dX10_different_47 rfl (lv_at hl 0 rfl) ?_
    refine lv_iload_n hx hb dX10_different_48 rfl (lv_at hl 1 rfl) ?_
    refine lv_iload hx hb dX10_different_49 (lv_at hl 3 rfl) ?_
    refine lv_iload hx hb dX10_different_51 (lv_at hl 5 rfl) ?_
    replace h := o_b h; obtain ⟨_, k53, h⟩ := h
    replace h := o_b h; obtain ⟨q53, h53, h⟩ := h
    refine m_call (va_runV (As := [.int v2, .int v4, .int v6]) (rest := []) ⟨hx, hb, hml, hown, hts⟩ (c_X10_areSame l D b0 sz h53) (cwV 3 hts gX10_different_X10_areSame rfl rfl rfl (by decide +kernel) ⟨Nat.le_of_ble_eq_true rfl, Nat.le_of_ble_eq_true rfl⟩) ⟨PW.blind, m_recv (ci := 10) rfl hK hM k53, (fun U hU hW => ⟨rfl, PW.call hK hM hS hU hW⟩)⟩ rfl rfl hl.1 rfl (lv_room (Nat.le_of_ble_eq_true rfl)) dX10_different_53 ⟨(Nat.le_refl _), (Nat.le_refl _)⟩) hS (fun H locs hM hS => ?_)
    refine lv_if_ne (tgt := 63) hx hb dX10_different_56 (by decide) (fun c56 => ?_) (fun c56 => ?_)
    · replace h := o_f c56 h
      refine lv_iconst (v := (0 : Int32)) hx hb dX10_different_63 (by decide) ?_
      exact w_X10_different_64 C0 hk18 ih _ _ _ _ _ _ _ h _ _ _ hM hS (lv_sub hl [0, 1, 2, 3, 5] rfl)
    replace h := o_t c56 h
    refine lv_iconst (v := (1 : Int32)) hx hb dX10_different_59 (by decide) ?_
    refine lv_goto (tgt := 64) hx hb dX10_different_60 (by decide) ?_
    exact w_X10_different_64 C0 hk18 ih _ _ _ _ _ _ _ h _ _ _ hM hS (lv_sub hl [0, 1, 2, 3, 5] rfl)
set_option maxHeartbeats 4000000 in
set_option maxRecDepth 100000 in
theorem w_X10_different_18 (C0 : CX cX10_different 7 (some .int) wsX10_different RX10 p s m args meth c D b0) {res : Int32 × mmF} : ∀ (n : Nat), ∀ (v0 : Nat) (v2 : Int32) (v3 : Int32) (v4 : Int32) (f : mmF), f_X10_different_18 n v0 v2 v3 v4 f = some res → ∀ (H : Heap) (locs : List Loc) (ls : Array Slot), MM vwCl D b0 f sz s H → mS b0 s H locs → lv_has ls 7 [(0, .ref v0), (2, .int v2), (3, .int v3), (4, .int v4)] → W p l e ({ frames := 1, cells := 0, slots := 0, locals := 25 } : Room) s m args below meth c H locs 0 0 (MQ below (QW D b0 (some (.int res.1)) res.2 sz) args s 0 0 (fun q => b0 ≤ q)) (F0 m 18 ls []) := by
  obtain ⟨hx, hb, hr, hml, hown, hts, hlocks, hK⟩ := id C0
  intro n
  induction n with
  | zero =>
    intro v0 v2 v3 v4 f h
    have h : (none : Option (Int32 × mmF)) = some res := h
    cases h
  | succ n ih =>
    intro v0 v2 v3 v4 f h H locs ls hM hS hl
    rw [f_X10_different_18] at h
    refine lv_iload hx hb dX10_different_18 (lv_at hl 3 rfl) ?_
    refine lv_aload_n hx hb dX10_different_20 rfl (lv_at hl 0 rfl) ?_
    replace h := o_b h; obtain ⟨x21, h21, h⟩ := h
    refine m_get (C := RX10) (T := TX10) (N := 25) (ci := 10) hx hb hts qi_X10_different_X10 hown hK.1 hM 0 (ldR_F h21) rfl (by decide) (hts _ q_X10_different_1) (fun _ h9 => h9) dX10_different_21 ?_
    refine lv_iload_n hx hb dX10_different_24 rfl (lv_at hl 1 rfl) ?_
    replace h := o_b h; obtain ⟨x25, h25, h⟩ := h
    refine m_iald hx hb hK.1 hM hS rfl h25 dX10_different_25 ?_
    refine lv_icmp_gt (tgt := 91) hx hb dX10_different_26 (by decide) (fun c26 => ?_) (fun c26 => ?_)
    · replace h := o_t c26 h
      refine lv_iload_n hx hb dX10_different_91 rfl (lv_at hl 2 rfl) ?_
      replace h := Option.some.inj h; subst h
      exact W.iret hx hb hr (fun t ht hW => ⟨rfl, by rw [ht]; exact hM.moved hW.alike, hS.F ht⟩) hS.2.2 dX10_different_92
    replace h := o_f c26 h
    refine lv_iconst (v := (1 : Int32)) hx hb dX10_different_29 (by decide) ?_
    refine lv_istore (lv' := [(5, .int (1 : Int32)), (0, .ref v0), (2, .int v2), (3, .int v3), (4, .int v4)]) hx hb dX10_different_30 hl (by decide) rfl (fun ls hl => ?_)
    refine lv_iconst (v := (1 : Int32)) hx hb dX10_different_32 (by decide) ?_
    refine lv_istore (lv' := [(6, .int (1 : Int32)), (5, .int (1 : Int32)), (0, .ref v0), (2, .int v2), (3, .int v3), (4, .int v4)]) hx hb dX10_different_33 hl (by decide) rfl (fun ls hl => ?_)
    exact w_X10_different_35 C0 ih FU _ _ _ _ _ _ _ h _ _ _ hM hS (lv_sub hl [2, 3, 4, 5, 1, 0] rfl)
set_option maxHeartbeats 4000000 in
set_option maxRecDepth 100000 in
theorem w_X10_different (C0 : CX cX10_different 7 (some .int) wsX10_different RX10 p s m args meth c D b0) {v0 : Nat} {v1 : Int32} {res : Int32 × mmF} (h : f_X10_different v0 v1 f = some res) : ∀ (H : Heap) (locs : List Loc) (ls : Array Slot), MM vwCl D b0 f sz s H → mS b0 s H locs → lv_has ls 7 [(0, .ref v0), (1, .int v1)] → W p l e ({ frames := 1, cells := 0, slots := 0, locals := 25 } : Room) s m args below meth c H locs 0 0 (MQ below (QW D b0 (some (.int res.1)) res.2 sz) args s 0 0 (fun q => b0 ≤ q)) (F0 m 0 ls []) := by
  obtain ⟨hx, hb, hr, hml, hown, hts, hlocks, hK⟩ := id C0
  intro H locs ls hM hS hl
  unfold f_X10_different at h
  refine lv_aload_n hx hb dX10_different_0 rfl (lv_at hl 0 rfl) ?_
  refine lv_iload_n hx hb dX10_different_1 rfl (lv_at hl 1 rfl) ?_
  replace h := o_b h; obtain ⟨_, k2, h⟩ := h
  replace h := o_b h; obtain ⟨q2, h2, h⟩ := h
  refine m_call (va_runV (As := [.int v1]) (rest := []) ⟨hx, hb, hml, hown, hts⟩ (c_X10_finds l D b0 sz h2) (cwV 1 hts gX10_different_X10_finds rfl rfl rfl (by decide +kernel) ⟨Nat.le_of_ble_eq_true rfl, Nat.le_of_ble_eq_true rfl⟩) ⟨PW.blind, m_recv (ci := 10) rfl hK hM k2, (fun U hU hW => ⟨rfl, PW.call hK hM hS hU hW⟩)⟩ rfl rfl hl.1 rfl (lv_room (Nat.le_of_ble_eq_true rfl)) dX10_different_2 ⟨(Nat.le_refl _), (Nat.le_refl _)⟩) hS (fun H locs hM hS => ?_)
  refine lv_bipush (v := (17 : Int32)) hx hb dX10_different_5 (by decide) ?_
  refine lv_bipush (v := (31 : Int32)) hx hb dX10_different_7 (by decide) ?_
  refine lv_iload_n hx hb dX10_different_9 rfl (lv_at hl 1 rfl) ?_
  refine lv_imul hx hb dX10_different_10 ?_
  refine lv_iadd hx hb dX10_different_11 ?_
  refine lv_istore_n (lv' := [(2, .int ((17 : Int32) + ((31 : Int32) * v1))), (0, .ref v0), (1, .int v1)]) hx hb dX10_different_12 rfl hl (by decide) rfl (fun ls hl => ?_)
  refine lv_iconst (v := (0 : Int32)) hx hb dX10_different_13 (by decide) ?_
  refine lv_istore_n (lv' := [(3, .int (0 : Int32)), (2, .int ((17 : Int32) + ((31 : Int32) * v1))), (0, .ref v0), (1, .int v1)]) hx hb dX10_different_14 rfl hl (by decide) rfl (fun ls hl => ?_)
  refine lv_iconst (v := (1 : Int32)) hx hb dX10_different_15 (by decide) ?_
  refine lv_istore (lv' := [(4, .int (1 : Int32)), (3, .int (0 : Int32)), (2, .int ((17 : Int32) + ((31 : Int32) * v1))), (0, .ref v0), (1, .int v1)]) hx hb dX10_different_16 hl (by decide) rfl (fun ls hl => ?_)
  exact w_X10_different_18 C0 FU _ _ _ _ _ h _ _ _ hM hS (lv_sub hl [3, 2, 1, 0] rfl)
set_option maxHeartbeats 4000000 in
set_option maxRecDepth 100000 in
theorem c_X10_different (l : Launch) (D : mmD) (b0 sz : Nat) {v0 : Nat} {v1 : Int32} {f : mmF} {res : Int32 × mmF} (h : f_X10_different v0 v1 f = some res) : Met l yX10_different wsX10_different ({ frames := 1, cells := 0, slots := 0, locals := 25 } : Room) (va_Pc [.ref v0, .int v1] (PW D b0 f sz)) (QW D b0 (some (.int res.1)) res.2 sz) 0 0 (fun q => b0 ≤ q) := by
  refine Met.ofW (cc := cX10_different) (maxL := 7) (ret := (some .int)) (by decide) rfl ?_
  intro p e s m args below meth c s₁ B hml hv
  obtain ⟨rfl, hM, hK⟩ := hv
  have hl := lv_entry ([.ref v0, .int v1]) (n := 7) (Nat.le_of_ble_eq_true rfl)
  rw [lg_entry_eq]
  generalize (lg_sl ([.ref v0, .int v1]) ++ List.replicate (7 - (lg_sl ([.ref v0, .int v1])).length) Slot.unset).toArray = ls at hl ⊢
  have hl : lv_has ls 7 [(0, .ref v0), (1, .int v1)] := hl
  exact w_X10_different ⟨B.exec, B.bytes, B.returns, hml, findClass_of_methodNamed B.named, atoms_spec (ws := wsX10_different) B.pre, B.notSynchronized, hK⟩ h s.heap [] ls hM va_S.rf hl
end S_X10_different
/-! X10_depth -/
set_option maxRecDepth 20000 in
theorem qi_X10_depth_X10 : ∀ w ∈ u_ws RX10 TX10 25, w ∈ wsX10_depth := by decide +kernel
set_option maxRecDepth 20000 in
theorem q_X10_depth_1 : Cond.fieldLink RX10 7 "StageTruthsModel" "now" "[I" ∈ wsX10_depth := by decide +kernel
set_option maxRecDepth 20000 in
theorem q_X10_depth_2 : Cond.fieldLink RX10 35 "StageTruthsModel" "stack" "[I" ∈ wsX10_depth := by decide +kernel
noncomputable def f_X10_depth_124 (k13 : Nat → Int32 → Int32 → Int32 → mmF → Option (Int32 × mmF))  (v0 : Nat) (v2 : Int32) (v3 : Int32) (v4 : Int32) (f : mmF) : Option (Int32 × mmF) :=
  k13 v0 v2 v3 (v4 + (1 : Int32)) f
noncomputable def f_X10_depth_122 (k13 : Nat → Int32 → Int32 → Int32 → mmF → Option (Int32 × mmF))  (v0 : Nat) (v2 : Int32) (v3 : Int32) (v4 : Int32) (t0 : Nat) (t1 : Int32) (t2 : Int32) (t3 : Int32) (f : mmF) : Option (Int32 × mmF) :=
  (stA 0 f t0 t1 (t2 + t3)).bind fun f123 =>
  f_X10_depth_124 k13 v0 v2 v3 v4 f123
noncomputable def f_X10_depth_13   : Nat → Nat → Int32 → Int32 → Int32 → mmF → Option (Int32 × mmF)
  | 0, _, _, _, _, _ => none
  | n + 1, v0, v2, v3, v4, f =>
    (ldR f v0 10 0).bind fun x16 =>
    (ldA 0 f x16 v2).bind fun x20 =>
    if x20 < v4 then
    ((ldR f v0 10 14).bind fun x131 =>
    (ldA 0 f x131 (0 : Int32)).bind fun x135 =>
    some (x135, f))
    else
    (ldR f v0 10 0).bind fun x25 =>
    (ldA 0 f x25 (v2 + v4)).bind fun x32 =>
    if (6 : Int32) ≤ x32 then
    (if x32 = (6 : Int32) then
    ((ldR f v0 10 14).bind fun x63 =>
    (ldA 0 f x63 (v3 - (1 : Int32))).bind fun x70 =>
    (stA 0 f x63 (v3 - (1 : Int32)) (x70 + (1 : Int32))).bind fun f73 =>
    f_X10_depth_124 (fun a0 a1 a2 a3 a4 => f_X10_depth_13 n a0 a1 a2 a3 a4) v0 v2 v3 v4 f73)
    else
    (ldR f v0 10 14).bind fun x81 =>
    (ldR f v0 10 14).bind fun x89 =>
    (ldA 0 f x89 (v3 + (-1 : Int32))).bind fun x93 =>
    (ldR f v0 10 14).bind fun x95 =>
    (ldA 0 f x95 ((v3 + (-1 : Int32)) - (1 : Int32))).bind fun x101 =>
    if x93 ≤ x101 then
    ((ldR f v0 10 14).bind fun x115 =>
    (ldA 0 f x115 ((v3 + (-1 : Int32)) - (1 : Int32))).bind fun x121 =>
    f_X10_depth_122 (fun a0 a1 a2 a3 a4 => f_X10_depth_13 n a0 a1 a2 a3 a4) v0 v2 (v3 + (-1 : Int32)) v4 x81 ((v3 + (-1 : Int32)) - (1 : Int32)) (1 : Int32) x121 f)
    else
    (ldR f v0 10 14).bind fun x106 =>
    (ldA 0 f x106 (v3 + (-1 : Int32))).bind fun x110 =>
    f_X10_depth_122 (fun a0 a1 a2 a3 a4 => f_X10_depth_13 n a0 a1 a2 a3 a4) v0 v2 (v3 + (-1 : Int32)) v4 x81 ((v3 + (-1 : Int32)) - (1 : Int32)) (1 : Int32) x110 f)
    else
    (ldR f v0 10 14).bind fun x43 =>
    (stA 0 f x43 v3 (1 : Int32)).bind fun f48 =>
    f_X10_depth_124 (fun a0 a1 a2 a3 a4 => f_X10_depth_13 n a0 a1 a2 a3 a4) v0 v2 (v3 + (1 : Int32)) v4 f48
noncomputable def f_X10_depth (v0 : Nat) (v1 : Int32) (f : mmF) : Option (Int32 × mmF) :=
  f_X10_depth_13 FU v0 ((17 : Int32) + ((31 : Int32) * v1)) (0 : Int32) (1 : Int32) f
section S_X10_depth
variable {p : Program} {l : Launch} {e : Env} {s : State} {m : MethodId} {args : Array Value} {below : List Frame} {meth : Method} {c : Code} {D : mmD} {b0 sz : Nat} {f : mmF}
set_option maxHeartbeats 4000000 in
set_option maxRecDepth 100000 in
theorem w_X10_depth_124 (C0 : CX cX10_depth 6 (some .int) wsX10_depth RX10 p s m args meth c D b0) {k13 : Nat → Int32 → Int32 → Int32 → mmF → Option (Int32 × mmF)} {res : Int32 × mmF} (hk13 : ∀ (v0 : Nat) (v2 : Int32) (v3 : Int32) (v4 : Int32) (f : mmF), k13 v0 v2 v3 v4 f = some res → ∀ (H : Heap) (locs : List Loc) (ls : Array Slot), MM vwCl D b0 f sz s H → mS b0 s H locs → lv_has ls 6 [(0, .ref v0), (2, .int v2), (3, .int v3), (4, .int v4)] → W p l e ({ frames := 0, cells := 0, slots := 0, locals := 0 } : Room) s m args below meth c H locs 0 0 (MQ below (QW D b0 (some (.int res.1)) res.2 sz) args s 0 0 (fun q => b0 ≤ q)) (F0 m 13 ls [])) : ∀ (v0 : Nat) (v2 : Int32) (v3 : Int32) (v4 : Int32) (f : mmF), f_X10_depth_124 k13 v0 v2 v3 v4 f = some res → ∀ (H : Heap) (locs : List Loc) (ls : Array Slot), MM vwCl D b0 f sz s H → mS b0 s H locs → lv_has ls 6 [(0, .ref v0), (2, .int v2), (3, .int v3), (4, .int v4)] → W p l e ({ frames := 0, cells := 0, slots := 0, locals := 0 } : Room) s m args below meth c H locs 0 0 (MQ below (QW D b0 (some (.int res.1)) res.2 sz) args s 0 0 (fun q => b0 ≤ q)) (F0 m 124 ls []) := by
  obtain ⟨hx, hb, hr, hml, hown, hts, hlocks, hK⟩ := id C0
  intro v0 v2 v3 v4 f h H locs ls hM hS hl
  unfold f_X10_depth_124 at h
  refine lv_iinc (v := (v4 + (1 : Int32))) (lv' := [(4, .int (v4 + (1 : Int32))), (0, .ref v0), (2, .int v2), (3, .int v3)]) hx hb dX10_depth_124 hl (k := 3) rfl rfl (by decide) rfl (fun ls hl => ?_)
  refine lv_goto (tgt := 13) hx hb dX10_depth_127 (by decide) ?_
  exact hk13 _ _ _ _ _ h _ _ _ hM hS (lv_sub hl [1, 2, 3, 0] rfl)
set_option maxHeartbeats 4000000 in
set_option maxRecDepth 100000 in
theorem w_X10_depth_122 (C0 : CX cX10_depth 6 (some .int) wsX10_depth RX10 p s m args meth c D b0) {k13 : Nat → Int32 → Int32 → Int32 → mmF → Option (Int32 × mmF)} {res : Int32 × mmF} (hk13 : ∀ (v0 : Nat) (v2 : Int32) (v3 : Int32) (v4 : Int32) (f : mmF), k13 v0 v2 v3 v4 f = some res → ∀ (H : Heap) (locs : List Loc) (ls : Array Slot), MM vwCl D b0 f sz s H → mS b0 s H locs → lv_has ls 6 [(0, .ref v0), (2, .int v2), (3, .int v3), (4, .int v4)] → W p l e ({ frames := 0, cells := 0, slots := 0, locals := 0 } : Room) s m args below meth c H locs 0 0 (MQ below (QW D b0 (some (.int res.1)) res.2 sz) args s 0 0 (fun q => b0 ≤ q)) (F0 m 13 ls [])) : ∀ (v0 : Nat) (v2 : Int32) (v3 : Int32) (v4 : Int32) (t0 : Nat) (t1 : Int32) (t2 : Int32) (t3 : Int32) (f : mmF), f_X10_depth_122 k13 v0 v2 v3 v4 t0 t1 t2 t3 f = some res → ∀ (H : Heap) (locs : List Loc) (ls : Array Slot), MM vwCl D b0 f sz s H → mS b0 s H locs → lv_has ls 6 [(0, .ref v0), (2, .int v2), (3, .int v3), (4, .int v4)] → W p l e ({ frames := 0, cells := 0, slots := 0, locals := 0 } : Room) s m args below meth c H locs 0 0 (MQ below (QW D b0 (some (.int res.1)) res.2 sz) args s 0 0 (fun q => b0 ≤ q)) (F0 m 122 ls [.int t3, .int t2, .int t1, .ref t0]) := by
  obtain ⟨hx, hb, hr, hml, hown, hts, hlocks, hK⟩ := id C0
  intro v0 v2 v3 v4 t0 t1 t2 t3 f h H locs ls hM hS hl
  unfold f_X10_depth_122 at h
  refine lv_iadd hx hb dX10_depth_122 ?_
  replace h := o_b h; obtain ⟨f123, h123, h⟩ := h
  refine m_iast hx hb hK.1 hM hS rfl h123 dX10_depth_123 (fun H locs hM hS => ?_)
  exact w_X10_depth_124 C0 hk13 _ _ _ _ _ h _ _ _ hM hS (lv_sub hl [0, 1, 2, 3] rfl)
set_option maxHeartbeats 4000000 in
set_option maxRecDepth 100000 in
theorem w_X10_depth_13 (C0 : CX cX10_depth 6 (some .int) wsX10_depth RX10 p s m args meth c D b0) {res : Int32 × mmF} : ∀ (n : Nat), ∀ (v0 : Nat) (v2 : Int32) (v3 : Int32) (v4 : Int32) (f : mmF), f_X10_depth_13 n v0 v2 v3 v4 f = some res → ∀ (H : Heap) (locs : List Loc) (ls : Array Slot), MM vwCl D b0 f sz s H → mS b0 s H locs → lv_has ls 6 [(0, .ref v0), (2, .int v2), (3, .int v3), (4, .int v4)] → W p l e ({ frames := 0, cells := 0, slots := 0, locals := 0 } : Room) s m args below meth c H locs 0 0 (MQ below (QW D b0 (some (.int res.1)) res.2 sz) args s 0 0 (fun q => b0 ≤ q)) (F0 m 13 ls []) := by
  obtain ⟨hx, hb, hr, hml, hown, hts, hlocks, hK⟩ := id C0
  intro n
  induction n with
  | zero =>
    intro v0 v2 v3 v4 f h
    have h : (none : Option (Int32 × mmF)) = some res := h
    cases h
  | succ n ih =>
    intro v0 v2 v3 v4 f h H locs ls hM hS hl
    rw [f_X10_depth_13] at h
    refine lv_iload hx hb dX10_depth_13 (lv_at hl 3 rfl) ?_
    refine lv_aload_n hx hb dX10_depth_15 rfl (lv_at hl 0 rfl) ?_
    replace h := o_b h; obtain ⟨x16, h16, h⟩ := h
    refine m_get (C := RX10) (T := TX10) (N := 25) (ci := 10) hx hb hts qi_X10_depth_X10 hown hK.1 hM 0 (ldR_F h16) rfl (by decide) (hts _ q_X10_depth_1) (fun _ h9 => h9) dX10_depth_16 ?_
    refine lv_iload_n hx hb dX10_depth_19 rfl (lv_at hl 1 rfl) ?_
    replace h := o_b h; obtain ⟨x20, h20, h⟩ := h
    refine m_iald hx hb hK.1 hM hS rfl h20 dX10_depth_20 ?_
    refine lv_icmp_gt (tgt := 130) hx hb dX10_depth_21 (by decide) (fun c21 => ?_) (fun c21 => ?_)
    · replace h := o_t c21 h
      refine lv_aload_n hx hb dX10_depth_130 rfl (lv_at hl 0 rfl) ?_
      replace h := o_b h; obtain ⟨x131, h131, h⟩ := h
      refine m_get (C := RX10) (T := TX10) (N := 25) (ci := 10) hx hb hts qi_X10_depth_X10 hown hK.1 hM 14 (ldR_F h131) rfl (by decide) (hts _ q_X10_depth_2) (fun _ h9 => h9) dX10_depth_131 ?_
      refine lv_iconst (v := (0 : Int32)) hx hb dX10_depth_134 (by decide) ?_
      replace h := o_b h; obtain ⟨x135, h135, h⟩ := h
      refine m_iald hx hb hK.1 hM hS rfl h135 dX10_depth_135 ?_
      replace h := Option.some.inj h; subst h
      exact W.iret hx hb hr (fun t ht hW => ⟨rfl, by rw [ht]; exact hM.moved hW.alike, hS.F ht⟩) hS.2.2 dX10_depth_136
    replace h := o_f c21 h
    refine lv_aload_n hx hb dX10_depth_24 rfl (lv_at hl 0 rfl) ?_
    replace h := o_b h; obtain ⟨x25, h25, h⟩ := h
    refine m_get (C := RX10) (T := TX10) (N := 25) (ci := 10) hx hb hts qi_X10_depth_X10 hown hK.1 hM 0 (ldR_F h25) rfl (by decide) (hts _ q_X10_depth_1) (fun _ h9 => h9) dX10_depth_25 ?_
    refine lv_iload_n hx hb dX10_depth_28 rfl (lv_at hl 1 rfl) ?_
    refine lv_iload hx hb dX10_depth_29 (lv_at hl 3 rfl) ?_
    refine lv_iadd hx hb dX10_depth_31 ?_
    replace h := o_b h; obtain ⟨x32, h32, h⟩ := h
    refine m_iald hx hb hK.1 hM hS rfl h32 dX10_depth_32 ?_
    refine lv_istore (lv' := [(5, .int x32), (0, .ref v0), (2, .int v2), (3, .int v3), (4, .int v4)]) hx hb dX10_depth_33 hl (by decide) rfl (fun ls hl => ?_)
    refine lv_iload hx hb dX10_depth_35 (lv_at hl 0 rfl) ?_
    refine lv_bipush (v := (6 : Int32)) hx hb dX10_depth_37 (by decide) ?_
    refine lv_icmp_ge (tgt := 55) hx hb dX10_depth_39 (by decide) (fun c39 => ?_) (fun c39 => ?_)
    · replace h := o_t c39 h
      refine lv_iload hx hb dX10_depth_55 (lv_at hl 0 rfl) ?_
      refine lv_bipush (v := (6 : Int32)) hx hb dX10_depth_57 (by decide) ?_
      refine lv_icmp_ne (tgt := 77) hx hb dX10_depth_59 (by decide) (fun c59 => ?_) (fun c59 => ?_)
      · replace h := o_f c59 h
        refine lv_iinc (v := (v3 + (-1 : Int32))) (lv' := [(3, .int (v3 + (-1 : Int32))), (5, .int x32), (0, .ref v0), (2, .int v2), (4, .int v4)]) hx hb dX10_depth_77 hl (k := 3) rfl rfl (by decide) rfl (fun ls hl => ?_)
        refine lv_aload_n hx hb dX10_depth_80 rfl (lv_at hl 2 rfl) ?_
        replace h := o_b h; obtain ⟨x81, h81, h⟩ := h
        refine m_get (C := RX10) (T := TX10) (N := 25) (ci := 10) hx hb hts qi_X10_depth_X10 hown hK.1 hM 14 (ldR_F h81) rfl (by decide) (hts _ q_X10_depth_2) (fun _ h9 => h9) dX10_depth_81 ?_
        refine lv_iload_n hx hb dX10_depth_84 rfl (lv_at hl 0 rfl) ?_
        refine lv_iconst (v := (1 : Int32)) hx hb dX10_depth_85 (by decide) ?_
        refine lv_isub hx hb dX10_depth_86 ?_
        refine lv_iconst (v := (1 : Int32)) hx hb dX10_depth_87 (by decide) ?_
        refine lv_aload_n hx hb dX10_depth_88 rfl (lv_at hl 2 rfl) ?_
        replace h := o_b h; obtain ⟨x89, h89, h⟩ := h
        refine m_get (C := RX10) (T := TX10) (N := 25) (ci := 10) hx hb hts qi_X10_depth_X10 hown hK.1 hM 14 (ldR_F h89) rfl (by decide) (hts _ q_X10_depth_2) (fun _ h9 => h9) dX10_depth_89 ?_
        refine lv_iload_n hx hb dX10_depth_92 rfl (lv_at hl 0 rfl) ?_
        replace h := o_b h; obtain ⟨x93, h93, h⟩ := h
        refine m_iald hx hb hK.1 hM hS rfl h93 dX10_depth_93 ?_
        refine lv_aload_n hx hb dX10_depth_94 rfl (lv_at hl 2 rfl) ?_
        replace h := o_b h; obtain ⟨x95, h95, h⟩ := h
        refine m_get (C := RX10) (T := TX10) (N := 25) (ci := 10) hx hb hts qi_X10_depth_X10 hown hK.1 hM 14 (ldR_F h95) rfl (by decide) (hts _ q_X10_depth_2) (fun _ h9 => h9) dX10_depth_95 ?_
        refine lv_iload_n hx hb dX10_depth_98 rfl (lv_at hl 0 rfl) ?_
        refine lv_iconst (v := (1 : Int32)) hx hb dX10_depth_99 (by decide) ?_
        refine lv_isub hx hb dX10_depth_100 ?_
        replace h := o_b h; obtain ⟨x101, h101, h⟩ := h
        refine m_iald hx hb hK.1 hM hS rfl h101 dX10_depth_101 ?_
        refine lv_icmp_le (tgt := 114) hx hb dX10_depth_102 (by decide) (fun c102 => ?_) (fun c102 => ?_)
        · replace h := o_t c102 h
          refine lv_aload_n hx hb dX10_depth_114 rfl (lv_at hl 2 rfl) ?_
          replace h := o_b h; obtain ⟨x115, h115, h⟩ := h
          refine m_get (C := RX10) (T := TX10) (N := 25) (ci := 10) hx hb hts qi_X10_depth_X10 hown hK.1 hM 14 (ldR_F h115) rfl (by decide) (hts _ q_X10_depth_2) (fun _ h9 => h9) dX10_depth_115 ?_
          refine lv_iload_n hx hb dX10_depth_118 rfl (lv_at hl 0 rfl) ?_
          refine lv_iconst (v := (1 : Int32)) hx hb dX10_depth_119 (by decide) ?_
          refine lv_isub hx hb dX10_depth_120 ?_
          replace h := o_b h; obtain ⟨x121, h121, h⟩ := h
          refine m_iald hx hb hK.1 hM hS rfl h121 dX10_depth_121 ?_
          exact w_X10_depth_122 C0 ih _ _ _ _ _ _ _ _ _ h _ _ _ hM hS (lv_sub hl [2, 3, 0, 4] rfl)
        replace h := o_f c102 h
        refine lv_aload_n hx hb dX10_depth_105 rfl (lv_at hl 2 rfl) ?_
        replace h := o_b h; obtain ⟨x106, h106, h⟩ := h
        refine m_get (C := RX10) (T := TX10) (N := 25) (ci := 10) hx hb hts qi_X10_depth_X10 hown hK.1 hM 14 (ldR_F h106) rfl (by decide) (hts _ q_X10_depth_2) (fun _ h9 => h9) dX10_depth_106 ?_
        refine lv_iload_n hx hb dX10_depth_109 rfl (lv_at hl 0 rfl) ?_
        replace h := o_b h; obtain ⟨x110, h110, h⟩ := h
        refine m_iald hx hb hK.1 hM hS rfl h110 dX10_depth_110 ?_
        refine lv_goto (tgt := 122) hx hb dX10_depth_111 (by decide) ?_
        exact w_X10_depth_122 C0 ih _ _ _ _ _ _ _ _ _ h _ _ _ hM hS (lv_sub hl [2, 3, 0, 4] rfl)
      replace h := o_t c59 h
      refine lv_aload_n hx hb dX10_depth_62 rfl (lv_at hl 1 rfl) ?_
      replace h := o_b h; obtain ⟨x63, h63, h⟩ := h
      refine m_get (C := RX10) (T := TX10) (N := 25) (ci := 10) hx hb hts qi_X10_depth_X10 hown hK.1 hM 14 (ldR_F h63) rfl (by decide) (hts _ q_X10_depth_2) (fun _ h9 => h9) dX10_depth_63 ?_
      refine lv_iload_n hx hb dX10_depth_66 rfl (lv_at hl 3 rfl) ?_
      refine lv_iconst (v := (1 : Int32)) hx hb dX10_depth_67 (by decide) ?_
      refine lv_isub hx hb dX10_depth_68 ?_
      refine lv_dup2_11 hx hb dX10_depth_69 rfl rfl ?_
      replace h := o_b h; obtain ⟨x70, h70, h⟩ := h
      refine m_iald hx hb hK.1 hM hS rfl h70 dX10_depth_70 ?_
      refine lv_iconst (v := (1 : Int32)) hx hb dX10_depth_71 (by decide) ?_
      refine lv_iadd hx hb dX10_depth_72 ?_
      replace h := o_b h; obtain ⟨f73, h73, h⟩ := h
      refine m_iast hx hb hK.1 hM hS rfl h73 dX10_depth_73 (fun H locs hM hS => ?_)
      refine lv_goto (tgt := 124) hx hb dX10_depth_74 (by decide) ?_
      exact w_X10_depth_124 C0 ih _ _ _ _ _ h _ _ _ hM hS (lv_sub hl [1, 2, 3, 4] rfl)
    replace h := o_f c39 h
    refine lv_aload_n hx hb dX10_depth_42 rfl (lv_at hl 1 rfl) ?_
    replace h := o_b h; obtain ⟨x43, h43, h⟩ := h
    refine m_get (C := RX10) (T := TX10) (N := 25) (ci := 10) hx hb hts qi_X10_depth_X10 hown hK.1 hM 14 (ldR_F h43) rfl (by decide) (hts _ q_X10_depth_2) (fun _ h9 => h9) dX10_depth_43 ?_
    refine lv_iload_n hx hb dX10_depth_46 rfl (lv_at hl 3 rfl) ?_
    refine lv_iconst (v := (1 : Int32)) hx hb dX10_depth_47 (by decide) ?_
    replace h := o_b h; obtain ⟨f48, h48, h⟩ := h
    refine m_iast hx hb hK.1 hM hS rfl h48 dX10_depth_48 (fun H locs hM hS => ?_)
    refine lv_iinc (v := (v3 + (1 : Int32))) (lv' := [(3, .int (v3 + (1 : Int32))), (5, .int x32), (0, .ref v0), (2, .int v2), (4, .int v4)]) hx hb dX10_depth_49 hl (k := 3) rfl rfl (by decide) rfl (fun ls hl => ?_)
    refine lv_goto (tgt := 124) hx hb dX10_depth_52 (by decide) ?_
    exact w_X10_depth_124 C0 ih _ _ _ _ _ h _ _ _ hM hS (lv_sub hl [2, 3, 0, 4] rfl)
set_option maxHeartbeats 4000000 in
set_option maxRecDepth 100000 in
theorem w_X10_depth (C0 : CX cX10_depth 6 (some .int) wsX10_depth RX10 p s m args meth c D b0) {v0 : Nat} {v1 : Int32} {res : Int32 × mmF} (h : f_X10_depth v0 v1 f = some res) : ∀ (H : Heap) (locs : List Loc) (ls : Array Slot), MM vwCl D b0 f sz s H → mS b0 s H locs → lv_has ls 6 [(0, .ref v0), (1, .int v1)] → W p l e ({ frames := 0, cells := 0, slots := 0, locals := 0 } : Room) s m args below meth c H locs 0 0 (MQ below (QW D b0 (some (.int res.1)) res.2 sz) args s 0 0 (fun q => b0 ≤ q)) (F0 m 0 ls []) := by
  obtain ⟨hx, hb, hr, hml, hown, hts, hlocks, hK⟩ := id C0
  intro H locs ls hM hS hl
  unfold f_X10_depth at h
  refine lv_bipush (v := (17 : Int32)) hx hb dX10_depth_0 (by decide) ?_
  refine lv_bipush (v := (31 : Int32)) hx hb dX10_depth_2 (by decide) ?_
  refine lv_iload_n hx hb dX10_depth_4 rfl (lv_at hl 1 rfl) ?_
  refine lv_imul hx hb dX10_depth_5 ?_
  refine lv_iadd hx hb dX10_depth_6 ?_
  refine lv_istore_n (lv' := [(2, .int ((17 : Int32) + ((31 : Int32) * v1))), (0, .ref v0), (1, .int v1)]) hx hb dX10_depth_7 rfl hl (by decide) rfl (fun ls hl => ?_)
  refine lv_iconst (v := (0 : Int32)) hx hb dX10_depth_8 (by decide) ?_
  refine lv_istore_n (lv' := [(3, .int (0 : Int32)), (2, .int ((17 : Int32) + ((31 : Int32) * v1))), (0, .ref v0), (1, .int v1)]) hx hb dX10_depth_9 rfl hl (by decide) rfl (fun ls hl => ?_)
  refine lv_iconst (v := (1 : Int32)) hx hb dX10_depth_10 (by decide) ?_
  refine lv_istore (lv' := [(4, .int (1 : Int32)), (3, .int (0 : Int32)), (2, .int ((17 : Int32) + ((31 : Int32) * v1))), (0, .ref v0), (1, .int v1)]) hx hb dX10_depth_11 hl (by decide) rfl (fun ls hl => ?_)
  exact w_X10_depth_13 C0 FU _ _ _ _ _ h _ _ _ hM hS (lv_sub hl [3, 2, 1, 0] rfl)
set_option maxHeartbeats 4000000 in
set_option maxRecDepth 100000 in
theorem c_X10_depth (l : Launch) (D : mmD) (b0 sz : Nat) {v0 : Nat} {v1 : Int32} {f : mmF} {res : Int32 × mmF} (h : f_X10_depth v0 v1 f = some res) : Met l yX10_depth wsX10_depth ({ frames := 0, cells := 0, slots := 0, locals := 0 } : Room) (va_Pc [.ref v0, .int v1] (PW D b0 f sz)) (QW D b0 (some (.int res.1)) res.2 sz) 0 0 (fun q => b0 ≤ q) := by
  refine Met.ofW (cc := cX10_depth) (maxL := 6) (ret := (some .int)) (by decide) rfl ?_
  intro p e s m args below meth c s₁ B hml hv
  obtain ⟨rfl, hM, hK⟩ := hv
  have hl := lv_entry ([.ref v0, .int v1]) (n := 6) (Nat.le_of_ble_eq_true rfl)
  rw [lg_entry_eq]
  generalize (lg_sl ([.ref v0, .int v1]) ++ List.replicate (6 - (lg_sl ([.ref v0, .int v1])).length) Slot.unset).toArray = ls at hl ⊢
  have hl : lv_has ls 6 [(0, .ref v0), (1, .int v1)] := hl
  exact w_X10_depth ⟨B.exec, B.bytes, B.returns, hml, findClass_of_methodNamed B.named, atoms_spec (ws := wsX10_depth) B.pre, B.notSynchronized, hK⟩ h s.heap [] ls hM va_S.rf hl
end S_X10_depth
/-! X10_factsIn -/
set_option maxRecDepth 20000 in
theorem qi_X10_factsIn_X10 : ∀ w ∈ u_ws RX10 TX10 25, w ∈ wsX10_factsIn := by decide +kernel
set_option maxRecDepth 20000 in
theorem q_X10_factsIn_1 : Cond.fieldLink RX10 7 "StageTruthsModel" "now" "[I" ∈ wsX10_factsIn := by decide +kernel
noncomputable def f_X10_factsIn_53 (k13 : Nat → Int32 → Int32 → Int32 → Option (Int32)) (f : mmF) (v0 : Nat) (v2 : Int32) (v4 : Int32) (t0 : Int32) (t1 : Int32) : Option (Int32) :=
  k13 v0 v2 (t0 ||| t1) (v4 + (1 : Int32))
noncomputable def f_X10_factsIn_13  (f : mmF) : Nat → Nat → Int32 → Int32 → Int32 → Option (Int32)
  | 0, _, _, _, _ => none
  | n + 1, v0, v2, v3, v4 =>
    (ldR f v0 10 0).bind fun x16 =>
    (ldA 0 f x16 v2).bind fun x20 =>
    if x20 < v4 then
    (some (v3))
    else
    (ldR f v0 10 0).bind fun x26 =>
    (ldA 0 f x26 (v2 + v4)).bind fun x33 =>
    if (4 : Int32) ≤ x33 then
    (f_X10_factsIn_53 (fun a0 a1 a2 a3 => f_X10_factsIn_13 f n a0 a1 a2 a3) f v0 v2 v4 v3 (0 : Int32))
    else
    (ldR f v0 10 0).bind fun x40 =>
    (ldA 0 f x40 (v2 + v4)).bind fun x47 =>
    f_X10_factsIn_53 (fun a0 a1 a2 a3 => f_X10_factsIn_13 f n a0 a1 a2 a3) f v0 v2 v4 v3 ((1 : Int32) <<< (x47 &&& 31))
noncomputable def f_X10_factsIn (v0 : Nat) (v1 : Int32) (f : mmF) : Option (Int32) :=
  f_X10_factsIn_13 f FU v0 ((17 : Int32) + ((31 : Int32) * v1)) (0 : Int32) (1 : Int32)
section S_X10_factsIn
variable {p : Program} {l : Launch} {e : Env} {s : State} {m : MethodId} {args : Array Value} {below : List Frame} {meth : Method} {c : Code} {D : mmD} {b0 sz : Nat} {f : mmF}
set_option maxHeartbeats 4000000 in
set_option maxRecDepth 100000 in
theorem w_X10_factsIn_53 (C0 : CX cX10_factsIn 5 (some .int) wsX10_factsIn RX10 p s m args meth c D b0) {k13 : Nat → Int32 → Int32 → Int32 → Option (Int32)} {res : Int32} (hk13 : ∀ (v0 : Nat) (v2 : Int32) (v3 : Int32) (v4 : Int32), k13 v0 v2 v3 v4 = some res → ∀ (H : Heap) (locs : List Loc) (ls : Array Slot), MM vwCl D b0 f sz s H → mS b0 s H locs → lv_has ls 5 [(0, .ref v0), (2, .int v2), (3, .int v3), (4, .int v4)] → W p l e ({ frames := 0, cells := 0, slots := 0, locals := 0 } : Room) s m args below meth c H locs 0 0 (MQ below (QW D b0 (some (.int res)) f sz) args s 0 0 (fun q => b0 ≤ q)) (F0 m 13 ls [])) : ∀ (v0 : Nat) (v2 : Int32) (v4 : Int32) (t0 : Int32) (t1 : Int32), f_X10_factsIn_53 k13 f v0 v2 v4 t0 t1 = some res → ∀ (H : Heap) (locs : List Loc) (ls : Array Slot), MM vwCl D b0 f sz s H → mS b0 s H locs → lv_has ls 5 [(0, .ref v0), (2, .int v2), (4, .int v4)] → W p l e ({ frames := 0, cells := 0, slots := 0, locals := 0 } : Room) s m args below meth c H locs 0 0 (MQ below (QW D b0 (some (.int res)) f sz) args s 0 0 (fun q => b0 ≤ q)) (F0 m 53 ls [.int t1, .int t0]) := by
  obtain ⟨hx, hb, hr, hml, hown, hts, hlocks, hK⟩ := id C0
  intro v0 v2 v4 t0 t1 h H locs ls hM hS hl
  unfold f_X10_factsIn_53 at h
  refine lv_ior hx hb dX10_factsIn_53 ?_
  refine lv_istore_n (lv' := [(3, .int (t0 ||| t1)), (0, .ref v0), (2, .int v2), (4, .int v4)]) hx hb dX10_factsIn_54 rfl hl (by decide) rfl (fun ls hl => ?_)
  refine lv_iinc (v := (v4 + (1 : Int32))) (lv' := [(4, .int (v4 + (1 : Int32))), (3, .int (t0 ||| t1)), (0, .ref v0), (2, .int v2)]) hx hb dX10_factsIn_55 hl (k := 3) rfl rfl (by decide) rfl (fun ls hl => ?_)
  refine lv_goto (tgt := 13) hx hb dX10_factsIn_58 (by decide) ?_
  exact hk13 _ _ _ _ h _ _ _ hM hS (lv_sub hl [2, 3, 1, 0] rfl)
set_option maxHeartbeats 4000000 in
set_option maxRecDepth 100000 in
theorem w_X10_factsIn_13 (C0 : CX cX10_factsIn 5 (some .int) wsX10_factsIn RX10 p s m args meth c D b0) {res : Int32} : ∀ (n : Nat), ∀ (v0 : Nat) (v2 : Int32) (v3 : Int32) (v4 : Int32), f_X10_factsIn_13 f n v0 v2 v3 v4 = some res → ∀ (H : Heap) (locs : List Loc) (ls : Array Slot), MM vwCl D b0 f sz s H → mS b0 s H locs → lv_has ls 5 [(0, .ref v0), (2, .int v2), (3, .int v3), (4, .int v4)] → W p l e ({ frames := 0, cells := 0, slots := 0, locals := 0 } : Room) s m args below meth c H locs 0 0 (MQ below (QW D b0 (some (.int res)) f sz) args s 0 0 (fun q => b0 ≤ q)) (F0 m 13 ls []) := by
  obtain ⟨hx, hb, hr, hml, hown, hts, hlocks, hK⟩ := id C0
  intro n
  induction n with
  | zero =>
    intro v0 v2 v3 v4 h
    have h : (none : Option (Int32)) = some res := h
    cases h
  | succ n ih =>
    intro v0 v2 v3 v4 h H locs ls hM hS hl
    rw [f_X10_factsIn_13] at h
    refine lv_iload hx hb dX10_factsIn_13 (lv_at hl 3 rfl) ?_
    refine lv_aload_n hx hb dX10_factsIn_15 rfl (lv_at hl 0 rfl) ?_
    replace h := o_b h; obtain ⟨x16, h16, h⟩ := h
    refine m_get (C := RX10) (T := TX10) (N := 25) (ci := 10) hx hb hts qi_X10_factsIn_X10 hown hK.1 hM 0 (ldR_F h16) rfl (by decide) (hts _ q_X10_factsIn_1) (fun _ h9 => h9) dX10_factsIn_16 ?_
    refine lv_iload_n hx hb dX10_factsIn_19 rfl (lv_at hl 1 rfl) ?_
    replace h := o_b h; obtain ⟨x20, h20, h⟩ := h
    refine m_iald hx hb hK.1 hM hS rfl h20 dX10_factsIn_20 ?_
    refine lv_icmp_gt (tgt := 61) hx hb dX10_factsIn_21 (by decide) (fun c21 => ?_) (fun c21 => ?_)
    · replace h := o_t c21 h
      refine lv_iload_n hx hb dX10_factsIn_61 rfl (lv_at hl 2 rfl) ?_
      replace h := Option.some.inj h; subst h
      exact W.iret hx hb hr (fun t ht hW => ⟨rfl, by rw [ht]; exact hM.moved hW.alike, hS.F ht⟩) hS.2.2 dX10_factsIn_62
    replace h := o_f c21 h
    refine lv_iload_n hx hb dX10_factsIn_24 rfl (lv_at hl 2 rfl) ?_
    refine lv_aload_n hx hb dX10_factsIn_25 rfl (lv_at hl 0 rfl) ?_
    replace h := o_b h; obtain ⟨x26, h26, h⟩ := h
    refine m_get (C := RX10) (T := TX10) (N := 25) (ci := 10) hx hb hts qi_X10_factsIn_X10 hown hK.1 hM 0 (ldR_F h26) rfl (by decide) (hts _ q_X10_factsIn_1) (fun _ h9 => h9) dX10_factsIn_26 ?_
    refine lv_iload_n hx hb dX10_factsIn_29 rfl (lv_at hl 1 rfl) ?_
    refine lv_iload hx hb dX10_factsIn_30 (lv_at hl 3 rfl) ?_
    refine lv_iadd hx hb dX10_factsIn_32 ?_
    replace h := o_b h; obtain ⟨x33, h33, h⟩ := h
    refine m_iald hx hb hK.1 hM hS rfl h33 dX10_factsIn_33 ?_
    refine lv_iconst (v := (4 : Int32)) hx hb dX10_factsIn_34 (by decide) ?_
    refine lv_icmp_ge (tgt := 52) hx hb dX10_factsIn_35 (by decide) (fun c35 => ?_) (fun c35 => ?_)
    · replace h := o_t c35 h
      refine lv_iconst (v := (0 : Int32)) hx hb dX10_factsIn_52 (by decide) ?_
      exact w_X10_factsIn_53 C0 ih _ _ _ _ _ h _ _ _ hM hS (lv_sub hl [0, 1, 3] rfl)
    replace h := o_f c35 h
    refine lv_iconst (v := (1 : Int32)) hx hb dX10_factsIn_38 (by decide) ?_
    refine lv_aload_n hx hb dX10_factsIn_39 rfl (lv_at hl 0 rfl) ?_
    replace h := o_b h; obtain ⟨x40, h40, h⟩ := h
    refine m_get (C := RX10) (T := TX10) (N := 25) (ci := 10) hx hb hts qi_X10_factsIn_X10 hown hK.1 hM 0 (ldR_F h40) rfl (by decide) (hts _ q_X10_factsIn_1) (fun _ h9 => h9) dX10_factsIn_40 ?_
    refine lv_iload_n hx hb dX10_factsIn_43 rfl (lv_at hl 1 rfl) ?_
    refine lv_iload hx hb dX10_factsIn_44 (lv_at hl 3 rfl) ?_
    refine lv_iadd hx hb dX10_factsIn_46 ?_
    replace h := o_b h; obtain ⟨x47, h47, h⟩ := h
    refine m_iald hx hb hK.1 hM hS rfl h47 dX10_factsIn_47 ?_
    refine lv_ishl hx hb dX10_factsIn_48 ?_
    refine lv_goto (tgt := 53) hx hb dX10_factsIn_49 (by decide) ?_
    exact w_X10_factsIn_53 C0 ih _ _ _ _ _ h _ _ _ hM hS (lv_sub hl [0, 1, 3] rfl)
set_option maxHeartbeats 4000000 in
set_option maxRecDepth 100000 in
theorem w_X10_factsIn (C0 : CX cX10_factsIn 5 (some .int) wsX10_factsIn RX10 p s m args meth c D b0) {v0 : Nat} {v1 : Int32} {res : Int32} (h : f_X10_factsIn v0 v1 f = some res) : ∀ (H : Heap) (locs : List Loc) (ls : Array Slot), MM vwCl D b0 f sz s H → mS b0 s H locs → lv_has ls 5 [(0, .ref v0), (1, .int v1)] → W p l e ({ frames := 0, cells := 0, slots := 0, locals := 0 } : Room) s m args below meth c H locs 0 0 (MQ below (QW D b0 (some (.int res)) f sz) args s 0 0 (fun q => b0 ≤ q)) (F0 m 0 ls []) := by
  obtain ⟨hx, hb, hr, hml, hown, hts, hlocks, hK⟩ := id C0
  intro H locs ls hM hS hl
  unfold f_X10_factsIn at h
  refine lv_bipush (v := (17 : Int32)) hx hb dX10_factsIn_0 (by decide) ?_
  refine lv_bipush (v := (31 : Int32)) hx hb dX10_factsIn_2 (by decide) ?_
  refine lv_iload_n hx hb dX10_factsIn_4 rfl (lv_at hl 1 rfl) ?_
  refine lv_imul hx hb dX10_factsIn_5 ?_
  refine lv_iadd hx hb dX10_factsIn_6 ?_
  refine lv_istore_n (lv' := [(2, .int ((17 : Int32) + ((31 : Int32) * v1))), (0, .ref v0), (1, .int v1)]) hx hb dX10_factsIn_7 rfl hl (by decide) rfl (fun ls hl => ?_)
  refine lv_iconst (v := (0 : Int32)) hx hb dX10_factsIn_8 (by decide) ?_
  refine lv_istore_n (lv' := [(3, .int (0 : Int32)), (2, .int ((17 : Int32) + ((31 : Int32) * v1))), (0, .ref v0), (1, .int v1)]) hx hb dX10_factsIn_9 rfl hl (by decide) rfl (fun ls hl => ?_)
  refine lv_iconst (v := (1 : Int32)) hx hb dX10_factsIn_10 (by decide) ?_
  refine lv_istore (lv' := [(4, .int (1 : Int32)), (3, .int (0 : Int32)), (2, .int ((17 : Int32) + ((31 : Int32) * v1))), (0, .ref v0), (1, .int v1)]) hx hb dX10_factsIn_11 hl (by decide) rfl (fun ls hl => ?_)
  exact w_X10_factsIn_13 C0 FU _ _ _ _ h _ _ _ hM hS (lv_sub hl [3, 2, 1, 0] rfl)
set_option maxHeartbeats 4000000 in
set_option maxRecDepth 100000 in
theorem c_X10_factsIn (l : Launch) (D : mmD) (b0 sz : Nat) {v0 : Nat} {v1 : Int32} {f : mmF} {res : Int32} (h : f_X10_factsIn v0 v1 f = some res) : Met l yX10_factsIn wsX10_factsIn ({ frames := 0, cells := 0, slots := 0, locals := 0 } : Room) (va_Pc [.ref v0, .int v1] (PW D b0 f sz)) (QW D b0 (some (.int res)) f sz) 0 0 (fun q => b0 ≤ q) := by
  refine Met.ofW (cc := cX10_factsIn) (maxL := 5) (ret := (some .int)) (by decide) rfl ?_
  intro p e s m args below meth c s₁ B hml hv
  obtain ⟨rfl, hM, hK⟩ := hv
  have hl := lv_entry ([.ref v0, .int v1]) (n := 5) (Nat.le_of_ble_eq_true rfl)
  rw [lg_entry_eq]
  generalize (lg_sl ([.ref v0, .int v1]) ++ List.replicate (5 - (lg_sl ([.ref v0, .int v1])).length) Slot.unset).toArray = ls at hl ⊢
  have hl : lv_has ls 5 [(0, .ref v0), (1, .int v1)] := hl
  exact w_X10_factsIn ⟨B.exec, B.bytes, B.returns, hml, findClass_of_methodNamed B.named, atoms_spec (ws := wsX10_factsIn) B.pre, B.notSynchronized, hK⟩ h s.heap [] ls hM va_S.rf hl
end S_X10_factsIn
/-! X10_claim -/
set_option maxRecDepth 20000 in
theorem qi_X10_claim_X10 : ∀ w ∈ u_ws RX10 TX10 25, w ∈ wsX10_claim := by decide +kernel
set_option maxRecDepth 20000 in
theorem q_X10_claim_1 : Cond.fieldLink RX10 7 "StageTruthsModel" "now" "[I" ∈ wsX10_claim := by decide +kernel
noncomputable def f_X10_claim (v0 : Nat) (v1 : Int32) (v2 : Int32) (f : mmF) : Option (Int32 × mmF) :=
  (ckO f v0 10).bind fun _ =>
  (f_X10_noClaim v0 v1 f).bind fun q2 =>
  if q2 = 0 then
  ((ldR f v0 10 0).bind fun x12 =>
  (ldA 0 f x12 (16 : Int32)).bind fun x17 =>
  if v2 = (0 : Int32) then
  ((ckO f v0 10).bind fun _ =>
  (f_X10_holding v0 v1 f).bind fun q70 =>
  some (q70.1, q70.2))
  else
  if v2 = (1 : Int32) then
  ((ckO f v0 10).bind fun _ =>
  (f_X10_holding v0 v1 f).bind fun q76 =>
  if q76.1 = (((1 : Int32) <<< (x17 &&& 31)) - (1 : Int32)) then
  (some ((-5 : Int32), q76.2))
  else
  (ckO q76.2 v0 10).bind fun _ =>
  (f_X10_holding v0 v1 q76.2).bind fun q91 =>
  (f_X10_lowest ((((1 : Int32) <<< (x17 &&& 31)) - (1 : Int32)) &&& (q91.1 ^^^ (-1 : Int32))) q91.2).bind fun q97 =>
  some (q97, q91.2))
  else
  if v2 = (2 : Int32) then
  ((ldR f v0 10 0).bind fun x102 =>
  (ldA 0 f x102 ((17 : Int32) + ((31 : Int32) * v1))).bind fun x112 =>
  some (x112, f))
  else
  if v2 = (3 : Int32) then
  ((ckO f v0 10).bind fun _ =>
  (f_X10_different v0 v1 f).bind fun q116 =>
  some (q116.1, q116.2))
  else
  if v2 = (4 : Int32) then
  ((ckO f v0 10).bind fun _ =>
  (f_X10_factsIn v0 v1 f).bind fun q122 =>
  some (q122, f))
  else
  if v2 = (5 : Int32) then
  ((ckO f v0 10).bind fun _ =>
  (f_X10_isFollowing v0 (0 : Int32) v1 f).bind fun q129 =>
  if q129.1 = 0 then
  (some ((0 : Int32), q129.2))
  else
  some ((1 : Int32), q129.2))
  else
  if v2 = (6 : Int32) then
  ((ckO f v0 10).bind fun _ =>
  (f_X10_followsPlainly v0 (0 : Int32) v1 f).bind fun q144 =>
  some (q144.1, q144.2))
  else
  if v2 = (7 : Int32) then
  ((ckO f v0 10).bind fun _ =>
  (f_X10_depth v0 v1 f).bind fun q150 =>
  some (q150.1, q150.2))
  else
  some ((-2 : Int32), f))
  else
  some ((-1 : Int32), f)
section S_X10_claim
variable {p : Program} {l : Launch} {e : Env} {s : State} {m : MethodId} {args : Array Value} {below : List Frame} {meth : Method} {c : Code} {D : mmD} {b0 sz : Nat} {f : mmF}
set_option maxHeartbeats 4000000 in
set_option maxRecDepth 100000 in
theorem w_X10_claim (C0 : CX cX10_claim 4 (some .int) wsX10_claim RX10 p s m args meth c D b0) {v0 : Nat} {v1 : Int32} {v2 : Int32} {res : Int32 × mmF} (h : f_X10_claim v0 v1 v2 f = some res) : ∀ (H : Heap) (locs : List Loc) (ls : Array Slot), MM vwCl D b0 f sz s H → mS b0 s H locs → lv_has ls 4 [(0, .ref v0), (1, .int v1), (2, .int v2)] → W p l e ({ frames := 10, cells := 0, slots := 0, locals := 238 } : Room) s m args below meth c H locs 0 0 (MQ below (QW D b0 (some (.int res.1)) res.2 sz) args s 0 0 (fun q => b0 ≤ q)) (F0 m 0 ls []) := by
  obtain ⟨hx, hb, hr, hml, hown, hts, hlocks, hK⟩ := id C0
  intro H locs ls hM hS hl
  unfold f_X10_claim at h
  refine lv_aload_n hx hb dX10_claim_0 rfl (lv_at hl 0 rfl) ?_
  refine lv_iload_n hx hb dX10_claim_1 rfl (lv_at hl 1 rfl) ?_
  replace h := o_b h; obtain ⟨_, k2, h⟩ := h
  replace h := o_b h; obtain ⟨q2, h2, h⟩ := h
  refine m_call (va_runV (As := [.int v1]) (rest := []) ⟨hx, hb, hml, hown, hts⟩ (c_X10_noClaim l D b0 sz h2) (cwV 1 hts gX10_claim_X10_noClaim rfl rfl rfl (by decide +kernel) ⟨Nat.le_of_ble_eq_true rfl, Nat.le_of_ble_eq_true rfl⟩) ⟨PW.blind, m_recv (ci := 10) rfl hK hM k2, (fun U hU hW => ⟨rfl, PW.call hK hM hS hU hW⟩)⟩ rfl rfl hl.1 rfl (lv_room (Nat.le_of_ble_eq_true rfl)) dX10_claim_2 ⟨(Nat.le_refl _), (Nat.le_refl _)⟩) hS (fun H locs hM hS => ?_)
  refine lv_if_eq (tgt := 10) hx hb dX10_claim_5 (by decide) (fun c5 => ?_) (fun c5 => ?_)
  · replace h := o_t c5 h
    refine lv_iconst (v := (1 : Int32)) hx hb dX10_claim_10 (by decide) ?_
    refine lv_aload_n hx hb dX10_claim_11 rfl (lv_at hl 0 rfl) ?_
    replace h := o_b h; obtain ⟨x12, h12, h⟩ := h
    refine m_get (C := RX10) (T := TX10) (N := 25) (ci := 10) hx hb hts qi_X10_claim_X10 hown hK.1 hM 0 (ldR_F h12) rfl (by decide) (hts _ q_X10_claim_1) (fun _ h9 => h9) dX10_claim_12 ?_
    refine lv_bipush (v := (16 : Int32)) hx hb dX10_claim_15 (by decide) ?_
    replace h := o_b h; obtain ⟨x17, h17, h⟩ := h
    refine m_iald hx hb hK.1 hM hS rfl h17 dX10_claim_17 ?_
    refine lv_ishl hx hb dX10_claim_18 ?_
    refine lv_iconst (v := (1 : Int32)) hx hb dX10_claim_19 (by decide) ?_
    refine lv_isub hx hb dX10_claim_20 ?_
    refine lv_istore_n (lv' := [(3, .int (((1 : Int32) <<< (x17 &&& 31)) - (1 : Int32))), (0, .ref v0), (1, .int v1), (2, .int v2)]) hx hb dX10_claim_21 rfl hl (by decide) rfl (fun ls hl => ?_)
    refine lv_iload_n hx hb dX10_claim_22 rfl (lv_at hl 3 rfl) ?_
    by_cases c23_0 : v2 = (0 : Int32)
    · replace h := o_t c23_0 h
      refine lv_tableIn (tgt := 68) hx hb dX10_claim_23 (by rw [c23_0]; decide) (by rw [c23_0]; decide) (by rw [c23_0]; rfl) (by decide) ?_
      refine lv_aload_n hx hb dX10_claim_68 rfl (lv_at hl 1 rfl) ?_
      refine lv_iload_n hx hb dX10_claim_69 rfl (lv_at hl 2 rfl) ?_
      replace h := o_b h; obtain ⟨_, k70, h⟩ := h
      replace h := o_b h; obtain ⟨q70, h70, h⟩ := h
      refine m_call (va_runV (As := [.int v1]) (rest := []) ⟨hx, hb, hml, hown, hts⟩ (c_X10_holding l D b0 sz h70) (cwV 1 hts gX10_claim_X10_holding rfl rfl rfl (by decide +kernel) ⟨Nat.le_of_ble_eq_true rfl, Nat.le_of_ble_eq_true rfl⟩) ⟨PW.blind, m_recv (ci := 10) rfl hK hM k70, (fun U hU hW => ⟨rfl, PW.call hK hM hS hU hW⟩)⟩ rfl rfl hl.1 rfl (lv_room (Nat.le_of_ble_eq_true rfl)) dX10_claim_70 ⟨(Nat.le_refl _), (Nat.le_refl _)⟩) hS (fun H locs hM hS => ?_)
      replace h := Option.some.inj h; subst h
      exact W.iret hx hb hr (fun t ht hW => ⟨rfl, by rw [ht]; exact hM.moved hW.alike, hS.F ht⟩) hS.2.2 dX10_claim_73
    replace h := o_f c23_0 h
    by_cases c23_1 : v2 = (1 : Int32)
    · replace h := o_t c23_1 h
      refine lv_tableIn (tgt := 74) hx hb dX10_claim_23 (by rw [c23_1]; decide) (by rw [c23_1]; decide) (by rw [c23_1]; rfl) (by decide) ?_
      refine lv_aload_n hx hb dX10_claim_74 rfl (lv_at hl 1 rfl) ?_
      refine lv_iload_n hx hb dX10_claim_75 rfl (lv_at hl 2 rfl) ?_
      replace h := o_b h; obtain ⟨_, k76, h⟩ := h
      replace h := o_b h; obtain ⟨q76, h76, h⟩ := h
      refine m_call (va_runV (As := [.int v1]) (rest := []) ⟨hx, hb, hml, hown, hts⟩ (c_X10_holding l D b0 sz h76) (cwV 1 hts gX10_claim_X10_holding rfl rfl rfl (by decide +kernel) ⟨Nat.le_of_ble_eq_true rfl, Nat.le_of_ble_eq_true rfl⟩) ⟨PW.blind, m_recv (ci := 10) rfl hK hM k76, (fun U hU hW => ⟨rfl, PW.call hK hM hS hU hW⟩)⟩ rfl rfl hl.1 rfl (lv_room (Nat.le_of_ble_eq_true rfl)) dX10_claim_76 ⟨(Nat.le_refl _), (Nat.le_refl _)⟩) hS (fun H locs hM hS => ?_)
      refine lv_iload_n hx hb dX10_claim_79 rfl (lv_at hl 0 rfl) ?_
      refine lv_icmp_ne (tgt := 88) hx hb dX10_claim_80 (by decide) (fun c80 => ?_) (fun c80 => ?_)
      · replace h := o_f c80 h
        refine lv_iload_n hx hb dX10_claim_88 rfl (lv_at hl 0 rfl) ?_
        refine lv_aload_n hx hb dX10_claim_89 rfl (lv_at hl 1 rfl) ?_
        refine lv_iload_n hx hb dX10_claim_90 rfl (lv_at hl 2 rfl) ?_
        replace h := o_b h; obtain ⟨_, k91, h⟩ := h
        replace h := o_b h; obtain ⟨q91, h91, h⟩ := h
        refine m_call (va_runV (As := [.int v1]) (rest := [.int (((1 : Int32) <<< (x17 &&& 31)) - (1 : Int32))]) ⟨hx, hb, hml, hown, hts⟩ (c_X10_holding l D b0 sz h91) (cwV 1 hts gX10_claim_X10_holding rfl rfl rfl (by decide +kernel) ⟨Nat.le_of_ble_eq_true rfl, Nat.le_of_ble_eq_true rfl⟩) ⟨PW.blind, m_recv (ci := 10) rfl hK hM k91, (fun U hU hW => ⟨rfl, PW.call hK hM hS hU hW⟩)⟩ rfl rfl hl.1 rfl (lv_room (Nat.le_of_ble_eq_true rfl)) dX10_claim_91 ⟨(Nat.le_refl _), (Nat.le_refl _)⟩) hS (fun H locs hM hS => ?_)
        refine lv_iconst (v := (-1 : Int32)) hx hb dX10_claim_94 (by decide) ?_
        refine lv_ixor hx hb dX10_claim_95 ?_
        refine lv_iand hx hb dX10_claim_96 ?_
        replace h := o_b h; obtain ⟨q97, h97, h⟩ := h
        refine m_call (va_runS (As := [.int ((((1 : Int32) <<< (x17 &&& 31)) - (1 : Int32)) &&& (q91.1 ^^^ (-1 : Int32)))]) (rest := []) ⟨hx, hb, hml, hown, hts⟩ (c_X10_lowest l D b0 sz h97) (va_cwS 1 hts gX10_claim_X10_lowest rfl rfl rfl (by decide +kernel) ⟨Nat.le_of_ble_eq_true rfl, Nat.le_of_ble_eq_true rfl⟩) ⟨PW.blind, (fun U hU hW => ⟨rfl, PW.call hK hM hS hU hW⟩)⟩ rfl rfl hl.1 rfl (lv_room (Nat.le_of_ble_eq_true rfl)) dX10_claim_97 ⟨(Nat.le_refl _), (Nat.le_refl _)⟩) hS (fun H locs hM hS => ?_)
        replace h := Option.some.inj h; subst h
        exact W.iret hx hb hr (fun t ht hW => ⟨rfl, by rw [ht]; exact hM.moved hW.alike, hS.F ht⟩) hS.2.2 dX10_claim_100
      replace h := o_t c80 h
      refine lv_bipush (v := (-5 : Int32)) hx hb dX10_claim_83 (by decide) ?_
      refine lv_goto (tgt := 100) hx hb dX10_claim_85 (by decide) ?_
      replace h := Option.some.inj h; subst h
      exact W.iret hx hb hr (fun t ht hW => ⟨rfl, by rw [ht]; exact hM.moved hW.alike, hS.F ht⟩) hS.2.2 dX10_claim_100
    replace h := o_f c23_1 h
    by_cases c23_2 : v2 = (2 : Int32)
    · replace h := o_t c23_2 h
      refine lv_tableIn (tgt := 101) hx hb dX10_claim_23 (by rw [c23_2]; decide) (by rw [c23_2]; decide) (by rw [c23_2]; rfl) (by decide) ?_
      refine lv_aload_n hx hb dX10_claim_101 rfl (lv_at hl 1 rfl) ?_
      replace h := o_b h; obtain ⟨x102, h102, h⟩ := h
      refine m_get (C := RX10) (T := TX10) (N := 25) (ci := 10) hx hb hts qi_X10_claim_X10 hown hK.1 hM 0 (ldR_F h102) rfl (by decide) (hts _ q_X10_claim_1) (fun _ h9 => h9) dX10_claim_102 ?_
      refine lv_bipush (v := (17 : Int32)) hx hb dX10_claim_105 (by decide) ?_
      refine lv_bipush (v := (31 : Int32)) hx hb dX10_claim_107 (by decide) ?_
      refine lv_iload_n hx hb dX10_claim_109 rfl (lv_at hl 2 rfl) ?_
      refine lv_imul hx hb dX10_claim_110 ?_
      refine lv_iadd hx hb dX10_claim_111 ?_
      replace h := o_b h; obtain ⟨x112, h112, h⟩ := h
      refine m_iald hx hb hK.1 hM hS rfl h112 dX10_claim_112 ?_
      replace h := Option.some.inj h; subst h
      exact W.iret hx hb hr (fun t ht hW => ⟨rfl, by rw [ht]; exact hM.moved hW.alike, hS.F ht⟩) hS.2.2 dX10_claim_113
    replace h := o_f c23_2 h
    by_cases c23_3 : v2 = (3 : Int32)
    · replace h := o_t c23_3 h
      refine lv_tableIn (tgt := 114) hx hb dX10_claim_23 (by rw [c23_3]; decide) (by rw [c23_3]; decide) (by rw [c23_3]; rfl) (by decide) ?_
      refine lv_aload_n hx hb dX10_claim_114 rfl (lv_at hl 1 rfl) ?_
      refine lv_iload_n hx hb dX10_claim_115 rfl (lv_at hl 2 rfl) ?_
      replace h := o_b h; obtain ⟨_, k116, h⟩ := h
      replace h := o_b h; obtain ⟨q116, h116, h⟩ := h
      refine m_call (va_runV (As := [.int v1]) (rest := []) ⟨hx, hb, hml, hown, hts⟩ (c_X10_different l D b0 sz h116) (cwV 1 hts gX10_claim_X10_different rfl rfl rfl (by decide +kernel) ⟨Nat.le_of_ble_eq_true rfl, Nat.le_of_ble_eq_true rfl⟩) ⟨PW.blind, m_recv (ci := 10) rfl hK hM k116, (fun U hU hW => ⟨rfl, PW.call hK hM hS hU hW⟩)⟩ rfl rfl hl.1 rfl (lv_room (Nat.le_of_ble_eq_true rfl)) dX10_claim_116 ⟨(Nat.le_refl _), (Nat.le_refl _)⟩) hS (fun H locs hM hS => ?_)
      replace h := Option.some.inj h; subst h
      exact W.iret hx hb hr (fun t ht hW => ⟨rfl, by rw [ht]; exact hM.moved hW.alike, hS.F ht⟩) hS.2.2 dX10_claim_119
    replace h := o_f c23_3 h
    by_cases c23_4 : v2 = (4 : Int32)
    · replace h := o_t c23_4 h
      refine lv_tableIn (tgt := 120) hx hb dX10_claim_23 (by rw [c23_4]; decide) (by rw [c23_4]; decide) (by rw [c23_4]; rfl) (by decide) ?_
      refine lv_aload_n hx hb dX10_claim_120 rfl (lv_at hl 1 rfl) ?_
      refine lv_iload_n hx hb dX10_claim_121 rfl (lv_at hl 2 rfl) ?_
      replace h := o_b h; obtain ⟨_, k122, h⟩ := h
      replace h := o_b h; obtain ⟨q122, h122, h⟩ := h
      refine m_call (va_runV (As := [.int v1]) (rest := []) ⟨hx, hb, hml, hown, hts⟩ (c_X10_factsIn l D b0 sz h122) (cwV 1 hts gX10_claim_X10_factsIn rfl rfl rfl (by decide +kernel) ⟨Nat.le_of_ble_eq_true rfl, Nat.le_of_ble_eq_true rfl⟩) ⟨PW.blind, m_recv (ci := 10) rfl hK hM k122, (fun U hU hW => ⟨rfl, PW.call hK hM hS hU hW⟩)⟩ rfl rfl hl.1 rfl (lv_room (Nat.le_of_ble_eq_true rfl)) dX10_claim_122 ⟨(Nat.le_refl _), (Nat.le_refl _)⟩) hS (fun H locs hM hS => ?_)
      replace h := Option.some.inj h; subst h
      exact W.iret hx hb hr (fun t ht hW => ⟨rfl, by rw [ht]; exact hM.moved hW.alike, hS.F ht⟩) hS.2.2 dX10_claim_125
    replace h := o_f c23_4 h
    by_cases c23_5 : v2 = (5 : Int32)
    · replace h := o_t c23_5 h
      refine lv_tableIn (tgt := 126) hx hb dX10_claim_23 (by rw [c23_5]; decide) (by rw [c23_5]; decide) (by rw [c23_5]; rfl) (by decide) ?_
      refine lv_aload_n hx hb dX10_claim_126 rfl (lv_at hl 1 rfl) ?_
      refine lv_iconst (v := (0 : Int32)) hx hb dX10_claim_127 (by decide) ?_
      refine lv_iload_n hx hb dX10_claim_128 rfl (lv_at hl 2 rfl) ?_
      replace h := o_b h; obtain ⟨_, k129, h⟩ := h
      replace h := o_b h; obtain ⟨q129, h129, h⟩ := h
      refine m_call (va_runV (As := [.int (0 : Int32), .int v1]) (rest := []) ⟨hx, hb, hml, hown, hts⟩ (c_X10_isFollowing l D b0 sz h129) (cwV 2 hts gX10_claim_X10_isFollowing rfl rfl rfl (by decide +kernel) ⟨Nat.le_of_ble_eq_true rfl, Nat.le_of_ble_eq_true rfl⟩) ⟨PW.blind, m_recv (ci := 10) rfl hK hM k129, (fun U hU hW => ⟨rfl, PW.call hK hM hS hU hW⟩)⟩ rfl rfl hl.1 rfl (lv_room (Nat.le_of_ble_eq_true rfl)) dX10_claim_129 ⟨(Nat.le_refl _), (Nat.le_refl _)⟩) hS (fun H locs hM hS => ?_)
      refine lv_if_eq (tgt := 139) hx hb dX10_claim_132 (by decide) (fun c132 => ?_) (fun c132 => ?_)
      · replace h := o_t c132 h
        refine lv_iconst (v := (0 : Int32)) hx hb dX10_claim_139 (by decide) ?_
        replace h := Option.some.inj h; subst h
        exact W.iret hx hb hr (fun t ht hW => ⟨rfl, by rw [ht]; exact hM.moved hW.alike, hS.F ht⟩) hS.2.2 dX10_claim_140
      replace h := o_f c132 h
      refine lv_iconst (v := (1 : Int32)) hx hb dX10_claim_135 (by decide) ?_
      refine lv_goto (tgt := 140) hx hb dX10_claim_136 (by decide) ?_
      replace h := Option.some.inj h; subst h
      exact W.iret hx hb hr (fun t ht hW => ⟨rfl, by rw [ht]; exact hM.moved hW.alike, hS.F ht⟩) hS.2.2 dX10_claim_140
    replace h := o_f c23_5 h
    by_cases c23_6 : v2 = (6 : Int32)
    · replace h := o_t c23_6 h
      refine lv_tableIn (tgt := 141) hx hb dX10_claim_23 (by rw [c23_6]; decide) (by rw [c23_6]; decide) (by rw [c23_6]; rfl) (by decide) ?_
      refine lv_aload_n hx hb dX10_claim_141 rfl (lv_at hl 1 rfl) ?_
      refine lv_iconst (v := (0 : Int32)) hx hb dX10_claim_142 (by decide) ?_
      refine lv_iload_n hx hb dX10_claim_143 rfl (lv_at hl 2 rfl) ?_
      replace h := o_b h; obtain ⟨_, k144, h⟩ := h
      replace h := o_b h; obtain ⟨q144, h144, h⟩ := h
      refine m_call (va_runV (As := [.int (0 : Int32), .int v1]) (rest := []) ⟨hx, hb, hml, hown, hts⟩ (c_X10_followsPlainly l D b0 sz h144) (cwV 2 hts gX10_claim_X10_followsPlainly rfl rfl rfl (by decide +kernel) ⟨Nat.le_of_ble_eq_true rfl, Nat.le_of_ble_eq_true rfl⟩) ⟨PW.blind, m_recv (ci := 10) rfl hK hM k144, (fun U hU hW => ⟨rfl, PW.call hK hM hS hU hW⟩)⟩ rfl rfl hl.1 rfl (lv_room (Nat.le_of_ble_eq_true rfl)) dX10_claim_144 ⟨(Nat.le_refl _), (Nat.le_refl _)⟩) hS (fun H locs hM hS => ?_)
      replace h := Option.some.inj h; subst h
      exact W.iret hx hb hr (fun t ht hW => ⟨rfl, by rw [ht]; exact hM.moved hW.alike, hS.F ht⟩) hS.2.2 dX10_claim_147
    replace h := o_f c23_6 h
    by_cases c23_7 : v2 = (7 : Int32)
    · replace h := o_t c23_7 h
      refine lv_tableIn (tgt := 148) hx hb dX10_claim_23 (by rw [c23_7]; decide) (by rw [c23_7]; decide) (by rw [c23_7]; rfl) (by decide) ?_
      refine lv_aload_n hx hb dX10_claim_148 rfl (lv_at hl 1 rfl) ?_
      refine lv_iload_n hx hb dX10_claim_149 rfl (lv_at hl 2 rfl) ?_
      replace h := o_b h; obtain ⟨_, k150, h⟩ := h
      replace h := o_b h; obtain ⟨q150, h150, h⟩ := h
      refine m_call (va_runV (As := [.int v1]) (rest := []) ⟨hx, hb, hml, hown, hts⟩ (c_X10_depth l D b0 sz h150) (cwV 1 hts gX10_claim_X10_depth rfl rfl rfl (by decide +kernel) ⟨Nat.le_of_ble_eq_true rfl, Nat.le_of_ble_eq_true rfl⟩) ⟨PW.blind, m_recv (ci := 10) rfl hK hM k150, (fun U hU hW => ⟨rfl, PW.call hK hM hS hU hW⟩)⟩ rfl rfl hl.1 rfl (lv_room (Nat.le_of_ble_eq_true rfl)) dX10_claim_150 ⟨(Nat.le_refl _), (Nat.le_refl _)⟩) hS (fun H locs hM hS => ?_)
      replace h := Option.some.inj h; subst h
      exact W.iret hx hb hr (fun t ht hW => ⟨rfl, by rw [ht]; exact hM.moved hW.alike, hS.F ht⟩) hS.2.2 dX10_claim_153
    replace h := o_f c23_7 h
    refine lv_tableOut (tgt := 154) hx hb dX10_claim_23 (by have n0 := lv_neT c23_0 (a := 0) (by decide); have n1 := lv_neT c23_1 (a := 1) (by decide); have n2 := lv_neT c23_2 (a := 2) (by decide); have n3 := lv_neT c23_3 (a := 3) (by decide); have n4 := lv_neT c23_4 (a := 4) (by decide); have n5 := lv_neT c23_5 (a := 5) (by decide); have n6 := lv_neT c23_6 (a := 6) (by decide); have n7 := lv_neT c23_7 (a := 7) (by decide); omega) (by decide) ?_
    refine lv_bipush (v := (-2 : Int32)) hx hb dX10_claim_154 (by decide) ?_
    replace h := Option.some.inj h; subst h
    exact W.iret hx hb hr (fun t ht hW => ⟨rfl, by rw [ht]; exact hM.moved hW.alike, hS.F ht⟩) hS.2.2 dX10_claim_156
  replace h := o_f c5 h
  refine lv_iconst (v := (-1 : Int32)) hx hb dX10_claim_8 (by decide) ?_
  replace h := Option.some.inj h; subst h
  exact W.iret hx hb hr (fun t ht hW => ⟨rfl, by rw [ht]; exact hM.moved hW.alike, hS.F ht⟩) hS.2.2 dX10_claim_9
set_option maxHeartbeats 4000000 in
set_option maxRecDepth 100000 in
theorem c_X10_claim (l : Launch) (D : mmD) (b0 sz : Nat) {v0 : Nat} {v1 : Int32} {v2 : Int32} {f : mmF} {res : Int32 × mmF} (h : f_X10_claim v0 v1 v2 f = some res) : Met l yX10_claim wsX10_claim ({ frames := 10, cells := 0, slots := 0, locals := 238 } : Room) (va_Pc [.ref v0, .int v1, .int v2] (PW D b0 f sz)) (QW D b0 (some (.int res.1)) res.2 sz) 0 0 (fun q => b0 ≤ q) := by
  refine Met.ofW (cc := cX10_claim) (maxL := 4) (ret := (some .int)) (by decide) rfl ?_
  intro p e s m args below meth c s₁ B hml hv
  obtain ⟨rfl, hM, hK⟩ := hv
  have hl := lv_entry ([.ref v0, .int v1, .int v2]) (n := 4) (Nat.le_of_ble_eq_true rfl)
  rw [lg_entry_eq]
  generalize (lg_sl ([.ref v0, .int v1, .int v2]) ++ List.replicate (4 - (lg_sl ([.ref v0, .int v1, .int v2])).length) Slot.unset).toArray = ls at hl ⊢
  have hl : lv_has ls 4 [(0, .ref v0), (1, .int v1), (2, .int v2)] := hl
  exact w_X10_claim ⟨B.exec, B.bytes, B.returns, hml, findClass_of_methodNamed B.named, atoms_spec (ws := wsX10_claim) B.pre, B.notSynchronized, hK⟩ h s.heap [] ls hM va_S.rf hl
end S_X10_claim
/-! X10_holds -/
noncomputable def f_X10_holds (v0 : Nat) (v1 : Int32) (v2 : Int32) (f : mmF) : Option (Int32 × mmF) :=
  (ckO f v0 10).bind fun _ =>
  (f_X10_noClaim v0 v1 f).bind fun q2 =>
  if q2 = 0 then
  ((ckO f v0 10).bind fun _ =>
  (f_X10_noStage v0 v2 f).bind fun q10 =>
  if q10 = 0 then
  ((ckO f v0 10).bind fun _ =>
  (f_X10_holding v0 v1 f).bind fun q22 =>
  some (((q22.1 >>> (v2 &&& 31)) &&& (1 : Int32)), q22.2))
  else
  some ((-1 : Int32), f))
  else
  some ((-1 : Int32), f)
section S_X10_holds
variable {p : Program} {l : Launch} {e : Env} {s : State} {m : MethodId} {args : Array Value} {below : List Frame} {meth : Method} {c : Code} {D : mmD} {b0 sz : Nat} {f : mmF}
set_option maxHeartbeats 4000000 in
set_option maxRecDepth 100000 in
theorem w_X10_holds (C0 : CX cX10_holds 3 (some .int) wsX10_holds RX10 p s m args meth c D b0) {v0 : Nat} {v1 : Int32} {v2 : Int32} {res : Int32 × mmF} (h : f_X10_holds v0 v1 v2 f = some res) : ∀ (H : Heap) (locs : List Loc) (ls : Array Slot), MM vwCl D b0 f sz s H → mS b0 s H locs → lv_has ls 3 [(0, .ref v0), (1, .int v1), (2, .int v2)] → W p l e ({ frames := 3, cells := 0, slots := 0, locals := 63 } : Room) s m args below meth c H locs 0 0 (MQ below (QW D b0 (some (.int res.1)) res.2 sz) args s 0 0 (fun q => b0 ≤ q)) (F0 m 0 ls []) := by
  obtain ⟨hx, hb, hr, hml, hown, hts, hlocks, hK⟩ := id C0
  intro H locs ls hM hS hl
  unfold f_X10_holds at h
  refine lv_aload_n hx hb dX10_holds_0 rfl (lv_at hl 0 rfl) ?_
  refine lv_iload_n hx hb dX10_holds_1 rfl (lv_at hl 1 rfl) ?_
  replace h := o_b h; obtain ⟨_, k2, h⟩ := h
  replace h := o_b h; obtain ⟨q2, h2, h⟩ := h
  refine m_call (va_runV (As := [.int v1]) (rest := []) ⟨hx, hb, hml, hown, hts⟩ (c_X10_noClaim l D b0 sz h2) (cwV 1 hts gX10_holds_X10_noClaim rfl rfl rfl (by decide +kernel) ⟨Nat.le_of_ble_eq_true rfl, Nat.le_of_ble_eq_true rfl⟩) ⟨PW.blind, m_recv (ci := 10) rfl hK hM k2, (fun U hU hW => ⟨rfl, PW.call hK hM hS hU hW⟩)⟩ rfl rfl hl.1 rfl (lv_room (Nat.le_of_ble_eq_true rfl)) dX10_holds_2 ⟨(Nat.le_refl _), (Nat.le_refl _)⟩) hS (fun H locs hM hS => ?_)
  refine lv_if_ne (tgt := 16) hx hb dX10_holds_5 (by decide) (fun c5 => ?_) (fun c5 => ?_)
  · replace h := o_f c5 h
    refine lv_iconst (v := (-1 : Int32)) hx hb dX10_holds_16 (by decide) ?_
    refine lv_goto (tgt := 29) hx hb dX10_holds_17 (by decide) ?_
    replace h := Option.some.inj h; subst h
    exact W.iret hx hb hr (fun t ht hW => ⟨rfl, by rw [ht]; exact hM.moved hW.alike, hS.F ht⟩) hS.2.2 dX10_holds_29
  replace h := o_t c5 h
  refine lv_aload_n hx hb dX10_holds_8 rfl (lv_at hl 0 rfl) ?_
  refine lv_iload_n hx hb dX10_holds_9 rfl (lv_at hl 2 rfl) ?_
  replace h := o_b h; obtain ⟨_, k10, h⟩ := h
  replace h := o_b h; obtain ⟨q10, h10, h⟩ := h
  refine m_call (va_runV (As := [.int v2]) (rest := []) ⟨hx, hb, hml, hown, hts⟩ (c_X10_noStage l D b0 sz h10) (cwV 1 hts gX10_holds_X10_noStage rfl rfl rfl (by decide +kernel) ⟨Nat.le_of_ble_eq_true rfl, Nat.le_of_ble_eq_true rfl⟩) ⟨PW.blind, m_recv (ci := 10) rfl hK hM k10, (fun U hU hW => ⟨rfl, PW.call hK hM hS hU hW⟩)⟩ rfl rfl hl.1 rfl (lv_room (Nat.le_of_ble_eq_true rfl)) dX10_holds_10 ⟨(Nat.le_refl _), (Nat.le_refl _)⟩) hS (fun H locs hM hS => ?_)
  refine lv_if_eq (tgt := 20) hx hb dX10_holds_13 (by decide) (fun c13 => ?_) (fun c13 => ?_)
  · replace h := o_t c13 h
    refine lv_aload_n hx hb dX10_holds_20 rfl (lv_at hl 0 rfl) ?_
    refine lv_iload_n hx hb dX10_holds_21 rfl (lv_at hl 1 rfl) ?_
    replace h := o_b h; obtain ⟨_, k22, h⟩ := h
    replace h := o_b h; obtain ⟨q22, h22, h⟩ := h
    refine m_call (va_runV (As := [.int v1]) (rest := []) ⟨hx, hb, hml, hown, hts⟩ (c_X10_holding l D b0 sz h22) (cwV 1 hts gX10_holds_X10_holding rfl rfl rfl (by decide +kernel) ⟨Nat.le_of_ble_eq_true rfl, Nat.le_of_ble_eq_true rfl⟩) ⟨PW.blind, m_recv (ci := 10) rfl hK hM k22, (fun U hU hW => ⟨rfl, PW.call hK hM hS hU hW⟩)⟩ rfl rfl hl.1 rfl (lv_room (Nat.le_of_ble_eq_true rfl)) dX10_holds_22 ⟨(Nat.le_refl _), (Nat.le_refl _)⟩) hS (fun H locs hM hS => ?_)
    refine lv_iload_n hx hb dX10_holds_25 rfl (lv_at hl 2 rfl) ?_
    refine lv_ishr hx hb dX10_holds_26 ?_
    refine lv_iconst (v := (1 : Int32)) hx hb dX10_holds_27 (by decide) ?_
    refine lv_iand hx hb dX10_holds_28 ?_
    replace h := Option.some.inj h; subst h
    exact W.iret hx hb hr (fun t ht hW => ⟨rfl, by rw [ht]; exact hM.moved hW.alike, hS.F ht⟩) hS.2.2 dX10_holds_29
  replace h := o_f c13 h
  refine lv_iconst (v := (-1 : Int32)) hx hb dX10_holds_16 (by decide) ?_
  refine lv_goto (tgt := 29) hx hb dX10_holds_17 (by decide) ?_
  replace h := Option.some.inj h; subst h
  exact W.iret hx hb hr (fun t ht hW => ⟨rfl, by rw [ht]; exact hM.moved hW.alike, hS.F ht⟩) hS.2.2 dX10_holds_29
set_option maxHeartbeats 4000000 in
set_option maxRecDepth 100000 in
theorem c_X10_holds (l : Launch) (D : mmD) (b0 sz : Nat) {v0 : Nat} {v1 : Int32} {v2 : Int32} {f : mmF} {res : Int32 × mmF} (h : f_X10_holds v0 v1 v2 f = some res) : Met l yX10_holds wsX10_holds ({ frames := 3, cells := 0, slots := 0, locals := 63 } : Room) (va_Pc [.ref v0, .int v1, .int v2] (PW D b0 f sz)) (QW D b0 (some (.int res.1)) res.2 sz) 0 0 (fun q => b0 ≤ q) := by
  refine Met.ofW (cc := cX10_holds) (maxL := 3) (ret := (some .int)) (by decide) rfl ?_
  intro p e s m args below meth c s₁ B hml hv
  obtain ⟨rfl, hM, hK⟩ := hv
  have hl := lv_entry ([.ref v0, .int v1, .int v2]) (n := 3) (Nat.le_of_ble_eq_true rfl)
  rw [lg_entry_eq]
  generalize (lg_sl ([.ref v0, .int v1, .int v2]) ++ List.replicate (3 - (lg_sl ([.ref v0, .int v1, .int v2])).length) Slot.unset).toArray = ls at hl ⊢
  have hl : lv_has ls 3 [(0, .ref v0), (1, .int v1), (2, .int v2)] := hl
  exact w_X10_holds ⟨B.exec, B.bytes, B.returns, hml, findClass_of_methodNamed B.named, atoms_spec (ws := wsX10_holds) B.pre, B.notSynchronized, hK⟩ h s.heap [] ls hM va_S.rf hl
end S_X10_holds
/-! X10_unlike -/
set_option maxRecDepth 20000 in
theorem qi_X10_unlike_X10 : ∀ w ∈ u_ws RX10 TX10 25, w ∈ wsX10_unlike := by decide +kernel
set_option maxRecDepth 20000 in
theorem q_X10_unlike_1 : Cond.fieldLink RX10 7 "StageTruthsModel" "now" "[I" ∈ wsX10_unlike := by decide +kernel
set_option maxRecDepth 20000 in
theorem q_X10_unlike_2 : Cond.fieldLink RX10 19 "StageTruthsModel" "like" "[I" ∈ wsX10_unlike := by decide +kernel
noncomputable def f_X10_unlike_38 (k8 : Nat → Int32 → Int32 → mmF → Option (Int32 × mmF))  (v0 : Nat) (v2 : Int32) (t0 : Int32) (t1 : Int32) (f : mmF) : Option (Int32 × mmF) :=
  k8 v0 (t0 + t1) (v2 + (1 : Int32)) f
noncomputable def f_X10_unlike_8   : Nat → Nat → Int32 → Int32 → mmF → Option (Int32 × mmF)
  | 0, _, _, _, _ => none
  | n + 1, v0, v1, v2, f =>
    (ldR f v0 10 0).bind fun x10 =>
    (ldA 0 f x10 (16 : Int32)).bind fun x15 =>
    if x15 ≤ v2 then
    (some (v1, f))
    else
    (ldR f v0 10 5).bind fun x21 =>
    (ldA 0 f x21 v2).bind fun x25 =>
    (f_X10_lowest x25 f).bind fun q26 =>
    if q26 = v2 then
    (f_X10_unlike_38 (fun a0 a1 a2 a3 => f_X10_unlike_8 n a0 a1 a2 a3) v0 v2 v1 (1 : Int32) f)
    else
    f_X10_unlike_38 (fun a0 a1 a2 a3 => f_X10_unlike_8 n a0 a1 a2 a3) v0 v2 v1 (0 : Int32) f
noncomputable def f_X10_unlike (v0 : Nat) (f : mmF) : Option (Int32 × mmF) :=
  (ckO f v0 10).bind fun _ =>
  (f_X10_findsLike v0 f).bind fun q1 =>
  f_X10_unlike_8 FU v0 (0 : Int32) (0 : Int32) q1
section S_X10_unlike
variable {p : Program} {l : Launch} {e : Env} {s : State} {m : MethodId} {args : Array Value} {below : List Frame} {meth : Method} {c : Code} {D : mmD} {b0 sz : Nat} {f : mmF}
set_option maxHeartbeats 4000000 in
set_option maxRecDepth 100000 in
theorem w_X10_unlike_38 (C0 : CX cX10_unlike 3 (some .int) wsX10_unlike RX10 p s m args meth c D b0) {k8 : Nat → Int32 → Int32 → mmF → Option (Int32 × mmF)} {res : Int32 × mmF} (hk8 : ∀ (v0 : Nat) (v1 : Int32) (v2 : Int32) (f : mmF), k8 v0 v1 v2 f = some res → ∀ (H : Heap) (locs : List Loc) (ls : Array Slot), MM vwCl D b0 f sz s H → mS b0 s H locs → lv_has ls 3 [(0, .ref v0), (1, .int v1), (2, .int v2)] → W p l e ({ frames := 3, cells := 0, slots := 0, locals := 69 } : Room) s m args below meth c H locs 0 0 (MQ below (QW D b0 (some (.int res.1)) res.2 sz) args s 0 0 (fun q => b0 ≤ q)) (F0 m 8 ls [])) : ∀ (v0 : Nat) (v2 : Int32) (t0 : Int32) (t1 : Int32) (f : mmF), f_X10_unlike_38 k8 v0 v2 t0 t1 f = some res → ∀ (H : Heap) (locs : List Loc) (ls : Array Slot), MM vwCl D b0 f sz s H → mS b0 s H locs → lv_has ls 3 [(0, .ref v0), (2, .int v2)] → W p l e ({ frames := 3, cells := 0, slots := 0, locals := 69 } : Room) s m args below meth c H locs 0 0 (MQ below (QW D b0 (some (.int res.1)) res.2 sz) args s 0 0 (fun q => b0 ≤ q)) (F0 m 38 ls [.int t1, .int t0]) := by
  obtain ⟨hx, hb, hr, hml, hown, hts, hlocks, hK⟩ := id C0
  intro v0 v2 t0 t1 f h H locs ls hM hS hl
  unfold f_X10_unlike_38 at h
  refine lv_iadd hx hb dX10_unlike_38 ?_
  refine lv_istore_n (lv' := [(1, .int (t0 + t1)), (0, .ref v0), (2, .int v2)]) hx hb dX10_unlike_39 rfl hl (by decide) rfl (fun ls hl => ?_)
  refine lv_iinc (v := (v2 + (1 : Int32))) (lv' := [(2, .int (v2 + (1 : Int32))), (1, .int (t0 + t1)), (0, .ref v0)]) hx hb dX10_unlike_40 hl (k := 2) rfl rfl (by decide) rfl (fun ls hl => ?_)
  refine lv_goto (tgt := 8) hx hb dX10_unlike_43 (by decide) ?_
  exact hk8 _ _ _ _ h _ _ _ hM hS (lv_sub hl [2, 1, 0] rfl)
set_option maxHeartbeats 4000000 in
set_option maxRecDepth 100000 in
theorem w_X10_unlike_8 (C0 : CX cX10_unlike 3 (some .int) wsX10_unlike RX10 p s m args meth c D b0) {res : Int32 × mmF} : ∀ (n : Nat), ∀ (v0 : Nat) (v1 : Int32) (v2 : Int32) (f : mmF), f_X10_unlike_8 n v0 v1 v2 f = some res → ∀ (H : Heap) (locs : List Loc) (ls : Array Slot), MM vwCl D b0 f sz s H → mS b0 s H locs → lv_has ls 3 [(0, .ref v0), (1, .int v1), (2, .int v2)] → W p l e ({ frames := 3, cells := 0, slots := 0, locals := 69 } : Room) s m args below meth c H locs 0 0 (MQ below (QW D b0 (some (.int res.1)) res.2 sz) args s 0 0 (fun q => b0 ≤ q)) (F0 m 8 ls []) := by
  obtain ⟨hx, hb, hr, hml, hown, hts, hlocks, hK⟩ := id C0
  intro n
  induction n with
  | zero =>
    intro v0 v1 v2 f h
    have h : (none : Option (Int32 × mmF)) = some res := h
    cases h
  | succ n ih =>
    intro v0 v1 v2 f h H locs ls hM hS hl
    rw [f_X10_unlike_8] at h
    refine lv_iload_n hx hb dX10_unlike_8 rfl (lv_at hl 2 rfl) ?_
    refine lv_aload_n hx hb dX10_unlike_9 rfl (lv_at hl 0 rfl) ?_
    replace h := o_b h; obtain ⟨x10, h10, h⟩ := h
    refine m_get (C := RX10) (T := TX10) (N := 25) (ci := 10) hx hb hts qi_X10_unlike_X10 hown hK.1 hM 0 (ldR_F h10) rfl (by decide) (hts _ q_X10_unlike_1) (fun _ h9 => h9) dX10_unlike_10 ?_
    refine lv_bipush (v := (16 : Int32)) hx hb dX10_unlike_13 (by decide) ?_
    replace h := o_b h; obtain ⟨x15, h15, h⟩ := h
    refine m_iald hx hb hK.1 hM hS rfl h15 dX10_unlike_15 ?_
    refine lv_icmp_ge (tgt := 46) hx hb dX10_unlike_16 (by decide) (fun c16 => ?_) (fun c16 => ?_)
    · replace h := o_t c16 h
      refine lv_iload_n hx hb dX10_unlike_46 rfl (lv_at hl 1 rfl) ?_
      replace h := Option.some.inj h; subst h
      exact W.iret hx hb hr (fun t ht hW => ⟨rfl, by rw [ht]; exact hM.moved hW.alike, hS.F ht⟩) hS.2.2 dX10_unlike_47
    replace h := o_f c16 h
    refine lv_iload_n hx hb dX10_unlike_19 rfl (lv_at hl 1 rfl) ?_
    refine lv_aload_n hx hb dX10_unlike_20 rfl (lv_at hl 0 rfl) ?_
    replace h := o_b h; obtain ⟨x21, h21, h⟩ := h
    refine m_get (C := RX10) (T := TX10) (N := 25) (ci := 10) hx hb hts qi_X10_unlike_X10 hown hK.1 hM 5 (ldR_F h21) rfl (by decide) (hts _ q_X10_unlike_2) (fun _ h9 => h9) dX10_unlike_21 ?_
    refine lv_iload_n hx hb dX10_unlike_24 rfl (lv_at hl 2 rfl) ?_
    replace h := o_b h; obtain ⟨x25, h25, h⟩ := h
    refine m_iald hx hb hK.1 hM hS rfl h25 dX10_unlike_25 ?_
    replace h := o_b h; obtain ⟨q26, h26, h⟩ := h
    refine m_call (va_runS (As := [.int x25]) (rest := [.int v1]) ⟨hx, hb, hml, hown, hts⟩ (c_X10_lowest l D b0 sz h26) (va_cwS 1 hts gX10_unlike_X10_lowest rfl rfl rfl (by decide +kernel) ⟨Nat.le_of_ble_eq_true rfl, Nat.le_of_ble_eq_true rfl⟩) ⟨PW.blind, (fun U hU hW => ⟨rfl, PW.call hK hM hS hU hW⟩)⟩ rfl rfl hl.1 rfl (lv_room (Nat.le_of_ble_eq_true rfl)) dX10_unlike_26 ⟨(Nat.le_refl _), (Nat.le_refl _)⟩) hS (fun H locs hM hS => ?_)
    refine lv_iload_n hx hb dX10_unlike_29 rfl (lv_at hl 2 rfl) ?_
    refine lv_icmp_ne (tgt := 37) hx hb dX10_unlike_30 (by decide) (fun c30 => ?_) (fun c30 => ?_)
    · replace h := o_f c30 h
      refine lv_iconst (v := (0 : Int32)) hx hb dX10_unlike_37 (by decide) ?_
      exact w_X10_unlike_38 C0 ih _ _ _ _ _ h _ _ _ hM hS (lv_sub hl [0, 2] rfl)
    replace h := o_t c30 h
    refine lv_iconst (v := (1 : Int32)) hx hb dX10_unlike_33 (by decide) ?_
    refine lv_goto (tgt := 38) hx hb dX10_unlike_34 (by decide) ?_
    exact w_X10_unlike_38 C0 ih _ _ _ _ _ h _ _ _ hM hS (lv_sub hl [0, 2] rfl)
set_option maxHeartbeats 4000000 in
set_option maxRecDepth 100000 in
theorem w_X10_unlike (C0 : CX cX10_unlike 3 (some .int) wsX10_unlike RX10 p s m args meth c D b0) {v0 : Nat} {res : Int32 × mmF} (h : f_X10_unlike v0 f = some res) : ∀ (H : Heap) (locs : List Loc) (ls : Array Slot), MM vwCl D b0 f sz s H → mS b0 s H locs → lv_has ls 3 [(0, .ref v0)] → W p l e ({ frames := 3, cells := 0, slots := 0, locals := 69 } : Room) s m args below meth c H locs 0 0 (MQ below (QW D b0 (some (.int res.1)) res.2 sz) args s 0 0 (fun q => b0 ≤ q)) (F0 m 0 ls []) := by
  obtain ⟨hx, hb, hr, hml, hown, hts, hlocks, hK⟩ := id C0
  intro H locs ls hM hS hl
  unfold f_X10_unlike at h
  refine lv_aload_n hx hb dX10_unlike_0 rfl (lv_at hl 0 rfl) ?_
  replace h := o_b h; obtain ⟨_, k1, h⟩ := h
  replace h := o_b h; obtain ⟨q1, h1, h⟩ := h
  refine m_call (va_runV (As := []) (rest := []) ⟨hx, hb, hml, hown, hts⟩ (c_X10_findsLike l D b0 sz h1) (cwV 0 hts gX10_unlike_X10_findsLike rfl rfl rfl (by decide +kernel) ⟨Nat.le_of_ble_eq_true rfl, Nat.le_of_ble_eq_true rfl⟩) ⟨PW.blind, m_recv (ci := 10) rfl hK hM k1, (fun U hU hW => ⟨rfl, PW.call hK hM hS hU hW⟩)⟩ rfl rfl hl.1 rfl (lv_room (Nat.le_of_ble_eq_true rfl)) dX10_unlike_1 ⟨(Nat.le_refl _), (Nat.le_refl _)⟩) hS (fun H locs hM hS => ?_)
  refine lv_iconst (v := (0 : Int32)) hx hb dX10_unlike_4 (by decide) ?_
  refine lv_istore_n (lv' := [(1, .int (0 : Int32)), (0, .ref v0)]) hx hb dX10_unlike_5 rfl hl (by decide) rfl (fun ls hl => ?_)
  refine lv_iconst (v := (0 : Int32)) hx hb dX10_unlike_6 (by decide) ?_
  refine lv_istore_n (lv' := [(2, .int (0 : Int32)), (1, .int (0 : Int32)), (0, .ref v0)]) hx hb dX10_unlike_7 rfl hl (by decide) rfl (fun ls hl => ?_)
  exact w_X10_unlike_8 C0 FU _ _ _ _ h _ _ _ hM hS (lv_sub hl [2, 1, 0] rfl)
set_option maxHeartbeats 4000000 in
set_option maxRecDepth 100000 in
theorem c_X10_unlike (l : Launch) (D : mmD) (b0 sz : Nat) {v0 : Nat} {f : mmF} {res : Int32 × mmF} (h : f_X10_unlike v0 f = some res) : Met l yX10_unlike wsX10_unlike ({ frames := 3, cells := 0, slots := 0, locals := 69 } : Room) (va_Pc [.ref v0] (PW D b0 f sz)) (QW D b0 (some (.int res.1)) res.2 sz) 0 0 (fun q => b0 ≤ q) := by
  refine Met.ofW (cc := cX10_unlike) (maxL := 3) (ret := (some .int)) (by decide) rfl ?_
  intro p e s m args below meth c s₁ B hml hv
  obtain ⟨rfl, hM, hK⟩ := hv
  have hl := lv_entry ([.ref v0]) (n := 3) (Nat.le_of_ble_eq_true rfl)
  rw [lg_entry_eq]
  generalize (lg_sl ([.ref v0]) ++ List.replicate (3 - (lg_sl ([.ref v0])).length) Slot.unset).toArray = ls at hl ⊢
  have hl : lv_has ls 3 [(0, .ref v0)] := hl
  exact w_X10_unlike ⟨B.exec, B.bytes, B.returns, hml, findClass_of_methodNamed B.named, atoms_spec (ws := wsX10_unlike) B.pre, B.notSynchronized, hK⟩ h s.heap [] ls hM va_S.rf hl
end S_X10_unlike
/-! X10_ends -/
set_option maxRecDepth 20000 in
theorem qi_X10_ends_X10 : ∀ w ∈ u_ws RX10 TX10 25, w ∈ wsX10_ends := by decide +kernel
set_option maxRecDepth 20000 in
theorem q_X10_ends_1 : Cond.fieldLink RX10 7 "StageTruthsModel" "now" "[I" ∈ wsX10_ends := by decide +kernel
noncomputable def f_X10_ends_49 (k4 : Nat → Int32 → Int32 → Int32 → Option (Int32)) (f : mmF) (v0 : Nat) (v1 : Int32) (v3 : Int32) (t0 : Int32) (t1 : Int32) : Option (Int32) :=
  k4 v0 v1 (t0 ||| t1) (v3 + (1 : Int32))
noncomputable def f_X10_ends_36 (k4 : Nat → Int32 → Int32 → Int32 → Option (Int32)) (f : mmF) (v0 : Nat) (v1 : Int32) (v3 : Int32) (t0 : Int32) (t1 : Int32) : Option (Int32) :=
  if t1 = ((1 : Int32) <<< (v3 &&& 31)) then
  (f_X10_ends_49 k4 f v0 v1 v3 t0 ((1 : Int32) <<< (v3 &&& 31)))
  else
  f_X10_ends_49 k4 f v0 v1 v3 t0 (0 : Int32)
noncomputable def f_X10_ends_4  (f : mmF) : Nat → Nat → Int32 → Int32 → Int32 → Option (Int32)
  | 0, _, _, _, _ => none
  | n + 1, v0, v1, v2, v3 =>
    (ldR f v0 10 0).bind fun x6 =>
    (ldA 0 f x6 (16 : Int32)).bind fun x11 =>
    if x11 ≤ v3 then
    (some (v2))
    else
    if v1 = 0 then
    ((ckO f v0 10).bind fun _ =>
    (f_X10_leadingTo v0 v3 f).bind fun q33 =>
    f_X10_ends_36 (fun a0 a1 a2 a3 => f_X10_ends_4 f n a0 a1 a2 a3) f v0 v1 v3 v2 q33)
    else
    (ldR f v0 10 0).bind fun x21 =>
    (ldA 0 f x21 ((0 : Int32) + v3)).bind fun x27 =>
    f_X10_ends_36 (fun a0 a1 a2 a3 => f_X10_ends_4 f n a0 a1 a2 a3) f v0 v1 v3 v2 x27
noncomputable def f_X10_ends (v0 : Nat) (v1 : Int32) (f : mmF) : Option (Int32) :=
  f_X10_ends_4 f FU v0 v1 (0 : Int32) (0 : Int32)
section S_X10_ends
variable {p : Program} {l : Launch} {e : Env} {s : State} {m : MethodId} {args : Array Value} {below : List Frame} {meth : Method} {c : Code} {D : mmD} {b0 sz : Nat} {f : mmF}
set_option maxHeartbeats 4000000 in
set_option maxRecDepth 100000 in
theorem w_X10_ends_49 (C0 : CX cX10_ends 4 (some .int) wsX10_ends RX10 p s m args meth c D b0) {k4 : Nat → Int32 → Int32 → Int32 → Option (Int32)} {res : Int32} (hk4 : ∀ (v0 : Nat) (v1 : Int32) (v2 : Int32) (v3 : Int32), k4 v0 v1 v2 v3 = some res → ∀ (H : Heap) (locs : List Loc) (ls : Array Slot), MM vwCl D b0 f sz s H → mS b0 s H locs → lv_has ls 4 [(0, .ref v0), (1, .int v1), (2, .int v2), (3, .int v3)] → W p l e ({ frames := 2, cells := 0, slots := 0, locals := 45 } : Room) s m args below meth c H locs 0 0 (MQ below (QW D b0 (some (.int res)) f sz) args s 0 0 (fun q => b0 ≤ q)) (F0 m 4 ls [])) : ∀ (v0 : Nat) (v1 : Int32) (v3 : Int32) (t0 : Int32) (t1 : Int32), f_X10_ends_49 k4 f v0 v1 v3 t0 t1 = some res → ∀ (H : Heap) (locs : List Loc) (ls : Array Slot), MM vwCl D b0 f sz s H → mS b0 s H locs → lv_has ls 4 [(0, .ref v0), (1, .int v1), (3, .int v3)] → W p l e ({ frames := 2, cells := 0, slots := 0, locals := 45 } : Room) s m args below meth c H locs 0 0 (MQ below (QW D b0 (some (.int res)) f sz) args s 0 0 (fun q => b0 ≤ q)) (F0 m 49 ls [.int t1, .int t0]) := by
  obtain ⟨hx, hb, hr, hml, hown, hts, hlocks, hK⟩ := id C0
  intro v0 v1 v3 t0 t1 h H locs ls hM hS hl
  unfold f_X10_ends_49 at h
  refine lv_ior hx hb dX10_ends_49 ?_
  refine lv_istore_n (lv' := [(2, .int (t0 ||| t1)), (0, .ref v0), (1, .int v1), (3, .int v3)]) hx hb dX10_ends_50 rfl hl (by decide) rfl (fun ls hl => ?_)
  refine lv_iinc (v := (v3 + (1 : Int32))) (lv' := [(3, .int (v3 + (1 : Int32))), (2, .int (t0 ||| t1)), (0, .ref v0), (1, .int v1)]) hx hb dX10_ends_51 hl (k := 3) rfl rfl (by decide) rfl (fun ls hl => ?_)
  refine lv_goto (tgt := 4) hx hb dX10_ends_54 (by decide) ?_
  exact hk4 _ _ _ _ h _ _ _ hM hS (lv_sub hl [2, 3, 1, 0] rfl)
set_option maxHeartbeats 4000000 in
set_option maxRecDepth 100000 in
theorem w_X10_ends_36 (C0 : CX cX10_ends 4 (some .int) wsX10_ends RX10 p s m args meth c D b0) {k4 : Nat → Int32 → Int32 → Int32 → Option (Int32)} {res : Int32} (hk4 : ∀ (v0 : Nat) (v1 : Int32) (v2 : Int32) (v3 : Int32), k4 v0 v1 v2 v3 = some res → ∀ (H : Heap) (locs : List Loc) (ls : Array Slot), MM vwCl D b0 f sz s H → mS b0 s H locs → lv_has ls 4 [(0, .ref v0), (1, .int v1), (2, .int v2), (3, .int v3)] → W p l e ({ frames := 2, cells := 0, slots := 0, locals := 45 } : Room) s m args below meth c H locs 0 0 (MQ below (QW D b0 (some (.int res)) f sz) args s 0 0 (fun q => b0 ≤ q)) (F0 m 4 ls [])) : ∀ (v0 : Nat) (v1 : Int32) (v3 : Int32) (t0 : Int32) (t1 : Int32), f_X10_ends_36 k4 f v0 v1 v3 t0 t1 = some res → ∀ (H : Heap) (locs : List Loc) (ls : Array Slot), MM vwCl D b0 f sz s H → mS b0 s H locs → lv_has ls 4 [(0, .ref v0), (1, .int v1), (3, .int v3)] → W p l e ({ frames := 2, cells := 0, slots := 0, locals := 45 } : Room) s m args below meth c H locs 0 0 (MQ below (QW D b0 (some (.int res)) f sz) args s 0 0 (fun q => b0 ≤ q)) (F0 m 36 ls [.int t1, .int t0]) := by
  obtain ⟨hx, hb, hr, hml, hown, hts, hlocks, hK⟩ := id C0
  intro v0 v1 v3 t0 t1 h H locs ls hM hS hl
  unfold f_X10_ends_36 at h
  refine lv_iconst (v := (1 : Int32)) hx hb dX10_ends_36 (by decide) ?_
  refine lv_iload_n hx hb dX10_ends_37 rfl (lv_at hl 2 rfl) ?_
  refine lv_ishl hx hb dX10_ends_38 ?_
  refine lv_icmp_ne (tgt := 48) hx hb dX10_ends_39 (by decide) (fun c39 => ?_) (fun c39 => ?_)
  · replace h := o_f c39 h
    refine lv_iconst (v := (0 : Int32)) hx hb dX10_ends_48 (by decide) ?_
    exact w_X10_ends_49 C0 hk4 _ _ _ _ _ h _ _ _ hM hS (lv_sub hl [0, 1, 2] rfl)
  replace h := o_t c39 h
  refine lv_iconst (v := (1 : Int32)) hx hb dX10_ends_42 (by decide) ?_
  refine lv_iload_n hx hb dX10_ends_43 rfl (lv_at hl 2 rfl) ?_
  refine lv_ishl hx hb dX10_ends_44 ?_
  refine lv_goto (tgt := 49) hx hb dX10_ends_45 (by decide) ?_
  exact w_X10_ends_49 C0 hk4 _ _ _ _ _ h _ _ _ hM hS (lv_sub hl [0, 1, 2] rfl)
set_option maxHeartbeats 4000000 in
set_option maxRecDepth 100000 in
theorem w_X10_ends_4 (C0 : CX cX10_ends 4 (some .int) wsX10_ends RX10 p s m args meth c D b0) {res : Int32} : ∀ (n : Nat), ∀ (v0 : Nat) (v1 : Int32) (v2 : Int32) (v3 : Int32), f_X10_ends_4 f n v0 v1 v2 v3 = some res → ∀ (H : Heap) (locs : List Loc) (ls : Array Slot), MM vwCl D b0 f sz s H → mS b0 s H locs → lv_has ls 4 [(0, .ref v0), (1, .int v1), (2, .int v2), (3, .int v3)] → W p l e ({ frames := 2, cells := 0, slots := 0, locals := 45 } : Room) s m args below meth c H locs 0 0 (MQ below (QW D b0 (some (.int res)) f sz) args s 0 0 (fun q => b0 ≤ q)) (F0 m 4 ls []) := by
  obtain ⟨hx, hb, hr, hml, hown, hts, hlocks, hK⟩ := id C0
  intro n
  induction n with
  | zero =>
    intro v0 v1 v2 v3 h
    have h : (none : Option (Int32)) = some res := h
    cases h
  | succ n ih =>
    intro v0 v1 v2 v3 h H locs ls hM hS hl
    rw [f_X10_ends_4] at h
    refine lv_iload_n hx hb dX10_ends_4 rfl (lv_at hl 3 rfl) ?_
    refine lv_aload_n hx hb dX10_ends_5 rfl (lv_at hl 0 rfl) ?_
    replace h := o_b h; obtain ⟨x6, h6, h⟩ := h
    refine m_get (C := RX10) (T := TX10) (N := 25) (ci := 10) hx hb hts qi_X10_ends_X10 hown hK.1 hM 0 (ldR_F h6) rfl (by decide) (hts _ q_X10_ends_1) (fun _ h9 => h9) dX10_ends_6 ?_
    refine lv_bipush (v := (16 : Int32)) hx hb dX10_ends_9 (by decide) ?_
    replace h := o_b h; obtain ⟨x11, h11, h⟩ := h
    refine m_iald hx hb hK.1 hM hS rfl h11 dX10_ends_11 ?_
    refine lv_icmp_ge (tgt := 57) hx hb dX10_ends_12 (by decide) (fun c12 => ?_) (fun c12 => ?_)
    · replace h := o_t c12 h
      refine lv_iload_n hx hb dX10_ends_57 rfl (lv_at hl 2 rfl) ?_
      replace h := Option.some.inj h; subst h
      exact W.iret hx hb hr (fun t ht hW => ⟨rfl, by rw [ht]; exact hM.moved hW.alike, hS.F ht⟩) hS.2.2 dX10_ends_58
    replace h := o_f c12 h
    refine lv_iload_n hx hb dX10_ends_15 rfl (lv_at hl 2 rfl) ?_
    refine lv_iload_n hx hb dX10_ends_16 rfl (lv_at hl 1 rfl) ?_
    refine lv_if_eq (tgt := 31) hx hb dX10_ends_17 (by decide) (fun c17 => ?_) (fun c17 => ?_)
    · replace h := o_t c17 h
      refine lv_aload_n hx hb dX10_ends_31 rfl (lv_at hl 0 rfl) ?_
      refine lv_iload_n hx hb dX10_ends_32 rfl (lv_at hl 3 rfl) ?_
      replace h := o_b h; obtain ⟨_, k33, h⟩ := h
      replace h := o_b h; obtain ⟨q33, h33, h⟩ := h
      refine m_call (va_runV (As := [.int v3]) (rest := [.int v2]) ⟨hx, hb, hml, hown, hts⟩ (c_X10_leadingTo l D b0 sz h33) (cwV 1 hts gX10_ends_X10_leadingTo rfl rfl rfl (by decide +kernel) ⟨Nat.le_of_ble_eq_true rfl, Nat.le_of_ble_eq_true rfl⟩) ⟨PW.blind, m_recv (ci := 10) rfl hK hM k33, (fun U hU hW => ⟨rfl, PW.call hK hM hS hU hW⟩)⟩ rfl rfl hl.1 rfl (lv_room (Nat.le_of_ble_eq_true rfl)) dX10_ends_33 ⟨(Nat.le_refl _), (Nat.le_refl _)⟩) hS (fun H locs hM hS => ?_)
      exact w_X10_ends_36 C0 ih _ _ _ _ _ h _ _ _ hM hS (lv_sub hl [0, 1, 3] rfl)
    replace h := o_f c17 h
    refine lv_aload_n hx hb dX10_ends_20 rfl (lv_at hl 0 rfl) ?_
    replace h := o_b h; obtain ⟨x21, h21, h⟩ := h
    refine m_get (C := RX10) (T := TX10) (N := 25) (ci := 10) hx hb hts qi_X10_ends_X10 hown hK.1 hM 0 (ldR_F h21) rfl (by decide) (hts _ q_X10_ends_1) (fun _ h9 => h9) dX10_ends_21 ?_
    refine lv_iconst (v := (0 : Int32)) hx hb dX10_ends_24 (by decide) ?_
    refine lv_iload_n hx hb dX10_ends_25 rfl (lv_at hl 3 rfl) ?_
    refine lv_iadd hx hb dX10_ends_26 ?_
    replace h := o_b h; obtain ⟨x27, h27, h⟩ := h
    refine m_iald hx hb hK.1 hM hS rfl h27 dX10_ends_27 ?_
    refine lv_goto (tgt := 36) hx hb dX10_ends_28 (by decide) ?_
    exact w_X10_ends_36 C0 ih _ _ _ _ _ h _ _ _ hM hS (lv_sub hl [0, 1, 3] rfl)
set_option maxHeartbeats 4000000 in
set_option maxRecDepth 100000 in
theorem w_X10_ends (C0 : CX cX10_ends 4 (some .int) wsX10_ends RX10 p s m args meth c D b0) {v0 : Nat} {v1 : Int32} {res : Int32} (h : f_X10_ends v0 v1 f = some res) : ∀ (H : Heap) (locs : List Loc) (ls : Array Slot), MM vwCl D b0 f sz s H → mS b0 s H locs → lv_has ls 4 [(0, .ref v0), (1, .int v1)] → W p l e ({ frames := 2, cells := 0, slots := 0, locals := 45 } : Room) s m args below meth c H locs 0 0 (MQ below (QW D b0 (some (.int res)) f sz) args s 0 0 (fun q => b0 ≤ q)) (F0 m 0 ls []) := by
  obtain ⟨hx, hb, hr, hml, hown, hts, hlocks, hK⟩ := id C0
  intro H locs ls hM hS hl
  unfold f_X10_ends at h
  refine lv_iconst (v := (0 : Int32)) hx hb dX10_ends_0 (by decide) ?_
  refine lv_istore_n (lv' := [(2, .int (0 : Int32)), (0, .ref v0), (1, .int v1)]) hx hb dX10_ends_1 rfl hl (by decide) rfl (fun ls hl => ?_)
  refine lv_iconst (v := (0 : Int32)) hx hb dX10_ends_2 (by decide) ?_
  refine lv_istore_n (lv' := [(3, .int (0 : Int32)), (2, .int (0 : Int32)), (0, .ref v0), (1, .int v1)]) hx hb dX10_ends_3 rfl hl (by decide) rfl (fun ls hl => ?_)
  exact w_X10_ends_4 C0 FU _ _ _ _ h _ _ _ hM hS (lv_sub hl [2, 3, 1, 0] rfl)
set_option maxHeartbeats 4000000 in
set_option maxRecDepth 100000 in
theorem c_X10_ends (l : Launch) (D : mmD) (b0 sz : Nat) {v0 : Nat} {v1 : Int32} {f : mmF} {res : Int32} (h : f_X10_ends v0 v1 f = some res) : Met l yX10_ends wsX10_ends ({ frames := 2, cells := 0, slots := 0, locals := 45 } : Room) (va_Pc [.ref v0, .int v1] (PW D b0 f sz)) (QW D b0 (some (.int res)) f sz) 0 0 (fun q => b0 ≤ q) := by
  refine Met.ofW (cc := cX10_ends) (maxL := 4) (ret := (some .int)) (by decide) rfl ?_
  intro p e s m args below meth c s₁ B hml hv
  obtain ⟨rfl, hM, hK⟩ := hv
  have hl := lv_entry ([.ref v0, .int v1]) (n := 4) (Nat.le_of_ble_eq_true rfl)
  rw [lg_entry_eq]
  generalize (lg_sl ([.ref v0, .int v1]) ++ List.replicate (4 - (lg_sl ([.ref v0, .int v1])).length) Slot.unset).toArray = ls at hl ⊢
  have hl : lv_has ls 4 [(0, .ref v0), (1, .int v1)] := hl
  exact w_X10_ends ⟨B.exec, B.bytes, B.returns, hml, findClass_of_methodNamed B.named, atoms_spec (ws := wsX10_ends) B.pre, B.notSynchronized, hK⟩ h s.heap [] ls hM va_S.rf hl
end S_X10_ends
/-! X10_everywhere -/
set_option maxRecDepth 20000 in
theorem qi_X10_everywhere_X10 : ∀ w ∈ u_ws RX10 TX10 25, w ∈ wsX10_everywhere := by decide +kernel
set_option maxRecDepth 20000 in
theorem q_X10_everywhere_1 : Cond.fieldLink RX10 7 "StageTruthsModel" "now" "[I" ∈ wsX10_everywhere := by decide +kernel
noncomputable def f_X10_everywhere_5  (f : mmF) : Nat → Nat → Int32 → Int32 → Option (Int32)
  | 0, _, _, _ => none
  | n + 1, v0, v1, v2 =>
    (ldR f v0 10 0).bind fun x7 =>
    (ldA 0 f x7 (16 : Int32)).bind fun x12 =>
    if x12 ≤ v2 then
    (some (v1))
    else
    (ldR f v0 10 0).bind fun x18 =>
    (ldA 0 f x18 ((8 : Int32) + v2)).bind fun x25 =>
    f_X10_everywhere_5 f n v0 (v1 &&& x25) (v2 + (1 : Int32))
noncomputable def f_X10_everywhere (v0 : Nat) (f : mmF) : Option (Int32) :=
  f_X10_everywhere_5 f FU v0 (15 : Int32) (0 : Int32)
section S_X10_everywhere
variable {p : Program} {l : Launch} {e : Env} {s : State} {m : MethodId} {args : Array Value} {below : List Frame} {meth : Method} {c : Code} {D : mmD} {b0 sz : Nat} {f : mmF}
set_option maxHeartbeats 4000000 in
set_option maxRecDepth 100000 in
theorem w_X10_everywhere_5 (C0 : CX cX10_everywhere 3 (some .int) wsX10_everywhere RX10 p s m args meth c D b0) {res : Int32} : ∀ (n : Nat), ∀ (v0 : Nat) (v1 : Int32) (v2 : Int32), f_X10_everywhere_5 f n v0 v1 v2 = some res → ∀ (H : Heap) (locs : List Loc) (ls : Array Slot), MM vwCl D b0 f sz s H → mS b0 s H locs → lv_has ls 3 [(0, .ref v0), (1, .int v1), (2, .int v2)] → W p l e ({ frames := 0, cells := 0, slots := 0, locals := 0 } : Room) s m args below meth c H locs 0 0 (MQ below (QW D b0 (some (.int res)) f sz) args s 0 0 (fun q => b0 ≤ q)) (F0 m 5 ls []) := by
  obtain ⟨hx, hb, hr, hml, hown, hts, hlocks, hK⟩ := id C0
  intro n
  induction n with
  | zero =>
    intro v0 v1 v2 h
    have h : (none : Option (Int32)) = some res := h
    cases h
  | succ n ih =>
    intro v0 v1 v2 h H locs ls hM hS hl
    rw [f_X10_everywhere_5] at h
    refine lv_iload_n hx hb dX10_everywhere_5 rfl (lv_at hl 2 rfl) ?_
    refine lv_aload_n hx hb dX10_everywhere_6 rfl (lv_at hl 0 rfl) ?_
    replace h := o_b h; obtain ⟨x7, h7, h⟩ := h
    refine m_get (C := RX10) (T := TX10) (N := 25) (ci := 10) hx hb hts qi_X10_everywhere_X10 hown hK.1 hM 0 (ldR_F h7) rfl (by decide) (hts _ q_X10_everywhere_1) (fun _ h9 => h9) dX10_everywhere_7 ?_
    refine lv_bipush (v := (16 : Int32)) hx hb dX10_everywhere_10 (by decide) ?_
    replace h := o_b h; obtain ⟨x12, h12, h⟩ := h
    refine m_iald hx hb hK.1 hM hS rfl h12 dX10_everywhere_12 ?_
    refine lv_icmp_ge (tgt := 34) hx hb dX10_everywhere_13 (by decide) (fun c13 => ?_) (fun c13 => ?_)
    · replace h := o_t c13 h
      refine lv_iload_n hx hb dX10_everywhere_34 rfl (lv_at hl 1 rfl) ?_
      replace h := Option.some.inj h; subst h
      exact W.iret hx hb hr (fun t ht hW => ⟨rfl, by rw [ht]; exact hM.moved hW.alike, hS.F ht⟩) hS.2.2 dX10_everywhere_35
    replace h := o_f c13 h
    refine lv_iload_n hx hb dX10_everywhere_16 rfl (lv_at hl 1 rfl) ?_
    refine lv_aload_n hx hb dX10_everywhere_17 rfl (lv_at hl 0 rfl) ?_
    replace h := o_b h; obtain ⟨x18, h18, h⟩ := h
    refine m_get (C := RX10) (T := TX10) (N := 25) (ci := 10) hx hb hts qi_X10_everywhere_X10 hown hK.1 hM 0 (ldR_F h18) rfl (by decide) (hts _ q_X10_everywhere_1) (fun _ h9 => h9) dX10_everywhere_18 ?_
    refine lv_bipush (v := (8 : Int32)) hx hb dX10_everywhere_21 (by decide) ?_
    refine lv_iload_n hx hb dX10_everywhere_23 rfl (lv_at hl 2 rfl) ?_
    refine lv_iadd hx hb dX10_everywhere_24 ?_
    replace h := o_b h; obtain ⟨x25, h25, h⟩ := h
    refine m_iald hx hb hK.1 hM hS rfl h25 dX10_everywhere_25 ?_
    refine lv_iand hx hb dX10_everywhere_26 ?_
    refine lv_istore_n (lv' := [(1, .int (v1 &&& x25)), (0, .ref v0), (2, .int v2)]) hx hb dX10_everywhere_27 rfl hl (by decide) rfl (fun ls hl => ?_)
    refine lv_iinc (v := (v2 + (1 : Int32))) (lv' := [(2, .int (v2 + (1 : Int32))), (1, .int (v1 &&& x25)), (0, .ref v0)]) hx hb dX10_everywhere_28 hl (k := 2) rfl rfl (by decide) rfl (fun ls hl => ?_)
    refine lv_goto (tgt := 5) hx hb dX10_everywhere_31 (by decide) ?_
    exact ih _ _ _ h _ _ _ hM hS (lv_sub hl [2, 1, 0] rfl)
set_option maxHeartbeats 4000000 in
set_option maxRecDepth 100000 in
theorem w_X10_everywhere (C0 : CX cX10_everywhere 3 (some .int) wsX10_everywhere RX10 p s m args meth c D b0) {v0 : Nat} {res : Int32} (h : f_X10_everywhere v0 f = some res) : ∀ (H : Heap) (locs : List Loc) (ls : Array Slot), MM vwCl D b0 f sz s H → mS b0 s H locs → lv_has ls 3 [(0, .ref v0)] → W p l e ({ frames := 0, cells := 0, slots := 0, locals := 0 } : Room) s m args below meth c H locs 0 0 (MQ below (QW D b0 (some (.int res)) f sz) args s 0 0 (fun q => b0 ≤ q)) (F0 m 0 ls []) := by
  obtain ⟨hx, hb, hr, hml, hown, hts, hlocks, hK⟩ := id C0
  intro H locs ls hM hS hl
  unfold f_X10_everywhere at h
  refine lv_bipush (v := (15 : Int32)) hx hb dX10_everywhere_0 (by decide) ?_
  refine lv_istore_n (lv' := [(1, .int (15 : Int32)), (0, .ref v0)]) hx hb dX10_everywhere_2 rfl hl (by decide) rfl (fun ls hl => ?_)
  refine lv_iconst (v := (0 : Int32)) hx hb dX10_everywhere_3 (by decide) ?_
  refine lv_istore_n (lv' := [(2, .int (0 : Int32)), (1, .int (15 : Int32)), (0, .ref v0)]) hx hb dX10_everywhere_4 rfl hl (by decide) rfl (fun ls hl => ?_)
  exact w_X10_everywhere_5 C0 FU _ _ _ h _ _ _ hM hS (lv_sub hl [2, 1, 0] rfl)
set_option maxHeartbeats 4000000 in
set_option maxRecDepth 100000 in
theorem c_X10_everywhere (l : Launch) (D : mmD) (b0 sz : Nat) {v0 : Nat} {f : mmF} {res : Int32} (h : f_X10_everywhere v0 f = some res) : Met l yX10_everywhere wsX10_everywhere ({ frames := 0, cells := 0, slots := 0, locals := 0 } : Room) (va_Pc [.ref v0] (PW D b0 f sz)) (QW D b0 (some (.int res)) f sz) 0 0 (fun q => b0 ≤ q) := by
  refine Met.ofW (cc := cX10_everywhere) (maxL := 3) (ret := (some .int)) (by decide) rfl ?_
  intro p e s m args below meth c s₁ B hml hv
  obtain ⟨rfl, hM, hK⟩ := hv
  have hl := lv_entry ([.ref v0]) (n := 3) (Nat.le_of_ble_eq_true rfl)
  rw [lg_entry_eq]
  generalize (lg_sl ([.ref v0]) ++ List.replicate (3 - (lg_sl ([.ref v0])).length) Slot.unset).toArray = ls at hl ⊢
  have hl : lv_has ls 3 [(0, .ref v0)] := hl
  exact w_X10_everywhere ⟨B.exec, B.bytes, B.returns, hml, findClass_of_methodNamed B.named, atoms_spec (ws := wsX10_everywhere) B.pre, B.notSynchronized, hK⟩ h s.heap [] ls hM va_S.rf hl
end S_X10_everywhere
/-! X10_count -/
set_option maxRecDepth 20000 in
theorem qi_X10_count_X10 : ∀ w ∈ u_ws RX10 TX10 25, w ∈ wsX10_count := by decide +kernel
set_option maxRecDepth 20000 in
theorem q_X10_count_1 : Cond.fieldLink RX10 7 "StageTruthsModel" "now" "[I" ∈ wsX10_count := by decide +kernel
set_option maxRecDepth 20000 in
theorem q_X10_count_2 : Cond.fieldLink RX10 74 "StageTruthsModel" "kept" "I" ∈ wsX10_count := by decide +kernel
set_option maxRecDepth 20000 in
theorem q_X10_count_3 : Cond.fieldLink RX10 119 "StageTruthsModel" "typed" "I" ∈ wsX10_count := by decide +kernel
noncomputable def f_X10_count (v0 : Nat) (v1 : Int32) (f : mmF) : Option (Int32 × mmF) :=
  if v1 = (0 : Int32) then
  ((ldR f v0 10 0).bind fun x53 =>
  (ldA 0 f x53 (16 : Int32)).bind fun x58 =>
  some (x58, f))
  else
  if v1 = (1 : Int32) then
  ((ckO f v0 10).bind fun _ =>
  (f_X10_pairs v0 f).bind fun q61 =>
  some (q61, f))
  else
  if v1 = (2 : Int32) then
  ((ckO f v0 10).bind fun _ =>
  (f_X10_places v0 f).bind fun q66 =>
  (f_X10_bits q66 f).bind fun q69 =>
  some (q69, f))
  else
  if v1 = (3 : Int32) then
  ((ckO f v0 10).bind fun _ =>
  (f_X10_ends v0 (1 : Int32) f).bind fun q75 =>
  some (q75, f))
  else
  if v1 = (4 : Int32) then
  ((ckO f v0 10).bind fun _ =>
  (f_X10_ends v0 (0 : Int32) f).bind fun q81 =>
  some (q81, f))
  else
  if v1 = (5 : Int32) then
  ((ckO f v0 10).bind fun _ =>
  (f_X10_unlike v0 f).bind fun q86 =>
  some (q86.1, q86.2))
  else
  if v1 = (6 : Int32) then
  ((ckO f v0 10).bind fun _ =>
  (f_X10_everywhere v0 f).bind fun q91 =>
  some (q91, f))
  else
  if v1 = (7 : Int32) then
  ((ldI f v0 10 2).bind fun x96 =>
  some (x96, f))
  else
  if v1 = (8 : Int32) then
  ((ldI f v0 10 7).bind fun x101 =>
  some (x101, f))
  else
  some ((-2 : Int32), f)
section S_X10_count
variable {p : Program} {l : Launch} {e : Env} {s : State} {m : MethodId} {args : Array Value} {below : List Frame} {meth : Method} {c : Code} {D : mmD} {b0 sz : Nat} {f : mmF}
set_option maxHeartbeats 4000000 in
set_option maxRecDepth 100000 in
theorem w_X10_count (C0 : CX cX10_count 2 (some .int) wsX10_count RX10 p s m args meth c D b0) {v0 : Nat} {v1 : Int32} {res : Int32 × mmF} (h : f_X10_count v0 v1 f = some res) : ∀ (H : Heap) (locs : List Loc) (ls : Array Slot), MM vwCl D b0 f sz s H → mS b0 s H locs → lv_has ls 2 [(0, .ref v0), (1, .int v1)] → W p l e ({ frames := 4, cells := 0, slots := 0, locals := 91 } : Room) s m args below meth c H locs 0 0 (MQ below (QW D b0 (some (.int res.1)) res.2 sz) args s 0 0 (fun q => b0 ≤ q)) (F0 m 0 ls []) := by
  obtain ⟨hx, hb, hr, hml, hown, hts, hlocks, hK⟩ := id C0
  intro H locs ls hM hS hl
  unfold f_X10_count at h
  refine lv_iload_n hx hb dX10_count_0 rfl (lv_at hl 1 rfl) ?_
  by_cases c1_0 : v1 = (0 : Int32)
  · replace h := o_t c1_0 h
    refine lv_tableIn (tgt := 52) hx hb dX10_count_1 (by rw [c1_0]; decide) (by rw [c1_0]; decide) (by rw [c1_0]; rfl) (by decide) ?_
    refine lv_aload_n hx hb dX10_count_52 rfl (lv_at hl 0 rfl) ?_
    replace h := o_b h; obtain ⟨x53, h53, h⟩ := h
    refine m_get (C := RX10) (T := TX10) (N := 25) (ci := 10) hx hb hts qi_X10_count_X10 hown hK.1 hM 0 (ldR_F h53) rfl (by decide) (hts _ q_X10_count_1) (fun _ h9 => h9) dX10_count_53 ?_
    refine lv_bipush (v := (16 : Int32)) hx hb dX10_count_56 (by decide) ?_
    replace h := o_b h; obtain ⟨x58, h58, h⟩ := h
    refine m_iald hx hb hK.1 hM hS rfl h58 dX10_count_58 ?_
    replace h := Option.some.inj h; subst h
    exact W.iret hx hb hr (fun t ht hW => ⟨rfl, by rw [ht]; exact hM.moved hW.alike, hS.F ht⟩) hS.2.2 dX10_count_59
  replace h := o_f c1_0 h
  by_cases c1_1 : v1 = (1 : Int32)
  · replace h := o_t c1_1 h
    refine lv_tableIn (tgt := 60) hx hb dX10_count_1 (by rw [c1_1]; decide) (by rw [c1_1]; decide) (by rw [c1_1]; rfl) (by decide) ?_
    refine lv_aload_n hx hb dX10_count_60 rfl (lv_at hl 0 rfl) ?_
    replace h := o_b h; obtain ⟨_, k61, h⟩ := h
    replace h := o_b h; obtain ⟨q61, h61, h⟩ := h
    refine m_call (va_runV (As := []) (rest := []) ⟨hx, hb, hml, hown, hts⟩ (c_X10_pairs l D b0 sz h61) (cwV 0 hts gX10_count_X10_pairs rfl rfl rfl (by decide +kernel) ⟨Nat.le_of_ble_eq_true rfl, Nat.le_of_ble_eq_true rfl⟩) ⟨PW.blind, m_recv (ci := 10) rfl hK hM k61, (fun U hU hW => ⟨rfl, PW.call hK hM hS hU hW⟩)⟩ rfl rfl hl.1 rfl (lv_room (Nat.le_of_ble_eq_true rfl)) dX10_count_61 ⟨(Nat.le_refl _), (Nat.le_refl _)⟩) hS (fun H locs hM hS => ?_)
    replace h := Option.some.inj h; subst h
    exact W.iret hx hb hr (fun t ht hW => ⟨rfl, by rw [ht]; exact hM.moved hW.alike, hS.F ht⟩) hS.2.2 dX10_count_64
  replace h := o_f c1_1 h
  by_cases c1_2 : v1 = (2 : Int32)
  · replace h := o_t c1_2 h
    refine lv_tableIn (tgt := 65) hx hb dX10_count_1 (by rw [c1_2]; decide) (by rw [c1_2]; decide) (by rw [c1_2]; rfl) (by decide) ?_
    refine lv_aload_n hx hb dX10_count_65 rfl (lv_at hl 0 rfl) ?_
    replace h := o_b h; obtain ⟨_, k66, h⟩ := h
    replace h := o_b h; obtain ⟨q66, h66, h⟩ := h
    refine m_call (va_runV (As := []) (rest := []) ⟨hx, hb, hml, hown, hts⟩ (c_X10_places l D b0 sz h66) (cwV 0 hts gX10_count_X10_places rfl rfl rfl (by decide +kernel) ⟨Nat.le_of_ble_eq_true rfl, Nat.le_of_ble_eq_true rfl⟩) ⟨PW.blind, m_recv (ci := 10) rfl hK hM k66, (fun U hU hW => ⟨rfl, PW.call hK hM hS hU hW⟩)⟩ rfl rfl hl.1 rfl (lv_room (Nat.le_of_ble_eq_true rfl)) dX10_count_66 ⟨(Nat.le_refl _), (Nat.le_refl _)⟩) hS (fun H locs hM hS => ?_)
    replace h := o_b h; obtain ⟨q69, h69, h⟩ := h
    refine m_call (va_runS (As := [.int q66]) (rest := []) ⟨hx, hb, hml, hown, hts⟩ (c_X10_bits l D b0 sz h69) (va_cwS 1 hts gX10_count_X10_bits rfl rfl rfl (by decide +kernel) ⟨Nat.le_of_ble_eq_true rfl, Nat.le_of_ble_eq_true rfl⟩) ⟨PW.blind, (fun U hU hW => ⟨rfl, PW.call hK hM hS hU hW⟩)⟩ rfl rfl hl.1 rfl (lv_room (Nat.le_of_ble_eq_true rfl)) dX10_count_69 ⟨(Nat.le_refl _), (Nat.le_refl _)⟩) hS (fun H locs hM hS => ?_)
    replace h := Option.some.inj h; subst h
    exact W.iret hx hb hr (fun t ht hW => ⟨rfl, by rw [ht]; exact hM.moved hW.alike, hS.F ht⟩) hS.2.2 dX10_count_72
  replace h := o_f c1_2 h
  by_cases c1_3 : v1 = (3 : Int32)
  · replace h := o_t c1_3 h
    refine lv_tableIn (tgt := 73) hx hb dX10_count_1 (by rw [c1_3]; decide) (by rw [c1_3]; decide) (by rw [c1_3]; rfl) (by decide) ?_
    refine lv_aload_n hx hb dX10_count_73 rfl (lv_at hl 0 rfl) ?_
    refine lv_iconst (v := (1 : Int32)) hx hb dX10_count_74 (by decide) ?_
    replace h := o_b h; obtain ⟨_, k75, h⟩ := h
    replace h := o_b h; obtain ⟨q75, h75, h⟩ := h
    refine m_call (va_runV (As := [.int (1 : Int32)]) (rest := []) ⟨hx, hb, hml, hown, hts⟩ (c_X10_ends l D b0 sz h75) (cwV 1 hts gX10_count_X10_ends rfl rfl rfl (by decide +kernel) ⟨Nat.le_of_ble_eq_true rfl, Nat.le_of_ble_eq_true rfl⟩) ⟨PW.blind, m_recv (ci := 10) rfl hK hM k75, (fun U hU hW => ⟨rfl, PW.call hK hM hS hU hW⟩)⟩ rfl rfl hl.1 rfl (lv_room (Nat.le_of_ble_eq_true rfl)) dX10_count_75 ⟨(Nat.le_refl _), (Nat.le_refl _)⟩) hS (fun H locs hM hS => ?_)
    replace h := Option.some.inj h; subst h
    exact W.iret hx hb hr (fun t ht hW => ⟨rfl, by rw [ht]; exact hM.moved hW.alike, hS.F ht⟩) hS.2.2 dX10_count_78
  replace h := o_f c1_3 h
  by_cases c1_4 : v1 = (4 : Int32)
  · replace h := o_t c1_4 h
    refine lv_tableIn (tgt := 79) hx hb dX10_count_1 (by rw [c1_4]; decide) (by rw [c1_4]; decide) (by rw [c1_4]; rfl) (by decide) ?_
    refine lv_aload_n hx hb dX10_count_79 rfl (lv_at hl 0 rfl) ?_
    refine lv_iconst (v := (0 : Int32)) hx hb dX10_count_80 (by decide) ?_
    replace h := o_b h; obtain ⟨_, k81, h⟩ := h
    replace h := o_b h; obtain ⟨q81, h81, h⟩ := h
    refine m_call (va_runV (As := [.int (0 : Int32)]) (rest := []) ⟨hx, hb, hml, hown, hts⟩ (c_X10_ends l D b0 sz h81) (cwV 1 hts gX10_count_X10_ends rfl rfl rfl (by decide +kernel) ⟨Nat.le_of_ble_eq_true rfl, Nat.le_of_ble_eq_true rfl⟩) ⟨PW.blind, m_recv (ci := 10) rfl hK hM k81, (fun U hU hW => ⟨rfl, PW.call hK hM hS hU hW⟩)⟩ rfl rfl hl.1 rfl (lv_room (Nat.le_of_ble_eq_true rfl)) dX10_count_81 ⟨(Nat.le_refl _), (Nat.le_refl _)⟩) hS (fun H locs hM hS => ?_)
    replace h := Option.some.inj h; subst h
    exact W.iret hx hb hr (fun t ht hW => ⟨rfl, by rw [ht]; exact hM.moved hW.alike, hS.F ht⟩) hS.2.2 dX10_count_84
  replace h := o_f c1_4 h
  by_cases c1_5 : v1 = (5 : Int32)
  · replace h := o_t c1_5 h
    refine lv_tableIn (tgt := 85) hx hb dX10_count_1 (by rw [c1_5]; decide) (by rw [c1_5]; decide) (by rw [c1_5]; rfl) (by decide) ?_
    refine lv_aload_n hx hb dX10_count_85 rfl (lv_at hl 0 rfl) ?_
    replace h := o_b h; obtain ⟨_, k86, h⟩ := h
    replace h := o_b h; obtain ⟨q86, h86, h⟩ := h
    refine m_call (va_runV (As := []) (rest := []) ⟨hx, hb, hml, hown, hts⟩ (c_X10_unlike l D b0 sz h86) (cwV 0 hts gX10_count_X10_unlike rfl rfl rfl (by decide +kernel) ⟨Nat.le_of_ble_eq_true rfl, Nat.le_of_ble_eq_true rfl⟩) ⟨PW.blind, m_recv (ci := 10) rfl hK hM k86, (fun U hU hW => ⟨rfl, PW.call hK hM hS hU hW⟩)⟩ rfl rfl hl.1 rfl (lv_room (Nat.le_of_ble_eq_true rfl)) dX10_count_86 ⟨(Nat.le_refl _), (Nat.le_refl _)⟩) hS (fun H locs hM hS => ?_)
    replace h := Option.some.inj h; subst h
    exact W.iret hx hb hr (fun t ht hW => ⟨rfl, by rw [ht]; exact hM.moved hW.alike, hS.F ht⟩) hS.2.2 dX10_count_89
  replace h := o_f c1_5 h
  by_cases c1_6 : v1 = (6 : Int32)
  · replace h := o_t c1_6 h
    refine lv_tableIn (tgt := 90) hx hb dX10_count_1 (by rw [c1_6]; decide) (by rw [c1_6]; decide) (by rw [c1_6]; rfl) (by decide) ?_
    refine lv_aload_n hx hb dX10_count_90 rfl (lv_at hl 0 rfl) ?_
    replace h := o_b h; obtain ⟨_, k91, h⟩ := h
    replace h := o_b h; obtain ⟨q91, h91, h⟩ := h
    refine m_call (va_runV (As := []) (rest := []) ⟨hx, hb, hml, hown, hts⟩ (c_X10_everywhere l D b0 sz h91) (cwV 0 hts gX10_count_X10_everywhere rfl rfl rfl (by decide +kernel) ⟨Nat.le_of_ble_eq_true rfl, Nat.le_of_ble_eq_true rfl⟩) ⟨PW.blind, m_recv (ci := 10) rfl hK hM k91, (fun U hU hW => ⟨rfl, PW.call hK hM hS hU hW⟩)⟩ rfl rfl hl.1 rfl (lv_room (Nat.le_of_ble_eq_true rfl)) dX10_count_91 ⟨(Nat.le_refl _), (Nat.le_refl _)⟩) hS (fun H locs hM hS => ?_)
    replace h := Option.some.inj h; subst h
    exact W.iret hx hb hr (fun t ht hW => ⟨rfl, by rw [ht]; exact hM.moved hW.alike, hS.F ht⟩) hS.2.2 dX10_count_94
  replace h := o_f c1_6 h
  by_cases c1_7 : v1 = (7 : Int32)
  · replace h := o_t c1_7 h
    refine lv_tableIn (tgt := 95) hx hb dX10_count_1 (by rw [c1_7]; decide) (by rw [c1_7]; decide) (by rw [c1_7]; rfl) (by decide) ?_
    refine lv_aload_n hx hb dX10_count_95 rfl (lv_at hl 0 rfl) ?_
    replace h := o_b h; obtain ⟨x96, h96, h⟩ := h
    refine m_get (C := RX10) (T := TX10) (N := 25) (ci := 10) hx hb hts qi_X10_count_X10 hown hK.1 hM 2 (ldI_F h96) rfl (by decide) (hts _ q_X10_count_2) (fun _ h9 => h9) dX10_count_96 ?_
    replace h := Option.some.inj h; subst h
    exact W.iret hx hb hr (fun t ht hW => ⟨rfl, by rw [ht]; exact hM.moved hW.alike, hS.F ht⟩) hS.2.2 dX10_count_99
  replace h := o_f c1_7 h
  by_cases c1_8 : v1 = (8 : Int32)
  · replace h := o_t c1_8 h
    refine lv_tableIn (tgt := 100) hx hb dX10_count_1 (by rw [c1_8]; decide) (by rw [c1_8]; decide) (by rw [c1_8]; rfl) (by decide) ?_
    refine lv_aload_n hx hb dX10_count_100 rfl (lv_at hl 0 rfl) ?_
    replace h := o_b h; obtain ⟨x101, h101, h⟩ := h
    refine m_get (C := RX10) (T := TX10) (N := 25) (ci := 10) hx hb hts qi_X10_count_X10 hown hK.1 hM 7 (ldI_F h101) rfl (by decide) (hts _ q_X10_count_3) (fun _ h9 => h9) dX10_count_101 ?_
    replace h := Option.some.inj h; subst h
    exact W.iret hx hb hr (fun t ht hW => ⟨rfl, by rw [ht]; exact hM.moved hW.alike, hS.F ht⟩) hS.2.2 dX10_count_104
  replace h := o_f c1_8 h
  refine lv_tableOut (tgt := 105) hx hb dX10_count_1 (by have n0 := lv_neT c1_0 (a := 0) (by decide); have n1 := lv_neT c1_1 (a := 1) (by decide); have n2 := lv_neT c1_2 (a := 2) (by decide); have n3 := lv_neT c1_3 (a := 3) (by decide); have n4 := lv_neT c1_4 (a := 4) (by decide); have n5 := lv_neT c1_5 (a := 5) (by decide); have n6 := lv_neT c1_6 (a := 6) (by decide); have n7 := lv_neT c1_7 (a := 7) (by decide); have n8 := lv_neT c1_8 (a := 8) (by decide); omega) (by decide) ?_
  refine lv_bipush (v := (-2 : Int32)) hx hb dX10_count_105 (by decide) ?_
  replace h := Option.some.inj h; subst h
  exact W.iret hx hb hr (fun t ht hW => ⟨rfl, by rw [ht]; exact hM.moved hW.alike, hS.F ht⟩) hS.2.2 dX10_count_107
set_option maxHeartbeats 4000000 in
set_option maxRecDepth 100000 in
theorem c_X10_count (l : Launch) (D : mmD) (b0 sz : Nat) {v0 : Nat} {v1 : Int32} {f : mmF} {res : Int32 × mmF} (h : f_X10_count v0 v1 f = some res) : Met l yX10_count wsX10_count ({ frames := 4, cells := 0, slots := 0, locals := 91 } : Room) (va_Pc [.ref v0, .int v1] (PW D b0 f sz)) (QW D b0 (some (.int res.1)) res.2 sz) 0 0 (fun q => b0 ≤ q) := by
  refine Met.ofW (cc := cX10_count) (maxL := 2) (ret := (some .int)) (by decide) rfl ?_
  intro p e s m args below meth c s₁ B hml hv
  obtain ⟨rfl, hM, hK⟩ := hv
  have hl := lv_entry ([.ref v0, .int v1]) (n := 2) (Nat.le_of_ble_eq_true rfl)
  rw [lg_entry_eq]
  generalize (lg_sl ([.ref v0, .int v1]) ++ List.replicate (2 - (lg_sl ([.ref v0, .int v1])).length) Slot.unset).toArray = ls at hl ⊢
  have hl : lv_has ls 2 [(0, .ref v0), (1, .int v1)] := hl
  exact w_X10_count ⟨B.exec, B.bytes, B.returns, hml, findClass_of_methodNamed B.named, atoms_spec (ws := wsX10_count) B.pre, B.notSynchronized, hK⟩ h s.heap [] ls hM va_S.rf hl
end S_X10_count
