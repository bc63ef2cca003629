/-! X10_either -/
noncomputable def f_X10_either (v0 : Nat) (v1 : Int32) (v2 : Int32) (f : mmF) : Option (Int32 × mmF) :=
  if v1 = (1 : Int32) then
  (some (v2, f))
  else
  if v1 = v2 then
  (some (v2, f))
  else
  if v2 = (1 : Int32) then
  (some (v1, f))
  else
  if v1 = 0 then
  (some ((0 : Int32), f))
  else
  if v2 = 0 then
  (some ((0 : Int32), f))
  else
  (ckO f v0 10).bind fun _ =>
  (f_X10_part v0 (8 : Int32) v1 v2 f).bind fun q40 =>
  some (q40.1, q40.2)
section S_X10_either
variable {p : Program} {l : Launch} {e : Env} {s : State} {m : MethodId} {args : Array Value} {below : List Frame} {meth : Method} {c : Code} {D : mmD} {b0 sz : Nat} {f : mmF}
set_option maxHeartbeats 4000000 in
set_option maxRecDepth 100000 in
theorem w_X10_either (C0 : CX cX10_either 3 (some .int) wsX10_either RX10 p s m args meth c D b0) {v0 : Nat} {v1 : Int32} {v2 : Int32} {res : Int32 × mmF} (h : f_X10_either v0 v1 v2 f = some res) : ∀ (H : Heap) (locs : List Loc) (ls : Array Slot), MM vwCl D b0 f sz s H → mS b0 s H locs → lv_has ls 3 [(0, .ref v0), (1, .int v1), (2, .int v2)] → W p l e ({ frames := 5, cells := 0, slots := 0, locals := 123 } : Room) s m args below meth c H locs 0 0 (MQ below (QW D b0 (some (.int res.1)) res.2 sz) args s 0 0 (fun q => b0 ≤ q)) (F0 m 0 ls []) := by
  obtain ⟨hx, hb, hr, hml, hown, hts, hlocks, hK⟩ := id C0
  intro H locs ls hM hS hl
  unfold f_X10_either at h
  refine lv_iload_n hx hb dX10_either_0 rfl (lv_at hl 1 rfl) ?_
  refine lv_iconst (v := (1 : Int32)) hx hb dX10_either_1 (by decide) ?_
  refine lv_icmp_eq (tgt := 10) hx hb dX10_either_2 (by decide) (fun c2 => ?_) (fun c2 => ?_)
  · replace h := o_t c2 h
    refine lv_iload_n hx hb dX10_either_10 rfl (lv_at hl 2 rfl) ?_
    refine lv_goto (tgt := 43) hx hb dX10_either_11 (by decide) ?_
    replace h := Option.some.inj h; subst h
    exact W.iret hx hb hr (fun t ht hW => ⟨rfl, by rw [ht]; exact hM.moved hW.alike, hS.F ht⟩) hS.2.2 dX10_either_43
  replace h := o_f c2 h
  refine lv_iload_n hx hb dX10_either_5 rfl (lv_at hl 1 rfl) ?_
  refine lv_iload_n hx hb dX10_either_6 rfl (lv_at hl 2 rfl) ?_
  refine lv_icmp_ne (tgt := 14) hx hb dX10_either_7 (by decide) (fun c7 => ?_) (fun c7 => ?_)
  · replace h := o_f c7 h
    refine lv_iload_n hx hb dX10_either_14 rfl (lv_at hl 2 rfl) ?_
    refine lv_iconst (v := (1 : Int32)) hx hb dX10_either_15 (by decide) ?_
    refine lv_icmp_ne (tgt := 23) hx hb dX10_either_16 (by decide) (fun c16 => ?_) (fun c16 => ?_)
    · replace h := o_f c16 h
      refine lv_iload_n hx hb dX10_either_23 rfl (lv_at hl 1 rfl) ?_
      refine lv_if_eq (tgt := 31) hx hb dX10_either_24 (by decide) (fun c24 => ?_) (fun c24 => ?_)
      · replace h := o_t c24 h
        refine lv_iconst (v := (0 : Int32)) hx hb dX10_either_31 (by decide) ?_
        refine lv_goto (tgt := 43) hx hb dX10_either_32 (by decide) ?_
        replace h := Option.some.inj h; subst h
        exact W.iret hx hb hr (fun t ht hW => ⟨rfl, by rw [ht]; exact hM.moved hW.alike, hS.F ht⟩) hS.2.2 dX10_either_43
      replace h := o_f c24 h
      refine lv_iload_n hx hb dX10_either_27 rfl (lv_at hl 2 rfl) ?_
      refine lv_if_ne (tgt := 35) hx hb dX10_either_28 (by decide) (fun c28 => ?_) (fun c28 => ?_)
      · replace h := o_f c28 h
        refine lv_aload_n hx hb dX10_either_35 rfl (lv_at hl 0 rfl) ?_
        refine lv_bipush (v := (8 : Int32)) hx hb dX10_either_36 (by decide) ?_
        refine lv_iload_n hx hb dX10_either_38 rfl (lv_at hl 1 rfl) ?_
        refine lv_iload_n hx hb dX10_either_39 rfl (lv_at hl 2 rfl) ?_
        replace h := o_b h; obtain ⟨_, k40, h⟩ := h
        replace h := o_b h; obtain ⟨q40, h40, h⟩ := h
        refine m_call (va_runV (As := [.int (8 : Int32), .int v1, .int v2]) (rest := []) ⟨hx, hb, hml, hown, hts⟩ (c_X10_part l D b0 sz h40) (cwV 3 hts gX10_either_X10_part rfl rfl rfl (by decide +kernel) ⟨Nat.le_of_ble_eq_true rfl, Nat.le_of_ble_eq_true rfl⟩) ⟨PW.blind, m_recv (ci := 10) rfl hK hM k40, (fun U hU hW => ⟨rfl, PW.call hK hM hS hU hW⟩)⟩ rfl rfl hl.1 rfl (lv_room (Nat.le_of_ble_eq_true rfl)) dX10_either_40 ⟨(Nat.le_refl _), (Nat.le_refl _)⟩) hS (fun H locs hM hS => ?_)
        replace h := Option.some.inj h; subst h
        exact W.iret hx hb hr (fun t ht hW => ⟨rfl, by rw [ht]; exact hM.moved hW.alike, hS.F ht⟩) hS.2.2 dX10_either_43
      replace h := o_t c28 h
      refine lv_iconst (v := (0 : Int32)) hx hb dX10_either_31 (by decide) ?_
      refine lv_goto (tgt := 43) hx hb dX10_either_32 (by decide) ?_
      replace h := Option.some.inj h; subst h
      exact W.iret hx hb hr (fun t ht hW => ⟨rfl, by rw [ht]; exact hM.moved hW.alike, hS.F ht⟩) hS.2.2 dX10_either_43
    replace h := o_t c16 h
    refine lv_iload_n hx hb dX10_either_19 rfl (lv_at hl 1 rfl) ?_
    refine lv_goto (tgt := 43) hx hb dX10_either_20 (by decide) ?_
    replace h := Option.some.inj h; subst h
    exact W.iret hx hb hr (fun t ht hW => ⟨rfl, by rw [ht]; exact hM.moved hW.alike, hS.F ht⟩) hS.2.2 dX10_either_43
  replace h := o_t c7 h
  refine lv_iload_n hx hb dX10_either_10 rfl (lv_at hl 2 rfl) ?_
  refine lv_goto (tgt := 43) hx hb dX10_either_11 (by decide) ?_
  replace h := Option.some.inj h; subst h
  exact W.iret hx hb hr (fun t ht hW => ⟨rfl, by rw [ht]; exact hM.moved hW.alike, hS.F ht⟩) hS.2.2 dX10_either_43
set_option maxHeartbeats 4000000 in
set_option maxRecDepth 100000 in
theorem c_X10_either (l : Launch) (D : mmD) (b0 sz : Nat) {v0 : Nat} {v1 : Int32} {v2 : Int32} {f : mmF} {res : Int32 × mmF} (h : f_X10_either v0 v1 v2 f = some res) : Met l yX10_either wsX10_either ({ frames := 5, cells := 0, slots := 0, locals := 123 } : Room) (va_Pc [.ref v0, .int v1, .int v2] (PW D b0 f sz)) (QW D b0 (some (.int res.1)) res.2 sz) 0 0 (fun q => b0 ≤ q) := by
  refine Met.ofW (cc := cX10_either) (maxL := 3) (ret := (some .int)) (by decide) rfl ?_
  intro p e s m args below meth c s₁ B hml hv
  obtain ⟨rfl, hM, hK⟩ := hv
  have hl := lv_entry ([.ref v0, .int v1, .int v2]) (n := 3) (Nat.le_of_ble_eq_true rfl)
  rw [lg_entry_eq]
  generalize (lg_sl ([.ref v0, .int v1, .int v2]) ++ List.replicate (3 - (lg_sl ([.ref v0, .int v1, .int v2])).length) Slot.unset).toArray = ls at hl ⊢
  have hl : lv_has ls 3 [(0, .ref v0), (1, .int v1), (2, .int v2)] := hl
  exact w_X10_either ⟨B.exec, B.bytes, B.returns, hml, findClass_of_methodNamed B.named, atoms_spec (ws := wsX10_either) B.pre, B.notSynchronized, hK⟩ h s.heap [] ls hM va_S.rf hl
end S_X10_either
/-! X10_implies -/
noncomputable def f_X10_implies (v0 : Nat) (v1 : Int32) (v2 : Int32) (f : mmF) : Option (Int32 × mmF) :=
  if v1 = 0 then
  (some (v2, f))
  else
  if v1 = (1 : Int32) then
  (some ((0 : Int32), f))
  else
  if v2 = 0 then
  (some ((0 : Int32), f))
  else
  if v1 = v2 then
  (some ((0 : Int32), f))
  else
  (ckO f v0 10).bind fun _ =>
  (f_X10_part v0 (9 : Int32) v1 v2 f).bind fun q31 =>
  some (q31.1, q31.2)
section S_X10_implies
variable {p : Program} {l : Launch} {e : Env} {s : State} {m : MethodId} {args : Array Value} {below : List Frame} {meth : Method} {c : Code} {D : mmD} {b0 sz : Nat} {f : mmF}
set_option maxHeartbeats 4000000 in
set_option maxRecDepth 100000 in
theorem w_X10_implies (C0 : CX cX10_implies 3 (some .int) wsX10_implies RX10 p s m args meth c D b0) {v0 : Nat} {v1 : Int32} {v2 : Int32} {res : Int32 × mmF} (h : f_X10_implies v0 v1 v2 f = some res) : ∀ (H : Heap) (locs : List Loc) (ls : Array Slot), MM vwCl D b0 f sz s H → mS b0 s H locs → lv_has ls 3 [(0, .ref v0), (1, .int v1), (2, .int v2)] → W p l e ({ frames := 5, cells := 0, slots := 0, locals := 123 } : Room) s m args below meth c H locs 0 0 (MQ below (QW D b0 (some (.int res.1)) res.2 sz) args s 0 0 (fun q => b0 ≤ q)) (F0 m 0 ls []) := by
  obtain ⟨hx, hb, hr, hml, hown, hts, hlocks, hK⟩ := id C0
  intro H locs ls hM hS hl
  unfold f_X10_implies at h
  refine lv_iload_n hx hb dX10_implies_0 rfl (lv_at hl 1 rfl) ?_
  refine lv_if_ne (tgt := 8) hx hb dX10_implies_1 (by decide) (fun c1 => ?_) (fun c1 => ?_)
  · replace h := o_f c1 h
    refine lv_iload_n hx hb dX10_implies_8 rfl (lv_at hl 1 rfl) ?_
    refine lv_iconst (v := (1 : Int32)) hx hb dX10_implies_9 (by decide) ?_
    refine lv_icmp_eq (tgt := 22) hx hb dX10_implies_10 (by decide) (fun c10 => ?_) (fun c10 => ?_)
    · replace h := o_t c10 h
      refine lv_iconst (v := (0 : Int32)) hx hb dX10_implies_22 (by decide) ?_
      refine lv_goto (tgt := 34) hx hb dX10_implies_23 (by decide) ?_
      replace h := Option.some.inj h; subst h
      exact W.iret hx hb hr (fun t ht hW => ⟨rfl, by rw [ht]; exact hM.moved hW.alike, hS.F ht⟩) hS.2.2 dX10_implies_34
    replace h := o_f c10 h
    refine lv_iload_n hx hb dX10_implies_13 rfl (lv_at hl 2 rfl) ?_
    refine lv_if_eq (tgt := 22) hx hb dX10_implies_14 (by decide) (fun c14 => ?_) (fun c14 => ?_)
    · replace h := o_t c14 h
      refine lv_iconst (v := (0 : Int32)) hx hb dX10_implies_22 (by decide) ?_
      refine lv_goto (tgt := 34) hx hb dX10_implies_23 (by decide) ?_
      replace h := Option.some.inj h; subst h
      exact W.iret hx hb hr (fun t ht hW => ⟨rfl, by rw [ht]; exact hM.moved hW.alike, hS.F ht⟩) hS.2.2 dX10_implies_34
    replace h := o_f c14 h
    refine lv_iload_n hx hb dX10_implies_17 rfl (lv_at hl 1 rfl) ?_
    refine lv_iload_n hx hb dX10_implies_18 rfl (lv_at hl 2 rfl) ?_
    refine lv_icmp_ne (tgt := 26) hx hb dX10_implies_19 (by decide) (fun c19 => ?_) (fun c19 => ?_)
    · replace h := o_f c19 h
      refine lv_aload_n hx hb dX10_implies_26 rfl (lv_at hl 0 rfl) ?_
      refine lv_bipush (v := (9 : Int32)) hx hb dX10_implies_27 (by decide) ?_
      refine lv_iload_n hx hb dX10_implies_29 rfl (lv_at hl 1 rfl) ?_
      refine lv_iload_n hx hb dX10_implies_30 rfl (lv_at hl 2 rfl) ?_
      replace h := o_b h; obtain ⟨_, k31, h⟩ := h
      replace h := o_b h; obtain ⟨q31, h31, h⟩ := h
      refine m_call (va_runV (As := [.int (9 : Int32), .int v1, .int v2]) (rest := []) ⟨hx, hb, hml, hown, hts⟩ (c_X10_part l D b0 sz h31) (cwV 3 hts gX10_implies_X10_part rfl rfl rfl (by decide +kernel) ⟨Nat.le_of_ble_eq_true rfl, Nat.le_of_ble_eq_true rfl⟩) ⟨PW.blind, m_recv (ci := 10) rfl hK hM k31, (fun U hU hW => ⟨rfl, PW.call hK hM hS hU hW⟩)⟩ rfl rfl hl.1 rfl (lv_room (Nat.le_of_ble_eq_true rfl)) dX10_implies_31 ⟨(Nat.le_refl _), (Nat.le_refl _)⟩) hS (fun H locs hM hS => ?_)
      replace h := Option.some.inj h; subst h
      exact W.iret hx hb hr (fun t ht hW => ⟨rfl, by rw [ht]; exact hM.moved hW.alike, hS.F ht⟩) hS.2.2 dX10_implies_34
    replace h := o_t c19 h
    refine lv_iconst (v := (0 : Int32)) hx hb dX10_implies_22 (by decide) ?_
    refine lv_goto (tgt := 34) hx hb dX10_implies_23 (by decide) ?_
    replace h := Option.some.inj h; subst h
    exact W.iret hx hb hr (fun t ht hW => ⟨rfl, by rw [ht]; exact hM.moved hW.alike, hS.F ht⟩) hS.2.2 dX10_implies_34
  replace h := o_t c1 h
  refine lv_iload_n hx hb dX10_implies_4 rfl (lv_at hl 2 rfl) ?_
  refine lv_goto (tgt := 34) hx hb dX10_implies_5 (by decide) ?_
  replace h := Option.some.inj h; subst h
  exact W.iret hx hb hr (fun t ht hW => ⟨rfl, by rw [ht]; exact hM.moved hW.alike, hS.F ht⟩) hS.2.2 dX10_implies_34
set_option maxHeartbeats 4000000 in
set_option maxRecDepth 100000 in
theorem c_X10_implies (l : Launch) (D : mmD) (b0 sz : Nat) {v0 : Nat} {v1 : Int32} {v2 : Int32} {f : mmF} {res : Int32 × mmF} (h : f_X10_implies v0 v1 v2 f = some res) : Met l yX10_implies wsX10_implies ({ frames := 5, cells := 0, slots := 0, locals := 123 } : Room) (va_Pc [.ref v0, .int v1, .int v2] (PW D b0 f sz)) (QW D b0 (some (.int res.1)) res.2 sz) 0 0 (fun q => b0 ≤ q) := by
  refine Met.ofW (cc := cX10_implies) (maxL := 3) (ret := (some .int)) (by decide) rfl ?_
  intro p e s m args below meth c s₁ B hml hv
  obtain ⟨rfl, hM, hK⟩ := hv
  have hl := lv_entry ([.ref v0, .int v1, .int v2]) (n := 3) (Nat.le_of_ble_eq_true rfl)
  rw [lg_entry_eq]
  generalize (lg_sl ([.ref v0, .int v1, .int v2]) ++ List.replicate (3 - (lg_sl ([.ref v0, .int v1, .int v2])).length) Slot.unset).toArray = ls at hl ⊢
  have hl : lv_has ls 3 [(0, .ref v0), (1, .int v1), (2, .int v2)] := hl
  exact w_X10_implies ⟨B.exec, B.bytes, B.returns, hml, findClass_of_methodNamed B.named, atoms_spec (ws := wsX10_implies) B.pre, B.notSynchronized, hK⟩ h s.heap [] ls hM va_S.rf hl
end S_X10_implies
/-! X10_partOf -/
set_option maxRecDepth 20000 in
theorem qi_X10_partOf_X10 : ∀ w ∈ u_ws RX10 TX10 25, w ∈ wsX10_partOf := by decide +kernel
set_option maxRecDepth 20000 in
theorem q_X10_partOf_1 : Cond.fieldLink RX10 7 "StageTruthsModel" "now" "[I" ∈ wsX10_partOf := by decide +kernel
set_option maxRecDepth 20000 in
theorem q_X10_partOf_2 : Cond.fieldLink RX10 35 "StageTruthsModel" "stack" "[I" ∈ wsX10_partOf := by decide +kernel
noncomputable def f_X10_partOf_188 (k13 : Nat → Int32 → Int32 → Int32 → mmF → Option (Int32 × mmF))  (v0 : Nat) (v2 : Int32) (v3 : Int32) (v4 : Int32) (f : mmF) : Option (Int32 × mmF) :=
  k13 v0 v2 v3 (v4 + (1 : Int32)) f
noncomputable def f_X10_partOf_187 (k13 : Nat → Int32 → Int32 → Int32 → mmF → Option (Int32 × mmF))  (v0 : Nat) (v2 : Int32) (v3 : Int32) (v4 : Int32) (t0 : Nat) (t1 : Int32) (t2 : Int32) (f : mmF) : Option (Int32 × mmF) :=
  (stA 0 f t0 t1 t2).bind fun f187 =>
  f_X10_partOf_188 k13 v0 v2 v3 v4 f187
noncomputable def f_X10_partOf_13   : Nat → Nat → Int32 → Int32 → Int32 → mmF → Option (Int32 × mmF)
  | 0, _, _, _, _, _ => none
  | n + 1, v0, v2, v3, v4, f =>
    (ldR f v0 10 0).bind fun x16 =>
    (ldA 0 f x16 v2).bind fun x20 =>
    if x20 < v4 then
    ((ldR f v0 10 14).bind fun x195 =>
    (ldA 0 f x195 (0 : Int32)).bind fun x199 =>
    some (x199, f))
    else
    (ldR f v0 10 0).bind fun x25 =>
    (ldA 0 f x25 (v2 + v4)).bind fun x32 =>
    if (4 : Int32) ≤ x32 then
    (if (6 : Int32) ≤ x32 then
    (if x32 = (6 : Int32) then
    ((ldR f v0 10 14).bind fun x92 =>
    (ldR f v0 10 14).bind fun x100 =>
    (ldA 0 f x100 (v3 - (1 : Int32))).bind fun x106 =>
    (ckO f v0 10).bind fun _ =>
    (f_X10_implies v0 x106 (1 : Int32) f).bind fun q108 =>
    (stA 0 q108.2 x92 (v3 - (1 : Int32)) q108.1).bind fun f111 =>
    f_X10_partOf_188 (fun a0 a1 a2 a3 a4 => f_X10_partOf_13 n a0 a1 a2 a3 a4) v0 v2 v3 v4 f111)
    else
    (ldR f v0 10 14).bind fun x119 =>
    (ldA 0 f x119 ((v3 + (-1 : Int32)) - (1 : Int32))).bind fun x125 =>
    (ldR f v0 10 14).bind fun x129 =>
    (ldA 0 f x129 (v3 + (-1 : Int32))).bind fun x133 =>
    (ldR f v0 10 14).bind fun x137 =>
    if x32 = (7 : Int32) then
    ((ckO f v0 10).bind fun _ =>
    (f_X10_both v0 x125 x133 f).bind fun q155 =>
    f_X10_partOf_187 (fun a0 a1 a2 a3 a4 => f_X10_partOf_13 n a0 a1 a2 a3 a4) v0 v2 (v3 + (-1 : Int32)) v4 x137 ((v3 + (-1 : Int32)) - (1 : Int32)) q155.1 q155.2)
    else
    if x32 = (8 : Int32) then
    ((ckO f v0 10).bind fun _ =>
    (f_X10_either v0 x125 x133 f).bind fun q173 =>
    f_X10_partOf_187 (fun a0 a1 a2 a3 a4 => f_X10_partOf_13 n a0 a1 a2 a3 a4) v0 v2 (v3 + (-1 : Int32)) v4 x137 ((v3 + (-1 : Int32)) - (1 : Int32)) q173.1 q173.2)
    else
    (ckO f v0 10).bind fun _ =>
    (f_X10_implies v0 x125 x133 f).bind fun q184 =>
    f_X10_partOf_187 (fun a0 a1 a2 a3 a4 => f_X10_partOf_13 n a0 a1 a2 a3 a4) v0 v2 (v3 + (-1 : Int32)) v4 x137 ((v3 + (-1 : Int32)) - (1 : Int32)) q184.1 q184.2)
    else
    (ldR f v0 10 14).bind fun x69 =>
    (stA 0 f x69 v3 (x32 - (4 : Int32))).bind fun f77 =>
    f_X10_partOf_188 (fun a0 a1 a2 a3 a4 => f_X10_partOf_13 n a0 a1 a2 a3 a4) v0 v2 (v3 + (1 : Int32)) v4 f77)
    else
    (ldR f v0 10 14).bind fun x42 =>
    (ckO f v0 10).bind fun _ =>
    (f_X10_part v0 x32 (0 : Int32) (0 : Int32) f).bind fun q51 =>
    (stA 0 q51.2 x42 v3 q51.1).bind fun f54 =>
    f_X10_partOf_188 (fun a0 a1 a2 a3 a4 => f_X10_partOf_13 n a0 a1 a2 a3 a4) v0 v2 (v3 + (1 : Int32)) v4 f54
noncomputable def f_X10_partOf (v0 : Nat) (v1 : Int32) (f : mmF) : Option (Int32 × mmF) :=
  f_X10_partOf_13 FU v0 ((17 : Int32) + ((31 : Int32) * v1)) (0 : Int32) (1 : Int32) f
section S_X10_partOf
variable {p : Program} {l : Launch} {e : Env} {s : State} {m : MethodId} {args : Array Value} {below : List Frame} {meth : Method} {c : Code} {D : mmD} {b0 sz : Nat} {f : mmF}
set_option maxHeartbeats 4000000 in
set_option maxRecDepth 100000 in
theorem w_X10_partOf_188 (C0 : CX cX10_partOf 8 (some .int) wsX10_partOf RX10 p s m args meth c D b0) {k13 : Nat → Int32 → Int32 → Int32 → mmF → Option (Int32 × mmF)} {res : Int32 × mmF} (hk13 : ∀ (v0 : Nat) (v2 : Int32) (v3 : Int32) (v4 : Int32) (f : mmF), k13 v0 v2 v3 v4 f = some res → ∀ (H : Heap) (locs : List Loc) (ls : Array Slot), MM vwCl D b0 f sz s H → mS b0 s H locs → lv_has ls 8 [(0, .ref v0), (2, .int v2), (3, .int v3), (4, .int v4)] → W p l e ({ frames := 6, cells := 0, slots := 0, locals := 145 } : Room) s m args below meth c H locs 0 0 (MQ below (QW D b0 (some (.int res.1)) res.2 sz) args s 0 0 (fun q => b0 ≤ q)) (F0 m 13 ls [])) : ∀ (v0 : Nat) (v2 : Int32) (v3 : Int32) (v4 : Int32) (f : mmF), f_X10_partOf_188 k13 v0 v2 v3 v4 f = some res → ∀ (H : Heap) (locs : List Loc) (ls : Array Slot), MM vwCl D b0 f sz s H → mS b0 s H locs → lv_has ls 8 [(0, .ref v0), (2, .int v2), (3, .int v3), (4, .int v4)] → W p l e ({ frames := 6, cells := 0, slots := 0, locals := 145 } : Room) s m args below meth c H locs 0 0 (MQ below (QW D b0 (some (.int res.1)) res.2 sz) args s 0 0 (fun q => b0 ≤ q)) (F0 m 188 ls []) := by
  obtain ⟨hx, hb, hr, hml, hown, hts, hlocks, hK⟩ := id C0
  intro v0 v2 v3 v4 f h H locs ls hM hS hl
  unfold f_X10_partOf_188 at h
  refine lv_iinc (v := (v4 + (1 : Int32))) (lv' := [(4, .int (v4 + (1 : Int32))), (0, .ref v0), (2, .int v2), (3, .int v3)]) hx hb dX10_partOf_188 hl (k := 3) rfl rfl (by decide) rfl (fun ls hl => ?_)
  refine lv_goto (tgt := 13) hx hb dX10_partOf_191 (by decide) ?_
  exact hk13 _ _ _ _ _ h _ _ _ hM hS (lv_sub hl [1, 2, 3, 0] rfl)
set_option maxHeartbeats 4000000 in
set_option maxRecDepth 100000 in
theorem w_X10_partOf_187 (C0 : CX cX10_partOf 8 (some .int) wsX10_partOf RX10 p s m args meth c D b0) {k13 : Nat → Int32 → Int32 → Int32 → mmF → Option (Int32 × mmF)} {res : Int32 × mmF} (hk13 : ∀ (v0 : Nat) (v2 : Int32) (v3 : Int32) (v4 : Int32) (f : mmF), k13 v0 v2 v3 v4 f = some res → ∀ (H : Heap) (locs : List Loc) (ls : Array Slot), MM vwCl D b0 f sz s H → mS b0 s H locs → lv_has ls 8 [(0, .ref v0), (2, .int v2), (3, .int v3), (4, .int v4)] → W p l e ({ frames := 6, cells := 0, slots := 0, locals := 145 } : Room) s m args below meth c H locs 0 0 (MQ below (QW D b0 (some (.int res.1)) res.2 sz) args s 0 0 (fun q => b0 ≤ q)) (F0 m 13 ls [])) : ∀ (v0 : Nat) (v2 : Int32) (v3 : Int32) (v4 : Int32) (t0 : Nat) (t1 : Int32) (t2 : Int32) (f : mmF), f_X10_partOf_187 k13 v0 v2 v3 v4 t0 t1 t2 f = some res → ∀ (H : Heap) (locs : List Loc) (ls : Array Slot), MM vwCl D b0 f sz s H → mS b0 s H locs → lv_has ls 8 [(0, .ref v0), (2, .int v2), (3, .int v3), (4, .int v4)] → W p l e ({ frames := 6, cells := 0, slots := 0, locals := 145 } : Room) s m args below meth c H locs 0 0 (MQ below (QW D b0 (some (.int res.1)) res.2 sz) args s 0 0 (fun q => b0 ≤ q)) (F0 m 187 ls [.int t2, .int t1, .ref t0]) := by
  obtain ⟨hx, hb, hr, hml, hown, hts, hlocks, hK⟩ := id C0
  intro v0 v2 v3 v4 t0 t1 t2 f h H locs ls hM hS hl
  unfold f_X10_partOf_187 at h
  replace h := o_b h; obtain ⟨f187, h187, h⟩ := h
  refine m_iast hx hb hK.1 hM hS rfl h187 dX10_partOf_187 (fun H locs hM hS => ?_)
  exact w_X10_partOf_188 C0 hk13 _ _ _ _ _ h _ _ _ hM hS (lv_sub hl [0, 1, 2, 3] rfl)
set_option maxHeartbeats 4000000 in
set_option maxRecDepth 100000 in
theorem w_X10_partOf_13 (C0 : CX cX10_partOf 8 (some .int) wsX10_partOf RX10 p s m args meth c D b0) {res : Int32 × mmF} : ∀ (n : Nat), ∀ (v0 : Nat) (v2 : Int32) (v3 : Int32) (v4 : Int32) (f : mmF), f_X10_partOf_13 n v0 v2 v3 v4 f = some res → ∀ (H : Heap) (locs : List Loc) (ls : Array Slot), MM vwCl D b0 f sz s H → mS b0 s H locs → lv_has ls 8 [(0, .ref v0), (2, .int v2), (3, .int v3), (4, .int v4)] → W p l e ({ frames := 6, cells := 0, slots := 0, locals := 145 } : Room) s m args below meth c H locs 0 0 (MQ below (QW D b0 (some (.int res.1)) res.2 sz) args s 0 0 (fun q => b0 ≤ q)) (F0 m 13 ls []) := by
  obtain ⟨hx, hb, hr, hml, hown, hts, hlocks, hK⟩ := id C0
  intro n
  induction n with
  | zero =>
    intro v0 v2 v3 v4 f h
    have h : (none : Option (Int32 × mmF)) = some res := h
    cases h
  | succ n ih =>
    intro v0 v2 v3 v4 f h H locs ls hM hS hl
    rw [f_X10_partOf_13] at h
    refine lv_iload hx hb dX10_partOf_13 (lv_at hl 3 rfl) ?_
    refine lv_aload_n hx hb dX10_partOf_15 rfl (lv_at hl 0 rfl) ?_
    replace h := o_b h; obtain ⟨x16, h16, h⟩ := h
    refine m_get (C := RX10) (T := TX10) (N := 25) (ci := 10) hx hb hts qi_X10_partOf_X10 hown hK.1 hM 0 (ldR_F h16) rfl (by decide) (hts _ q_X10_partOf_1) (fun _ h9 => h9) dX10_partOf_16 ?_
    refine lv_iload_n hx hb dX10_partOf_19 rfl (lv_at hl 1 rfl) ?_
    replace h := o_b h; obtain ⟨x20, h20, h⟩ := h
    refine m_iald hx hb hK.1 hM hS rfl h20 dX10_partOf_20 ?_
    refine lv_icmp_gt (tgt := 194) hx hb dX10_partOf_21 (by decide) (fun c21 => ?_) (fun c21 => ?_)
    · replace h := o_t c21 h
      refine lv_aload_n hx hb dX10_partOf_194 rfl (lv_at hl 0 rfl) ?_
      replace h := o_b h; obtain ⟨x195, h195, h⟩ := h
      refine m_get (C := RX10) (T := TX10) (N := 25) (ci := 10) hx hb hts qi_X10_partOf_X10 hown hK.1 hM 14 (ldR_F h195) rfl (by decide) (hts _ q_X10_partOf_2) (fun _ h9 => h9) dX10_partOf_195 ?_
      refine lv_iconst (v := (0 : Int32)) hx hb dX10_partOf_198 (by decide) ?_
      replace h := o_b h; obtain ⟨x199, h199, h⟩ := h
      refine m_iald hx hb hK.1 hM hS rfl h199 dX10_partOf_199 ?_
      replace h := Option.some.inj h; subst h
      exact W.iret hx hb hr (fun t ht hW => ⟨rfl, by rw [ht]; exact hM.moved hW.alike, hS.F ht⟩) hS.2.2 dX10_partOf_200
    replace h := o_f c21 h
    refine lv_aload_n hx hb dX10_partOf_24 rfl (lv_at hl 0 rfl) ?_
    replace h := o_b h; obtain ⟨x25, h25, h⟩ := h
    refine m_get (C := RX10) (T := TX10) (N := 25) (ci := 10) hx hb hts qi_X10_partOf_X10 hown hK.1 hM 0 (ldR_F h25) rfl (by decide) (hts _ q_X10_partOf_1) (fun _ h9 => h9) dX10_partOf_25 ?_
    refine lv_iload_n hx hb dX10_partOf_28 rfl (lv_at hl 1 rfl) ?_
    refine lv_iload hx hb dX10_partOf_29 (lv_at hl 3 rfl) ?_
    refine lv_iadd hx hb dX10_partOf_31 ?_
    replace h := o_b h; obtain ⟨x32, h32, h⟩ := h
    refine m_iald hx hb hK.1 hM hS rfl h32 dX10_partOf_32 ?_
    refine lv_istore (lv' := [(5, .int x32), (0, .ref v0), (2, .int v2), (3, .int v3), (4, .int v4)]) hx hb dX10_partOf_33 hl (by decide) rfl (fun ls hl => ?_)
    refine lv_iload hx hb dX10_partOf_35 (lv_at hl 0 rfl) ?_
    refine lv_iconst (v := (4 : Int32)) hx hb dX10_partOf_37 (by decide) ?_
    refine lv_icmp_ge (tgt := 61) hx hb dX10_partOf_38 (by decide) (fun c38 => ?_) (fun c38 => ?_)
    · replace h := o_t c38 h
      refine lv_iload hx hb dX10_partOf_61 (lv_at hl 0 rfl) ?_
      refine lv_bipush (v := (6 : Int32)) hx hb dX10_partOf_63 (by decide) ?_
      refine lv_icmp_ge (tgt := 84) hx hb dX10_partOf_65 (by decide) (fun c65 => ?_) (fun c65 => ?_)
      · replace h := o_t c65 h
        refine lv_iload hx hb dX10_partOf_84 (lv_at hl 0 rfl) ?_
        refine lv_bipush (v := (6 : Int32)) hx hb dX10_partOf_86 (by decide) ?_
        refine lv_icmp_ne (tgt := 115) hx hb dX10_partOf_88 (by decide) (fun c88 => ?_) (fun c88 => ?_)
        · replace h := o_f c88 h
          refine lv_iinc (v := (v3 + (-1 : Int32))) (lv' := [(3, .int (v3 + (-1 : Int32))), (5, .int x32), (0, .ref v0), (2, .int v2), (4, .int v4)]) hx hb dX10_partOf_115 hl (k := 3) rfl rfl (by decide) rfl (fun ls hl => ?_)
          refine lv_aload_n hx hb dX10_partOf_118 rfl (lv_at hl 2 rfl) ?_
          replace h := o_b h; obtain ⟨x119, h119, h⟩ := h
          refine m_get (C := RX10) (T := TX10) (N := 25) (ci := 10) hx hb hts qi_X10_partOf_X10 hown hK.1 hM 14 (ldR_F h119) rfl (by decide) (hts _ q_X10_partOf_2) (fun _ h9 => h9) dX10_partOf_119 ?_
          refine lv_iload_n hx hb dX10_partOf_122 rfl (lv_at hl 0 rfl) ?_
          refine lv_iconst (v := (1 : Int32)) hx hb dX10_partOf_123 (by decide) ?_
          refine lv_isub hx hb dX10_partOf_124 ?_
          replace h := o_b h; obtain ⟨x125, h125, h⟩ := h
          refine m_iald hx hb hK.1 hM hS rfl h125 dX10_partOf_125 ?_
          refine lv_istore (lv' := [(6, .int x125), (3, .int (v3 + (-1 : Int32))), (5, .int x32), (0, .ref v0), (2, .int v2), (4, .int v4)]) hx hb dX10_partOf_126 hl (by decide) rfl (fun ls hl => ?_)
          refine lv_aload_n hx hb dX10_partOf_128 rfl (lv_at hl 3 rfl) ?_
          replace h := o_b h; obtain ⟨x129, h129, h⟩ := h
          refine m_get (C := RX10) (T := TX10) (N := 25) (ci := 10) hx hb hts qi_X10_partOf_X10 hown hK.1 hM 14 (ldR_F h129) rfl (by decide) (hts _ q_X10_partOf_2) (fun _ h9 => h9) dX10_partOf_129 ?_
          refine lv_iload_n hx hb dX10_partOf_132 rfl (lv_at hl 1 rfl) ?_
          replace h := o_b h; obtain ⟨x133, h133, h⟩ := h
          refine m_iald hx hb hK.1 hM hS rfl h133 dX10_partOf_133 ?_
          refine lv_istore (lv' := [(7, .int x133), (6, .int x125), (3, .int (v3 + (-1 : Int32))), (5, .int x32), (0, .ref v0), (2, .int v2), (4, .int v4)]) hx hb dX10_partOf_134 hl (by decide) rfl (fun ls hl => ?_)
          refine lv_aload_n hx hb dX10_partOf_136 rfl (lv_at hl 4 rfl) ?_
          replace h := o_b h; obtain ⟨x137, h137, h⟩ := h
          refine m_get (C := RX10) (T := TX10) (N := 25) (ci := 10) hx hb hts qi_X10_partOf_X10 hown hK.1 hM 14 (ldR_F h137) rfl (by decide) (hts _ q_X10_partOf_2) (fun _ h9 => h9) dX10_partOf_137 ?_
          refine lv_iload_n hx hb dX10_partOf_140 rfl (lv_at hl 2 rfl) ?_
          refine lv_iconst (v := (1 : Int32)) hx hb dX10_partOf_141 (by decide) ?_
          refine lv_isub hx hb dX10_partOf_142 ?_
          refine lv_iload hx hb dX10_partOf_143 (lv_at hl 3 rfl) ?_
          refine lv_bipush (v := (7 : Int32)) hx hb dX10_partOf_145 (by decide) ?_
          refine lv_icmp_ne (tgt := 161) hx hb dX10_partOf_147 (by decide) (fun c147 => ?_) (fun c147 => ?_)
          · replace h := o_f c147 h
            refine lv_iload hx hb dX10_partOf_161 (lv_at hl 3 rfl) ?_
            refine lv_bipush (v := (8 : Int32)) hx hb dX10_partOf_163 (by decide) ?_
            refine lv_icmp_ne (tgt := 179) hx hb dX10_partOf_165 (by decide) (fun c165 => ?_) (fun c165 => ?_)
            · replace h := o_f c165 h
              refine lv_aload_n hx hb dX10_partOf_179 rfl (lv_at hl 4 rfl) ?_
              refine lv_iload hx hb dX10_partOf_180 (lv_at hl 1 rfl) ?_
              refine lv_iload hx hb dX10_partOf_182 (lv_at hl 0 rfl) ?_
              replace h := o_b h; obtain ⟨_, k184, h⟩ := h
              replace h := o_b h; obtain ⟨q184, h184, h⟩ := h
              refine m_call (va_runV (As := [.int x125, .int x133]) (rest := [.int ((v3 + (-1 : Int32)) - (1 : Int32)), .ref x137]) ⟨hx, hb, hml, hown, hts⟩ (c_X10_implies l D b0 sz h184) (cwV 2 hts gX10_partOf_X10_implies rfl rfl rfl (by decide +kernel) ⟨Nat.le_of_ble_eq_true rfl, Nat.le_of_ble_eq_true rfl⟩) ⟨PW.blind, m_recv (ci := 10) rfl hK hM k184, (fun U hU hW => ⟨rfl, PW.call hK hM hS hU hW⟩)⟩ rfl rfl hl.1 rfl (lv_room (Nat.le_of_ble_eq_true rfl)) dX10_partOf_184 ⟨(Nat.le_refl _), (Nat.le_refl _)⟩) hS (fun H locs hM hS => ?_)
              exact w_X10_partOf_187 C0 ih _ _ _ _ _ _ _ _ h _ _ _ hM hS (lv_sub hl [4, 5, 2, 6] rfl)
            replace h := o_t c165 h
            refine lv_aload_n hx hb dX10_partOf_168 rfl (lv_at hl 4 rfl) ?_
            refine lv_iload hx hb dX10_partOf_169 (lv_at hl 1 rfl) ?_
            refine lv_iload hx hb dX10_partOf_171 (lv_at hl 0 rfl) ?_
            replace h := o_b h; obtain ⟨_, k173, h⟩ := h
            replace h := o_b h; obtain ⟨q173, h173, h⟩ := h
            refine m_call (va_runV (As := [.int x125, .int x133]) (rest := [.int ((v3 + (-1 : Int32)) - (1 : Int32)), .ref x137]) ⟨hx, hb, hml, hown, hts⟩ (c_X10_either l D b0 sz h173) (cwV 2 hts gX10_partOf_X10_either rfl rfl rfl (by decide +kernel) ⟨Nat.le_of_ble_eq_true rfl, Nat.le_of_ble_eq_true rfl⟩) ⟨PW.blind, m_recv (ci := 10) rfl hK hM k173, (fun U hU hW => ⟨rfl, PW.call hK hM hS hU hW⟩)⟩ rfl rfl hl.1 rfl (lv_room (Nat.le_of_ble_eq_true rfl)) dX10_partOf_173 ⟨(Nat.le_refl _), (Nat.le_refl _)⟩) hS (fun H locs hM hS => ?_)
            refine lv_goto (tgt := 187) hx hb dX10_partOf_176 (by decide) ?_
            exact w_X10_partOf_187 C0 ih _ _ _ _ _ _ _ _ h _ _ _ hM hS (lv_sub hl [4, 5, 2, 6] rfl)
          replace h := o_t c147 h
          refine lv_aload_n hx hb dX10_partOf_150 rfl (lv_at hl 4 rfl) ?_
          refine lv_iload hx hb dX10_partOf_151 (lv_at hl 1 rfl) ?_
          refine lv_iload hx hb dX10_partOf_153 (lv_at hl 0 rfl) ?_
          replace h := o_b h; obtain ⟨_, k155, h⟩ := h
          replace h := o_b h; obtain ⟨q155, h155, h⟩ := h
          refine m_call (va_runV (As := [.int x125, .int x133]) (rest := [.int ((v3 + (-1 : Int32)) - (1 : Int32)), .ref x137]) ⟨hx, hb, hml, hown, hts⟩ (c_X10_both l D b0 sz h155) (cwV 2 hts gX10_partOf_X10_both rfl rfl rfl (by decide +kernel) ⟨Nat.le_of_ble_eq_true rfl, Nat.le_of_ble_eq_true rfl⟩) ⟨PW.blind, m_recv (ci := 10) rfl hK hM k155, (fun U hU hW => ⟨rfl, PW.call hK hM hS hU hW⟩)⟩ rfl rfl hl.1 rfl (lv_room (Nat.le_of_ble_eq_true rfl)) dX10_partOf_155 ⟨(Nat.le_refl _), (Nat.le_refl _)⟩) hS (fun H locs hM hS => ?_)
          refine lv_goto (tgt := 187) hx hb dX10_partOf_158 (by decide) ?_
          exact w_X10_partOf_187 C0 ih _ _ _ _ _ _ _ _ h _ _ _ hM hS (lv_sub hl [4, 5, 2, 6] rfl)
        replace h := o_t c88 h
        refine lv_aload_n hx hb dX10_partOf_91 rfl (lv_at hl 1 rfl) ?_
        replace h := o_b h; obtain ⟨x92, h92, h⟩ := h
        refine m_get (C := RX10) (T := TX10) (N := 25) (ci := 10) hx hb hts qi_X10_partOf_X10 hown hK.1 hM 14 (ldR_F h92) rfl (by decide) (hts _ q_X10_partOf_2) (fun _ h9 => h9) dX10_partOf_92 ?_
        refine lv_iload_n hx hb dX10_partOf_95 rfl (lv_at hl 3 rfl) ?_
        refine lv_iconst (v := (1 : Int32)) hx hb dX10_partOf_96 (by decide) ?_
        refine lv_isub hx hb dX10_partOf_97 ?_
        refine lv_aload_n hx hb dX10_partOf_98 rfl (lv_at hl 1 rfl) ?_
        refine lv_aload_n hx hb dX10_partOf_99 rfl (lv_at hl 1 rfl) ?_
        replace h := o_b h; obtain ⟨x100, h100, h⟩ := h
        refine m_get (C := RX10) (T := TX10) (N := 25) (ci := 10) hx hb hts qi_X10_partOf_X10 hown hK.1 hM 14 (ldR_F h100) rfl (by decide) (hts _ q_X10_partOf_2) (fun _ h9 => h9) dX10_partOf_100 ?_
        refine lv_iload_n hx hb dX10_partOf_103 rfl (lv_at hl 3 rfl) ?_
        refine lv_iconst (v := (1 : Int32)) hx hb dX10_partOf_104 (by decide) ?_
        refine lv_isub hx hb dX10_partOf_105 ?_
        replace h := o_b h; obtain ⟨x106, h106, h⟩ := h
        refine m_iald hx hb hK.1 hM hS rfl h106 dX10_partOf_106 ?_
        refine lv_iconst (v := (1 : Int32)) hx hb dX10_partOf_107 (by decide) ?_
        replace h := o_b h; obtain ⟨_, k108, h⟩ := h
        replace h := o_b h; obtain ⟨q108, h108, h⟩ := h
        refine m_call (va_runV (As := [.int x106, .int (1 : Int32)]) (rest := [.int (v3 - (1 : Int32)), .ref x92]) ⟨hx, hb, hml, hown, hts⟩ (c_X10_implies l D b0 sz h108) (cwV 2 hts gX10_partOf_X10_implies rfl rfl rfl (by decide +kernel) ⟨Nat.le_of_ble_eq_true rfl, Nat.le_of_ble_eq_true rfl⟩) ⟨PW.blind, m_recv (ci := 10) rfl hK hM k108, (fun U hU hW => ⟨rfl, PW.call hK hM hS hU hW⟩)⟩ rfl rfl hl.1 rfl (lv_room (Nat.le_of_ble_eq_true rfl)) dX10_partOf_108 ⟨(Nat.le_refl _), (Nat.le_refl _)⟩) hS (fun H locs hM hS => ?_)
        replace h := o_b h; obtain ⟨f111, h111, h⟩ := h
        refine m_iast hx hb hK.1 hM hS rfl h111 dX10_partOf_111 (fun H locs hM hS => ?_)
        refine lv_goto (tgt := 188) hx hb dX10_partOf_112 (by decide) ?_
        exact w_X10_partOf_188 C0 ih _ _ _ _ _ h _ _ _ hM hS (lv_sub hl [1, 2, 3, 4] rfl)
      replace h := o_f c65 h
      refine lv_aload_n hx hb dX10_partOf_68 rfl (lv_at hl 1 rfl) ?_
      replace h := o_b h; obtain ⟨x69, h69, h⟩ := h
      refine m_get (C := RX10) (T := TX10) (N := 25) (ci := 10) hx hb hts qi_X10_partOf_X10 hown hK.1 hM 14 (ldR_F h69) rfl (by decide) (hts _ q_X10_partOf_2) (fun _ h9 => h9) dX10_partOf_69 ?_
      refine lv_iload_n hx hb dX10_partOf_72 rfl (lv_at hl 3 rfl) ?_
      refine lv_iload hx hb dX10_partOf_73 (lv_at hl 0 rfl) ?_
      refine lv_iconst (v := (4 : Int32)) hx hb dX10_partOf_75 (by decide) ?_
      refine lv_isub hx hb dX10_partOf_76 ?_
      replace h := o_b h; obtain ⟨f77, h77, h⟩ := h
      refine m_iast hx hb hK.1 hM hS rfl h77 dX10_partOf_77 (fun H locs hM hS => ?_)
      refine lv_iinc (v := (v3 + (1 : Int32))) (lv' := [(3, .int (v3 + (1 : Int32))), (5, .int x32), (0, .ref v0), (2, .int v2), (4, .int v4)]) hx hb dX10_partOf_78 hl (k := 3) rfl rfl (by decide) rfl (fun ls hl => ?_)
      refine lv_goto (tgt := 188) hx hb dX10_partOf_81 (by decide) ?_
      exact w_X10_partOf_188 C0 ih _ _ _ _ _ h _ _ _ hM hS (lv_sub hl [2, 3, 0, 4] rfl)
    replace h := o_f c38 h
    refine lv_aload_n hx hb dX10_partOf_41 rfl (lv_at hl 1 rfl) ?_
    replace h := o_b h; obtain ⟨x42, h42, h⟩ := h
    refine m_get (C := RX10) (T := TX10) (N := 25) (ci := 10) hx hb hts qi_X10_partOf_X10 hown hK.1 hM 14 (ldR_F h42) rfl (by decide) (hts _ q_X10_partOf_2) (fun _ h9 => h9) dX10_partOf_42 ?_
    refine lv_iload_n hx hb dX10_partOf_45 rfl (lv_at hl 3 rfl) ?_
    refine lv_aload_n hx hb dX10_partOf_46 rfl (lv_at hl 1 rfl) ?_
    refine lv_iload hx hb dX10_partOf_47 (lv_at hl 0 rfl) ?_
    refine lv_iconst (v := (0 : Int32)) hx hb dX10_partOf_49 (by decide) ?_
    refine lv_iconst (v := (0 : Int32)) hx hb dX10_partOf_50 (by decide) ?_
    replace h := o_b h; obtain ⟨_, k51, h⟩ := h
    replace h := o_b h; obtain ⟨q51, h51, h⟩ := h
    refine m_call (va_runV (As := [.int x32, .int (0 : Int32), .int (0 : Int32)]) (rest := [.int v3, .ref x42]) ⟨hx, hb, hml, hown, hts⟩ (c_X10_part l D b0 sz h51) (cwV 3 hts gX10_partOf_X10_part rfl rfl rfl (by decide +kernel) ⟨Nat.le_of_ble_eq_true rfl, Nat.le_of_ble_eq_true rfl⟩) ⟨PW.blind, m_recv (ci := 10) rfl hK hM k51, (fun U hU hW => ⟨rfl, PW.call hK hM hS hU hW⟩)⟩ rfl rfl hl.1 rfl (lv_room (Nat.le_of_ble_eq_true rfl)) dX10_partOf_51 ⟨(Nat.le_refl _), (Nat.le_refl _)⟩) hS (fun H locs hM hS => ?_)
    replace h := o_b h; obtain ⟨f54, h54, h⟩ := h
    refine m_iast hx hb hK.1 hM hS rfl h54 dX10_partOf_54 (fun H locs hM hS => ?_)
    refine lv_iinc (v := (v3 + (1 : Int32))) (lv' := [(3, .int (v3 + (1 : Int32))), (5, .int x32), (0, .ref v0), (2, .int v2), (4, .int v4)]) hx hb dX10_partOf_55 hl (k := 3) rfl rfl (by decide) rfl (fun ls hl => ?_)
    refine lv_goto (tgt := 188) hx hb dX10_partOf_58 (by decide) ?_
    exact w_X10_partOf_188 C0 ih _ _ _ _ _ h _ _ _ hM hS (lv_sub hl [2, 3, 0, 4] rfl)
set_option maxHeartbeats 4000000 in
set_option maxRecDepth 100000 in
theorem w_X10_partOf (C0 : CX cX10_partOf 8 (some .int) wsX10_partOf RX10 p s m args meth c D b0) {v0 : Nat} {v1 : Int32} {res : Int32 × mmF} (h : f_X10_partOf v0 v1 f = some res) : ∀ (H : Heap) (locs : List Loc) (ls : Array Slot), MM vwCl D b0 f sz s H → mS b0 s H locs → lv_has ls 8 [(0, .ref v0), (1, .int v1)] → W p l e ({ frames := 6, cells := 0, slots := 0, locals := 145 } : Room) s m args below meth c H locs 0 0 (MQ below (QW D b0 (some (.int res.1)) res.2 sz) args s 0 0 (fun q => b0 ≤ q)) (F0 m 0 ls []) := by
  obtain ⟨hx, hb, hr, hml, hown, hts, hlocks, hK⟩ := id C0
  intro H locs ls hM hS hl
  unfold f_X10_partOf at h
  refine lv_bipush (v := (17 : Int32)) hx hb dX10_partOf_0 (by decide) ?_
  refine lv_bipush (v := (31 : Int32)) hx hb dX10_partOf_2 (by decide) ?_
  refine lv_iload_n hx hb dX10_partOf_4 rfl (lv_at hl 1 rfl) ?_
  refine lv_imul hx hb dX10_partOf_5 ?_
  refine lv_iadd hx hb dX10_partOf_6 ?_
  refine lv_istore_n (lv' := [(2, .int ((17 : Int32) + ((31 : Int32) * v1))), (0, .ref v0), (1, .int v1)]) hx hb dX10_partOf_7 rfl hl (by decide) rfl (fun ls hl => ?_)
  refine lv_iconst (v := (0 : Int32)) hx hb dX10_partOf_8 (by decide) ?_
  refine lv_istore_n (lv' := [(3, .int (0 : Int32)), (2, .int ((17 : Int32) + ((31 : Int32) * v1))), (0, .ref v0), (1, .int v1)]) hx hb dX10_partOf_9 rfl hl (by decide) rfl (fun ls hl => ?_)
  refine lv_iconst (v := (1 : Int32)) hx hb dX10_partOf_10 (by decide) ?_
  refine lv_istore (lv' := [(4, .int (1 : Int32)), (3, .int (0 : Int32)), (2, .int ((17 : Int32) + ((31 : Int32) * v1))), (0, .ref v0), (1, .int v1)]) hx hb dX10_partOf_11 hl (by decide) rfl (fun ls hl => ?_)
  exact w_X10_partOf_13 C0 FU _ _ _ _ _ h _ _ _ hM hS (lv_sub hl [3, 2, 1, 0] rfl)
set_option maxHeartbeats 4000000 in
set_option maxRecDepth 100000 in
theorem c_X10_partOf (l : Launch) (D : mmD) (b0 sz : Nat) {v0 : Nat} {v1 : Int32} {f : mmF} {res : Int32 × mmF} (h : f_X10_partOf v0 v1 f = some res) : Met l yX10_partOf wsX10_partOf ({ frames := 6, cells := 0, slots := 0, locals := 145 } : Room) (va_Pc [.ref v0, .int v1] (PW D b0 f sz)) (QW D b0 (some (.int res.1)) res.2 sz) 0 0 (fun q => b0 ≤ q) := by
  refine Met.ofW (cc := cX10_partOf) (maxL := 8) (ret := (some .int)) (by decide) rfl ?_
  intro p e s m args below meth c s₁ B hml hv
  obtain ⟨rfl, hM, hK⟩ := hv
  have hl := lv_entry ([.ref v0, .int v1]) (n := 8) (Nat.le_of_ble_eq_true rfl)
  rw [lg_entry_eq]
  generalize (lg_sl ([.ref v0, .int v1]) ++ List.replicate (8 - (lg_sl ([.ref v0, .int v1])).length) Slot.unset).toArray = ls at hl ⊢
  have hl : lv_has ls 8 [(0, .ref v0), (1, .int v1)] := hl
  exact w_X10_partOf ⟨B.exec, B.bytes, B.returns, hml, findClass_of_methodNamed B.named, atoms_spec (ws := wsX10_partOf) B.pre, B.notSynchronized, hK⟩ h s.heap [] ls hM va_S.rf hl
end S_X10_partOf
/-! X10_has -/
set_option maxRecDepth 20000 in
theorem qi_X10_has_X10 : ∀ w ∈ u_ws RX10 TX10 25, w ∈ wsX10_has := by decide +kernel
set_option maxRecDepth 20000 in
theorem q_X10_has_1 : Cond.fieldLink RX10 51 "StageTruthsModel" "given" "[I" ∈ wsX10_has := by decide +kernel
noncomputable def f_X10_has (v0 : Nat) (v1 : Int32) (v2 : Int32) (f : mmF) : Option (Int32) :=
  (ldR f v0 10 20).bind fun x1 =>
  (ldA 0 f x1 (((32 : Int32) * v1) + (v2 / (32 : Int32)))).bind fun x13 =>
  if ((mm_ushr x13 (v2 - v2 / (32 : Int32) * (32 : Int32))) &&& (1 : Int32)) = (1 : Int32) then
  (some ((1 : Int32)))
  else
  some ((0 : Int32))
section S_X10_has
variable {p : Program} {l : Launch} {e : Env} {s : State} {m : MethodId} {args : Array Value} {below : List Frame} {meth : Method} {c : Code} {D : mmD} {b0 sz : Nat} {f : mmF}
set_option maxHeartbeats 4000000 in
set_option maxRecDepth 100000 in
theorem w_X10_has (C0 : CX cX10_has 3 (some .boolean) wsX10_has RX10 p s m args meth c D b0) {v0 : Nat} {v1 : Int32} {v2 : Int32} {res : Int32} (h : f_X10_has v0 v1 v2 f = some res) : ∀ (H : Heap) (locs : List Loc) (ls : Array Slot), MM vwCl D b0 f sz s H → mS b0 s H locs → lv_has ls 3 [(0, .ref v0), (1, .int v1), (2, .int v2)] → W p l e ({ frames := 0, cells := 0, slots := 0, locals := 0 } : Room) s m args below meth c H locs 0 0 (MQ below (QW D b0 (some (.int res)) f sz) args s 0 0 (fun q => b0 ≤ q)) (F0 m 0 ls []) := by
  obtain ⟨hx, hb, hr, hml, hown, hts, hlocks, hK⟩ := id C0
  intro H locs ls hM hS hl
  unfold f_X10_has at h
  refine lv_aload_n hx hb dX10_has_0 rfl (lv_at hl 0 rfl) ?_
  replace h := o_b h; obtain ⟨x1, h1, h⟩ := h
  refine m_get (C := RX10) (T := TX10) (N := 25) (ci := 10) hx hb hts qi_X10_has_X10 hown hK.1 hM 20 (ldR_F h1) rfl (by decide) (hts _ q_X10_has_1) (fun _ h9 => h9) dX10_has_1 ?_
  refine lv_bipush (v := (32 : Int32)) hx hb dX10_has_4 (by decide) ?_
  refine lv_iload_n hx hb dX10_has_6 rfl (lv_at hl 1 rfl) ?_
  refine lv_imul hx hb dX10_has_7 ?_
  refine lv_iload_n hx hb dX10_has_8 rfl (lv_at hl 2 rfl) ?_
  refine lv_bipush (v := (32 : Int32)) hx hb dX10_has_9 (by decide) ?_
  refine lv_idiv hx hb dX10_has_11 (by decide) ?_
  refine lv_iadd hx hb dX10_has_12 ?_
  replace h := o_b h; obtain ⟨x13, h13, h⟩ := h
  refine m_iald hx hb hK.1 hM hS rfl h13 dX10_has_13 ?_
  refine lv_iload_n hx hb dX10_has_14 rfl (lv_at hl 2 rfl) ?_
  refine lv_bipush (v := (32 : Int32)) hx hb dX10_has_15 (by decide) ?_
  refine lv_irem hx hb dX10_has_17 (by decide) ?_
  refine lv_iushr (v := (mm_ushr x13 (v2 - v2 / (32 : Int32) * (32 : Int32)))) hx hb dX10_has_18 rfl ?_
  refine lv_iconst (v := (1 : Int32)) hx hb dX10_has_19 (by decide) ?_
  refine lv_iand hx hb dX10_has_20 ?_
  refine lv_iconst (v := (1 : Int32)) hx hb dX10_has_21 (by decide) ?_
  refine lv_icmp_ne (tgt := 29) hx hb dX10_has_22 (by decide) (fun c22 => ?_) (fun c22 => ?_)
  · replace h := o_f c22 h
    refine lv_iconst (v := (0 : Int32)) hx hb dX10_has_29 (by decide) ?_
    replace h := Option.some.inj h; subst h
    exact W.zret hx hb hr rfl (fun t ht hW => ⟨rfl, by rw [ht]; exact hM.moved hW.alike, hS.F ht⟩) hS.2.2 dX10_has_30
  replace h := o_t c22 h
  refine lv_iconst (v := (1 : Int32)) hx hb dX10_has_25 (by decide) ?_
  refine lv_goto (tgt := 30) hx hb dX10_has_26 (by decide) ?_
  replace h := Option.some.inj h; subst h
  exact W.zret hx hb hr rfl (fun t ht hW => ⟨rfl, by rw [ht]; exact hM.moved hW.alike, hS.F ht⟩) hS.2.2 dX10_has_30
set_option maxHeartbeats 4000000 in
set_option maxRecDepth 100000 in
theorem c_X10_has (l : Launch) (D : mmD) (b0 sz : Nat) {v0 : Nat} {v1 : Int32} {v2 : Int32} {f : mmF} {res : Int32} (h : f_X10_has v0 v1 v2 f = some res) : Met l yX10_has wsX10_has ({ frames := 0, cells := 0, slots := 0, locals := 0 } : Room) (va_Pc [.ref v0, .int v1, .int v2] (PW D b0 f sz)) (QW D b0 (some (.int res)) f sz) 0 0 (fun q => b0 ≤ q) := by
  refine Met.ofW (cc := cX10_has) (maxL := 3) (ret := (some .boolean)) (by decide) rfl ?_
  intro p e s m args below meth c s₁ B hml hv
  obtain ⟨rfl, hM, hK⟩ := hv
  have hl := lv_entry ([.ref v0, .int v1, .int v2]) (n := 3) (Nat.le_of_ble_eq_true rfl)
  rw [lg_entry_eq]
  generalize (lg_sl ([.ref v0, .int v1, .int v2]) ++ List.replicate (3 - (lg_sl ([.ref v0, .int v1, .int v2])).length) Slot.unset).toArray = ls at hl ⊢
  have hl : lv_has ls 3 [(0, .ref v0), (1, .int v1), (2, .int v2)] := hl
  exact w_X10_has ⟨B.exec, B.bytes, B.returns, hml, findClass_of_methodNamed B.named, atoms_spec (ws := wsX10_has) B.pre, B.notSynchronized, hK⟩ h s.heap [] ls hM va_S.rf hl
end S_X10_has
/-! X10_gets -/
set_option maxRecDepth 20000 in
theorem qi_X10_gets_X10 : ∀ w ∈ u_ws RX10 TX10 25, w ∈ wsX10_gets := by decide +kernel
set_option maxRecDepth 20000 in
theorem q_X10_gets_1 : Cond.fieldLink RX10 51 "StageTruthsModel" "given" "[I" ∈ wsX10_gets := by decide +kernel
noncomputable def f_X10_gets (v0 : Nat) (v1 : Int32) (v2 : Int32) (f : mmF) : Option (mmF) :=
  (ldR f v0 10 20).bind fun x1 =>
  (ldA 0 f x1 (((32 : Int32) * v1) + (v2 / (32 : Int32)))).bind fun x14 =>
  (stA 0 f x1 (((32 : Int32) * v1) + (v2 / (32 : Int32))) (x14 ||| ((1 : Int32) <<< ((v2 - v2 / (32 : Int32) * (32 : Int32)) &&& 31)))).bind fun f22 =>
  some (f22)
section S_X10_gets
variable {p : Program} {l : Launch} {e : Env} {s : State} {m : MethodId} {args : Array Value} {below : List Frame} {meth : Method} {c : Code} {D : mmD} {b0 sz : Nat} {f : mmF}
set_option maxHeartbeats 4000000 in
set_option maxRecDepth 100000 in
theorem w_X10_gets (C0 : CX cX10_gets 3 none wsX10_gets RX10 p s m args meth c D b0) {v0 : Nat} {v1 : Int32} {v2 : Int32} {res : mmF} (h : f_X10_gets v0 v1 v2 f = some res) : ∀ (H : Heap) (locs : List Loc) (ls : Array Slot), MM vwCl D b0 f sz s H → mS b0 s H locs → lv_has ls 3 [(0, .ref v0), (1, .int v1), (2, .int v2)] → W p l e ({ frames := 0, cells := 0, slots := 0, locals := 0 } : Room) s m args below meth c H locs 0 0 (MQ below (QW D b0 none res sz) args s 0 0 (fun q => b0 ≤ q)) (F0 m 0 ls []) := by
  obtain ⟨hx, hb, hr, hml, hown, hts, hlocks, hK⟩ := id C0
  intro H locs ls hM hS hl
  unfold f_X10_gets at h
  refine lv_aload_n hx hb dX10_gets_0 rfl (lv_at hl 0 rfl) ?_
  replace h := o_b h; obtain ⟨x1, h1, h⟩ := h
  refine m_get (C := RX10) (T := TX10) (N := 25) (ci := 10) hx hb hts qi_X10_gets_X10 hown hK.1 hM 20 (ldR_F h1) rfl (by decide) (hts _ q_X10_gets_1) (fun _ h9 => h9) dX10_gets_1 ?_
  refine lv_bipush (v := (32 : Int32)) hx hb dX10_gets_4 (by decide) ?_
  refine lv_iload_n hx hb dX10_gets_6 rfl (lv_at hl 1 rfl) ?_
  refine lv_imul hx hb dX10_gets_7 ?_
  refine lv_iload_n hx hb dX10_gets_8 rfl (lv_at hl 2 rfl) ?_
  refine lv_bipush (v := (32 : Int32)) hx hb dX10_gets_9 (by decide) ?_
  refine lv_idiv hx hb dX10_gets_11 (by decide) ?_
  refine lv_iadd hx hb dX10_gets_12 ?_
  refine lv_dup2_11 hx hb dX10_gets_13 rfl rfl ?_
  replace h := o_b h; obtain ⟨x14, h14, h⟩ := h
  refine m_iald hx hb hK.1 hM hS rfl h14 dX10_gets_14 ?_
  refine lv_iconst (v := (1 : Int32)) hx hb dX10_gets_15 (by decide) ?_
  refine lv_iload_n hx hb dX10_gets_16 rfl (lv_at hl 2 rfl) ?_
  refine lv_bipush (v := (32 : Int32)) hx hb dX10_gets_17 (by decide) ?_
  refine lv_irem hx hb dX10_gets_19 (by decide) ?_
  refine lv_ishl hx hb dX10_gets_20 ?_
  refine lv_ior hx hb dX10_gets_21 ?_
  replace h := o_b h; obtain ⟨f22, h22, h⟩ := h
  refine m_iast hx hb hK.1 hM hS rfl h22 dX10_gets_22 (fun H locs hM hS => ?_)
  replace h := Option.some.inj h; subst h
  exact W.vret hx hb hr (fun t ht hW => ⟨rfl, by rw [ht]; exact hM.moved hW.alike, hS.F ht⟩) hS.2.2 dX10_gets_23
set_option maxHeartbeats 4000000 in
set_option maxRecDepth 100000 in
theorem c_X10_gets (l : Launch) (D : mmD) (b0 sz : Nat) {v0 : Nat} {v1 : Int32} {v2 : Int32} {f : mmF} {res : mmF} (h : f_X10_gets v0 v1 v2 f = some res) : Met l yX10_gets wsX10_gets ({ frames := 0, cells := 0, slots := 0, locals := 0 } : Room) (va_Pc [.ref v0, .int v1, .int v2] (PW D b0 f sz)) (QW D b0 none res sz) 0 0 (fun q => b0 ≤ q) := by
  refine Met.ofW (cc := cX10_gets) (maxL := 3) (ret := none) (by decide) rfl ?_
  intro p e s m args below meth c s₁ B hml hv
  obtain ⟨rfl, hM, hK⟩ := hv
  have hl := lv_entry ([.ref v0, .int v1, .int v2]) (n := 3) (Nat.le_of_ble_eq_true rfl)
  rw [lg_entry_eq]
  generalize (lg_sl ([.ref v0, .int v1, .int v2]) ++ List.replicate (3 - (lg_sl ([.ref v0, .int v1, .int v2])).length) Slot.unset).toArray = ls at hl ⊢
  have hl : lv_has ls 3 [(0, .ref v0), (1, .int v1), (2, .int v2)] := hl
  exact w_X10_gets ⟨B.exec, B.bytes, B.returns, hml, findClass_of_methodNamed B.named, atoms_spec (ws := wsX10_gets) B.pre, B.notSynchronized, hK⟩ h s.heap [] ls hM va_S.rf hl
end S_X10_gets
/-! X10_loses -/
set_option maxRecDepth 20000 in
theorem qi_X10_loses_X10 : ∀ w ∈ u_ws RX10 TX10 25, w ∈ wsX10_loses := by decide +kernel
set_option maxRecDepth 20000 in
theorem q_X10_loses_1 : Cond.fieldLink RX10 51 "StageTruthsModel" "given" "[I" ∈ wsX10_loses := by decide +kernel
noncomputable def f_X10_loses (v0 : Nat) (v1 : Int32) (v2 : Int32) (f : mmF) : Option (mmF) :=
  (ldR f v0 10 20).bind fun x1 =>
  (ldA 0 f x1 (((32 : Int32) * v1) + (v2 / (32 : Int32)))).bind fun x14 =>
  (stA 0 f x1 (((32 : Int32) * v1) + (v2 / (32 : Int32))) (x14 &&& (((1 : Int32) <<< ((v2 - v2 / (32 : Int32) * (32 : Int32)) &&& 31)) ^^^ (-1 : Int32)))).bind fun f24 =>
  some (f24)
section S_X10_loses
variable {p : Program} {l : Launch} {e : Env} {s : State} {m : MethodId} {args : Array Value} {below : List Frame} {meth : Method} {c : Code} {D : mmD} {b0 sz : Nat} {f : mmF}
set_option maxHeartbeats 4000000 in
set_option maxRecDepth 100000 in
theorem w_X10_loses (C0 : CX cX10_loses 3 none wsX10_loses RX10 p s m args meth c D b0) {v0 : Nat} {v1 : Int32} {v2 : Int32} {res : mmF} (h : f_X10_loses v0 v1 v2 f = some res) : ∀ (H : Heap) (locs : List Loc) (ls : Array Slot), MM vwCl D b0 f sz s H → mS b0 s H locs → lv_has ls 3 [(0, .ref v0), (1, .int v1), (2, .int v2)] → W p l e ({ frames := 0, cells := 0, slots := 0, locals := 0 } : Room) s m args below meth c H locs 0 0 (MQ below (QW D b0 none res sz) args s 0 0 (fun q => b0 ≤ q)) (F0 m 0 ls []) := by
  obtain ⟨hx, hb, hr, hml, hown, hts, hlocks, hK⟩ := id C0
  intro H locs ls hM hS hl
  unfold f_X10_loses at h
  refine lv_aload_n hx hb dX10_loses_0 rfl (lv_at hl 0 rfl) ?_
  replace h := o_b h; obtain ⟨x1, h1, h⟩ := h
  refine m_get (C := RX10) (T := TX10) (N := 25) (ci := 10) hx hb hts qi_X10_loses_X10 hown hK.1 hM 20 (ldR_F h1) rfl (by decide) (hts _ q_X10_loses_1) (fun _ h9 => h9) dX10_loses_1 ?_
  refine lv_bipush (v := (32 : Int32)) hx hb dX10_loses_4 (by decide) ?_
  refine lv_iload_n hx hb dX10_loses_6 rfl (lv_at hl 1 rfl) ?_
  refine lv_imul hx hb dX10_loses_7 ?_
  refine lv_iload_n hx hb dX10_loses_8 rfl (lv_at hl 2 rfl) ?_
  refine lv_bipush (v := (32 : Int32)) hx hb dX10_loses_9 (by decide) ?_
  refine lv_idiv hx hb dX10_loses_11 (by decide) ?_
  refine lv_iadd hx hb dX10_loses_12 ?_
  refine lv_dup2_11 hx hb dX10_loses_13 rfl rfl ?_
  replace h := o_b h; obtain ⟨x14, h14, h⟩ := h
  refine m_iald hx hb hK.1 hM hS rfl h14 dX10_loses_14 ?_
  refine lv_iconst (v := (1 : Int32)) hx hb dX10_loses_15 (by decide) ?_
  refine lv_iload_n hx hb dX10_loses_16 rfl (lv_at hl 2 rfl) ?_
  refine lv_bipush (v := (32 : Int32)) hx hb dX10_loses_17 (by decide) ?_
  refine lv_irem hx hb dX10_loses_19 (by decide) ?_
  refine lv_ishl hx hb dX10_loses_20 ?_
  refine lv_iconst (v := (-1 : Int32)) hx hb dX10_loses_21 (by decide) ?_
  refine lv_ixor hx hb dX10_loses_22 ?_
  refine lv_iand hx hb dX10_loses_23 ?_
  replace h := o_b h; obtain ⟨f24, h24, h⟩ := h
  refine m_iast hx hb hK.1 hM hS rfl h24 dX10_loses_24 (fun H locs hM hS => ?_)
  replace h := Option.some.inj h; subst h
  exact W.vret hx hb hr (fun t ht hW => ⟨rfl, by rw [ht]; exact hM.moved hW.alike, hS.F ht⟩) hS.2.2 dX10_loses_25
set_option maxHeartbeats 4000000 in
set_option maxRecDepth 100000 in
theorem c_X10_loses (l : Launch) (D : mmD) (b0 sz : Nat) {v0 : Nat} {v1 : Int32} {v2 : Int32} {f : mmF} {res : mmF} (h : f_X10_loses v0 v1 v2 f = some res) : Met l yX10_loses wsX10_loses ({ frames := 0, cells := 0, slots := 0, locals := 0 } : Room) (va_Pc [.ref v0, .int v1, .int v2] (PW D b0 f sz)) (QW D b0 none res sz) 0 0 (fun q => b0 ≤ q) := by
  refine Met.ofW (cc := cX10_loses) (maxL := 3) (ret := none) (by decide) rfl ?_
  intro p e s m args below meth c s₁ B hml hv
  obtain ⟨rfl, hM, hK⟩ := hv
  have hl := lv_entry ([.ref v0, .int v1, .int v2]) (n := 3) (Nat.le_of_ble_eq_true rfl)
  rw [lg_entry_eq]
  generalize (lg_sl ([.ref v0, .int v1, .int v2]) ++ List.replicate (3 - (lg_sl ([.ref v0, .int v1, .int v2])).length) Slot.unset).toArray = ls at hl ⊢
  have hl : lv_has ls 3 [(0, .ref v0), (1, .int v1), (2, .int v2)] := hl
  exact w_X10_loses ⟨B.exec, B.bytes, B.returns, hml, findClass_of_methodNamed B.named, atoms_spec (ws := wsX10_loses) B.pre, B.notSynchronized, hK⟩ h s.heap [] ls hM va_S.rf hl
end S_X10_loses
/-! X10_leadsOn -/
set_option maxRecDepth 20000 in
theorem qi_X10_leadsOn_X10 : ∀ w ∈ u_ws RX10 TX10 25, w ∈ wsX10_leadsOn := by decide +kernel
set_option maxRecDepth 20000 in
theorem q_X10_leadsOn_1 : Cond.fieldLink RX10 54 "StageTruthsModel" "goal" "[I" ∈ wsX10_leadsOn := by decide +kernel
set_option maxRecDepth 20000 in
theorem q_X10_leadsOn_2 : Cond.fieldLink RX10 57 "StageTruthsModel" "phase" "[I" ∈ wsX10_leadsOn := by decide +kernel
set_option maxRecDepth 20000 in
theorem q_X10_leadsOn_3 : Cond.fieldLink RX10 51 "StageTruthsModel" "given" "[I" ∈ wsX10_leadsOn := by decide +kernel
noncomputable def f_X10_leadsOn_2   : Nat → Nat → Int32 → Int32 → Int32 → mmF → Option (mmF)
  | 0, _, _, _, _, _ => none
  | n + 1, v0, v1, v2, v3, f =>
    if (32 : Int32) ≤ v3 then
    ((ldR f v0 10 21).bind fun x40 =>
    (stA 0 f x40 (v1 + (1 : Int32)) v2).bind fun f47 =>
    (ldR f47 v0 10 22).bind fun x49 =>
    (stA 0 f47 x49 (v1 + (1 : Int32)) (0 : Int32)).bind fun f56 =>
    some (f56))
    else
    (ldR f v0 10 20).bind fun x9 =>
    (ldR f v0 10 20).bind fun x22 =>
    (ldA 0 f x22 (((32 : Int32) * v1) + v3)).bind fun x31 =>
    (stA 0 f x9 ((((32 : Int32) * v1) + (32 : Int32)) + v3) x31).bind fun f32 =>
    f_X10_leadsOn_2 n v0 v1 v2 (v3 + (1 : Int32)) f32
noncomputable def f_X10_leadsOn (v0 : Nat) (v1 : Int32) (v2 : Int32) (f : mmF) : Option (mmF) :=
  f_X10_leadsOn_2 FU v0 v1 v2 (0 : Int32) f
section S_X10_leadsOn
variable {p : Program} {l : Launch} {e : Env} {s : State} {m : MethodId} {args : Array Value} {below : List Frame} {meth : Method} {c : Code} {D : mmD} {b0 sz : Nat} {f : mmF}
set_option maxHeartbeats 4000000 in
set_option maxRecDepth 100000 in
theorem w_X10_leadsOn_2 (C0 : CX cX10_leadsOn 4 none wsX10_leadsOn RX10 p s m args meth c D b0) {res : mmF} : ∀ (n : Nat), ∀ (v0 : Nat) (v1 : Int32) (v2 : Int32) (v3 : Int32) (f : mmF), f_X10_leadsOn_2 n v0 v1 v2 v3 f = some res → ∀ (H : Heap) (locs : List Loc) (ls : Array Slot), MM vwCl D b0 f sz s H → mS b0 s H locs → lv_has ls 4 [(0, .ref v0), (1, .int v1), (2, .int v2), (3, .int v3)] → W p l e ({ frames := 0, cells := 0, slots := 0, locals := 0 } : Room) s m args below meth c H locs 0 0 (MQ below (QW D b0 none res sz) args s 0 0 (fun q => b0 ≤ q)) (F0 m 2 ls []) := by
  obtain ⟨hx, hb, hr, hml, hown, hts, hlocks, hK⟩ := id C0
  intro n
  induction n with
  | zero =>
    intro v0 v1 v2 v3 f h
    have h : (none : Option (mmF)) = some res := h
    cases h
  | succ n ih =>
    intro v0 v1 v2 v3 f h H locs ls hM hS hl
    rw [f_X10_leadsOn_2] at h
    refine lv_iload_n hx hb dX10_leadsOn_2 rfl (lv_at hl 3 rfl) ?_
    refine lv_bipush (v := (32 : Int32)) hx hb dX10_leadsOn_3 (by decide) ?_
    refine lv_icmp_ge (tgt := 39) hx hb dX10_leadsOn_5 (by decide) (fun c5 => ?_) (fun c5 => ?_)
    · replace h := o_t c5 h
      refine lv_aload_n hx hb dX10_leadsOn_39 rfl (lv_at hl 0 rfl) ?_
      replace h := o_b h; obtain ⟨x40, h40, h⟩ := h
      refine m_get (C := RX10) (T := TX10) (N := 25) (ci := 10) hx hb hts qi_X10_leadsOn_X10 hown hK.1 hM 21 (ldR_F h40) rfl (by decide) (hts _ q_X10_leadsOn_1) (fun _ h9 => h9) dX10_leadsOn_40 ?_
      refine lv_iload_n hx hb dX10_leadsOn_43 rfl (lv_at hl 1 rfl) ?_
      refine lv_iconst (v := (1 : Int32)) hx hb dX10_leadsOn_44 (by decide) ?_
      refine lv_iadd hx hb dX10_leadsOn_45 ?_
      refine lv_iload_n hx hb dX10_leadsOn_46 rfl (lv_at hl 2 rfl) ?_
      replace h := o_b h; obtain ⟨f47, h47, h⟩ := h
      refine m_iast hx hb hK.1 hM hS rfl h47 dX10_leadsOn_47 (fun H locs hM hS => ?_)
      refine lv_aload_n hx hb dX10_leadsOn_48 rfl (lv_at hl 0 rfl) ?_
      replace h := o_b h; obtain ⟨x49, h49, h⟩ := h
      refine m_get (C := RX10) (T := TX10) (N := 25) (ci := 10) hx hb hts qi_X10_leadsOn_X10 hown hK.1 hM 22 (ldR_F h49) rfl (by decide) (hts _ q_X10_leadsOn_2) (fun _ h9 => h9) dX10_leadsOn_49 ?_
      refine lv_iload_n hx hb dX10_leadsOn_52 rfl (lv_at hl 1 rfl) ?_
      refine lv_iconst (v := (1 : Int32)) hx hb dX10_leadsOn_53 (by decide) ?_
      refine lv_iadd hx hb dX10_leadsOn_54 ?_
      refine lv_iconst (v := (0 : Int32)) hx hb dX10_leadsOn_55 (by decide) ?_
      replace h := o_b h; obtain ⟨f56, h56, h⟩ := h
      refine m_iast hx hb hK.1 hM hS rfl h56 dX10_leadsOn_56 (fun H locs hM hS => ?_)
      replace h := Option.some.inj h; subst h
      exact W.vret hx hb hr (fun t ht hW => ⟨rfl, by rw [ht]; exact hM.moved hW.alike, hS.F ht⟩) hS.2.2 dX10_leadsOn_57
    replace h := o_f c5 h
    refine lv_aload_n hx hb dX10_leadsOn_8 rfl (lv_at hl 0 rfl) ?_
    replace h := o_b h; obtain ⟨x9, h9, h⟩ := h
    refine m_get (C := RX10) (T := TX10) (N := 25) (ci := 10) hx hb hts qi_X10_leadsOn_X10 hown hK.1 hM 20 (ldR_F h9) rfl (by decide) (hts _ q_X10_leadsOn_3) (fun _ h9 => h9) dX10_leadsOn_9 ?_
    refine lv_bipush (v := (32 : Int32)) hx hb dX10_leadsOn_12 (by decide) ?_
    refine lv_iload_n hx hb dX10_leadsOn_14 rfl (lv_at hl 1 rfl) ?_
    refine lv_imul hx hb dX10_leadsOn_15 ?_
    refine lv_bipush (v := (32 : Int32)) hx hb dX10_leadsOn_16 (by decide) ?_
    refine lv_iadd hx hb dX10_leadsOn_18 ?_
    refine lv_iload_n hx hb dX10_leadsOn_19 rfl (lv_at hl 3 rfl) ?_
    refine lv_iadd hx hb dX10_leadsOn_20 ?_
    refine lv_aload_n hx hb dX10_leadsOn_21 rfl (lv_at hl 0 rfl) ?_
    replace h := o_b h; obtain ⟨x22, h22, h⟩ := h
    refine m_get (C := RX10) (T := TX10) (N := 25) (ci := 10) hx hb hts qi_X10_leadsOn_X10 hown hK.1 hM 20 (ldR_F h22) rfl (by decide) (hts _ q_X10_leadsOn_3) (fun _ h9 => h9) dX10_leadsOn_22 ?_
    refine lv_bipush (v := (32 : Int32)) hx hb dX10_leadsOn_25 (by decide) ?_
    refine lv_iload_n hx hb dX10_leadsOn_27 rfl (lv_at hl 1 rfl) ?_
    refine lv_imul hx hb dX10_leadsOn_28 ?_
    refine lv_iload_n hx hb dX10_leadsOn_29 rfl (lv_at hl 3 rfl) ?_
    refine lv_iadd hx hb dX10_leadsOn_30 ?_
    replace h := o_b h; obtain ⟨x31, h31, h⟩ := h
    refine m_iald hx hb hK.1 hM hS rfl h31 dX10_leadsOn_31 ?_
    replace h := o_b h; obtain ⟨f32, h32, h⟩ := h
    refine m_iast hx hb hK.1 hM hS rfl h32 dX10_leadsOn_32 (fun H locs hM hS => ?_)
    refine lv_iinc (v := (v3 + (1 : Int32))) (lv' := [(3, .int (v3 + (1 : Int32))), (0, .ref v0), (1, .int v1), (2, .int v2)]) hx hb dX10_leadsOn_33 hl (k := 3) rfl rfl (by decide) rfl (fun ls hl => ?_)
    refine lv_goto (tgt := 2) hx hb dX10_leadsOn_36 (by decide) ?_
    exact ih _ _ _ _ _ h _ _ _ hM hS (lv_sub hl [1, 2, 3, 0] rfl)
set_option maxHeartbeats 4000000 in
set_option maxRecDepth 100000 in
theorem w_X10_leadsOn (C0 : CX cX10_leadsOn 4 none wsX10_leadsOn RX10 p s m args meth c D b0) {v0 : Nat} {v1 : Int32} {v2 : Int32} {res : mmF} (h : f_X10_leadsOn v0 v1 v2 f = some res) : ∀ (H : Heap) (locs : List Loc) (ls : Array Slot), MM vwCl D b0 f sz s H → mS b0 s H locs → lv_has ls 4 [(0, .ref v0), (1, .int v1), (2, .int v2)] → W p l e ({ frames := 0, cells := 0, slots := 0, locals := 0 } : Room) s m args below meth c H locs 0 0 (MQ below (QW D b0 none res sz) args s 0 0 (fun q => b0 ≤ q)) (F0 m 0 ls []) := by
  obtain ⟨hx, hb, hr, hml, hown, hts, hlocks, hK⟩ := id C0
  intro H locs ls hM hS hl
  unfold f_X10_leadsOn at h
  refine lv_iconst (v := (0 : Int32)) hx hb dX10_leadsOn_0 (by decide) ?_
  refine lv_istore_n (lv' := [(3, .int (0 : Int32)), (0, .ref v0), (1, .int v1), (2, .int v2)]) hx hb dX10_leadsOn_1 rfl hl (by decide) rfl (fun ls hl => ?_)
  exact w_X10_leadsOn_2 C0 FU _ _ _ _ _ h _ _ _ hM hS (lv_sub hl [1, 2, 3, 0] rfl)
set_option maxHeartbeats 4000000 in
set_option maxRecDepth 100000 in
theorem c_X10_leadsOn (l : Launch) (D : mmD) (b0 sz : Nat) {v0 : Nat} {v1 : Int32} {v2 : Int32} {f : mmF} {res : mmF} (h : f_X10_leadsOn v0 v1 v2 f = some res) : Met l yX10_leadsOn wsX10_leadsOn ({ frames := 0, cells := 0, slots := 0, locals := 0 } : Room) (va_Pc [.ref v0, .int v1, .int v2] (PW D b0 f sz)) (QW D b0 none res sz) 0 0 (fun q => b0 ≤ q) := by
  refine Met.ofW (cc := cX10_leadsOn) (maxL := 4) (ret := none) (by decide) rfl ?_
  intro p e s m args below meth c s₁ B hml hv
  obtain ⟨rfl, hM, hK⟩ := hv
  have hl := lv_entry ([.ref v0, .int v1, .int v2]) (n := 4) (Nat.le_of_ble_eq_true rfl)
  rw [lg_entry_eq]
  generalize (lg_sl ([.ref v0, .int v1, .int v2]) ++ List.replicate (4 - (lg_sl ([.ref v0, .int v1, .int v2])).length) Slot.unset).toArray = ls at hl ⊢
  have hl : lv_has ls 4 [(0, .ref v0), (1, .int v1), (2, .int v2)] := hl
  exact w_X10_leadsOn ⟨B.exec, B.bytes, B.returns, hml, findClass_of_methodNamed B.named, atoms_spec (ws := wsX10_leadsOn) B.pre, B.notSynchronized, hK⟩ h s.heap [] ls hM va_S.rf hl
end S_X10_leadsOn
/-! X10_wordEnd -/
noncomputable def f_X10_wordEnd (v0 : Int32) (v1 : Int32) (v2 : Int32) (f : mmF) : Option (Int32) :=
  if v1 = 0 then none else
  if (v2 - ((32 : Int32) * (v0 - v0 / v1 * v1))) < (32 : Int32) then
  (some ((((1 : Int32) <<< ((v2 - ((32 : Int32) * (v0 - v0 / v1 * v1))) &&& 31)) - (1 : Int32))))
  else
  some ((-1 : Int32))
section S_X10_wordEnd
variable {p : Program} {l : Launch} {e : Env} {s : State} {m : MethodId} {args : Array Value} {below : List Frame} {meth : Method} {c : Code} {D : mmD} {b0 sz : Nat} {f : mmF}
set_option maxHeartbeats 4000000 in
set_option maxRecDepth 100000 in
theorem w_X10_wordEnd (C0 : CX cX10_wordEnd 4 (some .int) wsX10_wordEnd RX10 p s m args meth c D b0) {v0 : Int32} {v1 : Int32} {v2 : Int32} {res : Int32} (h : f_X10_wordEnd v0 v1 v2 f = some res) : ∀ (H : Heap) (locs : List Loc) (ls : Array Slot), MM vwCl D b0 f sz s H → mS b0 s H locs → lv_has ls 4 [(0, .int v0), (1, .int v1), (2, .int v2)] → W p l e ({ frames := 0, cells := 0, slots := 0, locals := 0 } : Room) s m args below meth c H locs 0 0 (MQ below (QW D b0 (some (.int res)) f sz) args s 0 0 (fun q => b0 ≤ q)) (F0 m 0 ls []) := by
  obtain ⟨hx, hb, hr, hml, hown, hts, hlocks, hK⟩ := id C0
  intro H locs ls hM hS hl
  unfold f_X10_wordEnd at h
  refine lv_iload_n hx hb dX10_wordEnd_0 rfl (lv_at hl 2 rfl) ?_
  refine lv_bipush (v := (32 : Int32)) hx hb dX10_wordEnd_1 (by decide) ?_
  refine lv_iload_n hx hb dX10_wordEnd_3 rfl (lv_at hl 0 rfl) ?_
  refine lv_iload_n hx hb dX10_wordEnd_4 rfl (lv_at hl 1 rfl) ?_
  replace h := o_n h; obtain ⟨z5, h⟩ := h
  refine lv_irem hx hb dX10_wordEnd_5 z5 ?_
  refine lv_imul hx hb dX10_wordEnd_6 ?_
  refine lv_isub hx hb dX10_wordEnd_7 ?_
  refine lv_istore_n (lv' := [(3, .int (v2 - ((32 : Int32) * (v0 - v0 / v1 * v1)))), (0, .int v0), (1, .int v1), (2, .int v2)]) hx hb dX10_wordEnd_8 rfl hl (by decide) rfl (fun ls hl => ?_)
  refine lv_iload_n hx hb dX10_wordEnd_9 rfl (lv_at hl 0 rfl) ?_
  refine lv_bipush (v := (32 : Int32)) hx hb dX10_wordEnd_10 (by decide) ?_
  refine lv_icmp_lt (tgt := 19) hx hb dX10_wordEnd_12 (by decide) (fun c12 => ?_) (fun c12 => ?_)
  · replace h := o_t c12 h
    refine lv_iconst (v := (1 : Int32)) hx hb dX10_wordEnd_19 (by decide) ?_
    refine lv_iload_n hx hb dX10_wordEnd_20 rfl (lv_at hl 0 rfl) ?_
    refine lv_ishl hx hb dX10_wordEnd_21 ?_
    refine lv_iconst (v := (1 : Int32)) hx hb dX10_wordEnd_22 (by decide) ?_
    refine lv_isub hx hb dX10_wordEnd_23 ?_
    replace h := Option.some.inj h; subst h
    exact W.iret hx hb hr (fun t ht hW => ⟨rfl, by rw [ht]; exact hM.moved hW.alike, hS.F ht⟩) hS.2.2 dX10_wordEnd_24
  replace h := o_f c12 h
  refine lv_iconst (v := (-1 : Int32)) hx hb dX10_wordEnd_15 (by decide) ?_
  refine lv_goto (tgt := 24) hx hb dX10_wordEnd_16 (by decide) ?_
  replace h := Option.some.inj h; subst h
  exact W.iret hx hb hr (fun t ht hW => ⟨rfl, by rw [ht]; exact hM.moved hW.alike, hS.F ht⟩) hS.2.2 dX10_wordEnd_24
set_option maxHeartbeats 4000000 in
set_option maxRecDepth 100000 in
theorem c_X10_wordEnd (l : Launch) (D : mmD) (b0 sz : Nat) {v0 : Int32} {v1 : Int32} {v2 : Int32} {f : mmF} {res : Int32} (h : f_X10_wordEnd v0 v1 v2 f = some res) : Met l yX10_wordEnd wsX10_wordEnd ({ frames := 0, cells := 0, slots := 0, locals := 0 } : Room) (va_Pc [.int v0, .int v1, .int v2] (PW D b0 f sz)) (QW D b0 (some (.int res)) f sz) 0 0 (fun q => b0 ≤ q) := by
  refine Met.ofW (cc := cX10_wordEnd) (maxL := 4) (ret := (some .int)) (by decide) rfl ?_
  intro p e s m args below meth c s₁ B hml hv
  obtain ⟨rfl, hM, hK⟩ := hv
  have hl := lv_entry ([.int v0, .int v1, .int v2]) (n := 4) (Nat.le_of_ble_eq_true rfl)
  rw [lg_entry_eq]
  generalize (lg_sl ([.int v0, .int v1, .int v2]) ++ List.replicate (4 - (lg_sl ([.int v0, .int v1, .int v2])).length) Slot.unset).toArray = ls at hl ⊢
  have hl : lv_has ls 4 [(0, .int v0), (1, .int v1), (2, .int v2)] := hl
  exact w_X10_wordEnd ⟨B.exec, B.bytes, B.returns, hml, findClass_of_methodNamed B.named, atoms_spec (ws := wsX10_wordEnd) B.pre, B.notSynchronized, hK⟩ h s.heap [] ls hM va_S.rf hl
end S_X10_wordEnd
/-! X10_refutes -/
set_option maxRecDepth 20000 in
theorem qi_X10_refutes_X10 : ∀ w ∈ u_ws RX10 TX10 25, w ∈ wsX10_refutes := by decide +kernel
set_option maxRecDepth 20000 in
theorem q_X10_refutes_1 : Cond.fieldLink RX10 48 "StageTruthsModel" "where" "[I" ∈ wsX10_refutes := by decide +kernel
set_option maxRecDepth 20000 in
theorem q_X10_refutes_2 : Cond.fieldLink RX10 54 "StageTruthsModel" "goal" "[I" ∈ wsX10_refutes := by decide +kernel
set_option maxRecDepth 20000 in
theorem q_X10_refutes_3 : Cond.fieldLink RX10 172 "StageTruthsModel" "parts" "I" ∈ wsX10_refutes := by decide +kernel
set_option maxRecDepth 20000 in
theorem q_X10_refutes_4 : Cond.constant RX10 214 (65535) ∈ wsX10_refutes := by decide +kernel
noncomputable def f_X10_refutes_174 (k7 : Nat → Int32 → Int32 → Int32 → Int32 → Option (Int32)) (f : mmF) (v0 : Nat) (v1 : Int32) (v2 : Int32) (v4 : Int32) (t0 : Int32) (t1 : Int32) : Option (Int32) :=
  k7 v0 v1 v2 (t0 ||| t1) (v4 + (1 : Int32))
noncomputable def f_X10_refutes_141 (k7 : Nat → Int32 → Int32 → Int32 → Int32 → Option (Int32)) (f : mmF) (v0 : Nat) (v1 : Int32) (v3 : Int32) (v4 : Int32) (v5 : Int32) (t0 : Int32) (t1 : Int32) : Option (Int32) :=
  (ldR f v0 10 18).bind fun x147 =>
  (ldR f v0 10 21).bind fun x153 =>
  (ldA 0 f x153 v1).bind fun x157 =>
  (ldA 0 f x147 (((91 : Int32) * x157) + v4)).bind fun x162 =>
  if (v5 &&& (x162 ^^^ (-1 : Int32))) = 0 then
  (f_X10_refutes_174 k7 f v0 v1 (t0 &&& t1) v4 v3 (0 : Int32))
  else
  f_X10_refutes_174 k7 f v0 v1 (t0 &&& t1) v4 v3 (1 : Int32)
noncomputable def f_X10_refutes_136 (k7 : Nat → Int32 → Int32 → Int32 → Int32 → Option (Int32)) (f : mmF) (v0 : Nat) (v1 : Int32) (v3 : Int32) (v4 : Int32) (v5 : Int32) (t0 : Int32) : Option (Int32) :=
  f_X10_refutes_141 k7 f v0 v1 v3 v4 v5 t0 (1 : Int32)
noncomputable def f_X10_refutes_125 (k7 : Nat → Int32 → Int32 → Int32 → Int32 → Option (Int32)) (f : mmF) (v0 : Nat) (v1 : Int32) (v2 : Int32) (v3 : Int32) (v4 : Int32) (v5 : Int32) : Option (Int32) :=
  if 0 < v4 then
  (f_X10_refutes_136 k7 f v0 v1 v3 v4 v5 v2)
  else
  if v5 = 0 then
  (f_X10_refutes_136 k7 f v0 v1 v3 v4 v5 v2)
  else
  f_X10_refutes_141 k7 f v0 v1 v3 v4 v5 v2 (0 : Int32)
noncomputable def f_X10_refutes_116 (k7 : Nat → Int32 → Int32 → Int32 → Int32 → Option (Int32)) (k73 : Nat → Int32 → Int32 → Int32 → Int32 → Int32 → Int32 → Option (Int32)) (f : mmF) (v0 : Nat) (v1 : Int32) (v2 : Int32) (v3 : Int32) (v4 : Int32) (v6 : Int32) (t0 : Int32) (t1 : Int32) : Option (Int32) :=
  k73 v0 v1 v2 v3 v4 (t0 &&& t1) (v6 + (1 : Int32))
noncomputable def f_X10_refutes_73 (k7 : Nat → Int32 → Int32 → Int32 → Int32 → Option (Int32)) (f : mmF) : Nat → Nat → Int32 → Int32 → Int32 → Int32 → Int32 → Int32 → Option (Int32)
  | 0, _, _, _, _, _, _, _ => none
  | n + 1, v0, v1, v2, v3, v4, v5, v6 =>
    (ldI f v0 10 19).bind fun x76 =>
    if x76 ≤ v6 then
    (f_X10_refutes_125 k7 f v0 v1 v2 v3 v4 v5)
    else
    if v5 = 0 then
    (f_X10_refutes_125 k7 f v0 v1 v2 v3 v4 v5)
    else
    (ckO f v0 10).bind fun _ =>
    (f_X10_has v0 v1 v6 f).bind fun q93 =>
    if q93 = 0 then
    (f_X10_refutes_116 k7 (fun a0 a1 a2 a3 a4 a5 a6 => f_X10_refutes_73 k7 f n a0 a1 a2 a3 a4 a5 a6) f v0 v1 v2 v3 v4 v6 v5 (-1 : Int32))
    else
    (ldR f v0 10 18).bind fun x100 =>
    (ldA 0 f x100 (((91 : Int32) * v6) + v4)).bind fun x111 =>
    f_X10_refutes_116 k7 (fun a0 a1 a2 a3 a4 a5 a6 => f_X10_refutes_73 k7 f n a0 a1 a2 a3 a4 a5 a6) f v0 v1 v2 v3 v4 v6 v5 x111
noncomputable def f_X10_refutes_68 (k7 : Nat → Int32 → Int32 → Int32 → Int32 → Option (Int32)) (f : mmF) (v0 : Nat) (v1 : Int32) (v2 : Int32) (v3 : Int32) (v4 : Int32) (t0 : Int32) : Option (Int32) :=
  f_X10_refutes_73 k7 f FU v0 v1 v2 v3 v4 t0 (0 : Int32)
noncomputable def f_X10_refutes_7  (f : mmF) : Nat → Nat → Int32 → Int32 → Int32 → Int32 → Option (Int32)
  | 0, _, _, _, _, _ => none
  | n + 1, v0, v1, v2, v3, v4 =>
    if (91 : Int32) ≤ v4 then
    (if v2 = 0 then
    (if v3 = 0 then
    (some ((0 : Int32)))
    else
    some ((1 : Int32)))
    else
    some ((2 : Int32)))
    else
    if v4 = 0 then
    (f_X10_refutes_68 (fun a0 a1 a2 a3 a4 => f_X10_refutes_7 f n a0 a1 a2 a3 a4) f v0 v1 v2 v3 v4 (65535 : Int32))
    else
    if (7 : Int32) ≤ v4 then
    (if (31 : Int32) ≤ v4 then
    ((f_X10_wordEnd (v4 - (31 : Int32)) (20 : Int32) (625 : Int32) f).bind fun q65 =>
    f_X10_refutes_68 (fun a0 a1 a2 a3 a4 => f_X10_refutes_7 f n a0 a1 a2 a3 a4) f v0 v1 v2 v3 v4 q65)
    else
    f_X10_refutes_68 (fun a0 a1 a2 a3 a4 => f_X10_refutes_7 f n a0 a1 a2 a3 a4) f v0 v1 v2 v3 v4 (-1 : Int32))
    else
    (f_X10_wordEnd (v4 - (1 : Int32)) (3 : Int32) (81 : Int32) f).bind fun q38 =>
    f_X10_refutes_68 (fun a0 a1 a2 a3 a4 => f_X10_refutes_7 f n a0 a1 a2 a3 a4) f v0 v1 v2 v3 v4 q38
noncomputable def f_X10_refutes (v0 : Nat) (v1 : Int32) (f : mmF) : Option (Int32) :=
  f_X10_refutes_7 f FU v0 v1 (1 : Int32) (0 : Int32) (0 : Int32)
section S_X10_refutes
variable {p : Program} {l : Launch} {e : Env} {s : State} {m : MethodId} {args : Array Value} {below : List Frame} {meth : Method} {c : Code} {D : mmD} {b0 sz : Nat} {f : mmF}
set_option maxHeartbeats 4000000 in
set_option maxRecDepth 100000 in
theorem w_X10_refutes_174 (C0 : CX cX10_refutes 7 (some .int) wsX10_refutes RX10 p s m args meth c D b0) {k7 : Nat → Int32 → Int32 → Int32 → Int32 → Option (Int32)} {res : Int32} (hk7 : ∀ (v0 : Nat) (v1 : Int32) (v2 : Int32) (v3 : Int32) (v4 : Int32), k7 v0 v1 v2 v3 v4 = some res → ∀ (H : Heap) (locs : List Loc) (ls : Array Slot), MM vwCl D b0 f sz s H → mS b0 s H locs → lv_has ls 7 [(0, .ref v0), (1, .int v1), (2, .int v2), (3, .int v3), (4, .int v4)] → W p l e ({ frames := 1, cells := 0, slots := 0, locals := 23 } : Room) s m args below meth c H locs 0 0 (MQ below (QW D b0 (some (.int res)) f sz) args s 0 0 (fun q => b0 ≤ q)) (F0 m 7 ls [])) : ∀ (v0 : Nat) (v1 : Int32) (v2 : Int32) (v4 : Int32) (t0 : Int32) (t1 : Int32), f_X10_refutes_174 k7 f v0 v1 v2 v4 t0 t1 = some res → ∀ (H : Heap) (locs : List Loc) (ls : Array Slot), MM vwCl D b0 f sz s H → mS b0 s H locs → lv_has ls 7 [(0, .ref v0), (1, .int v1), (2, .int v2), (4, .int v4)] → W p l e ({ frames := 1, cells := 0, slots := 0, locals := 23 } : Room) s m args below meth c H locs 0 0 (MQ below (QW D b0 (some (.int res)) f sz) args s 0 0 (fun q => b0 ≤ q)) (F0 m 174 ls [.int t1, .int t0]) := by
  obtain ⟨hx, hb, hr, hml, hown, hts, hlocks, hK⟩ := id C0
  intro v0 v1 v2 v4 t0 t1 h H locs ls hM hS hl
  unfold f_X10_refutes_174 at h
  refine lv_ior hx hb dX10_refutes_174 ?_
  refine lv_istore_n (lv' := [(3, .int (t0 ||| t1)), (0, .ref v0), (1, .int v1), (2, .int v2), (4, .int v4)]) hx hb dX10_refutes_175 rfl hl (by decide) rfl (fun ls hl => ?_)
  refine lv_iinc (v := (v4 + (1 : Int32))) (lv' := [(4, .int (v4 + (1 : Int32))), (3, .int (t0 ||| t1)), (0, .ref v0), (1, .int v1), (2, .int v2)]) hx hb dX10_refutes_176 hl (k := 4) rfl rfl (by decide) rfl (fun ls hl => ?_)
  refine lv_goto (tgt := 7) hx hb dX10_refutes_179 (by decide) ?_
  exact hk7 _ _ _ _ _ h _ _ _ hM hS (lv_sub hl [2, 3, 4, 1, 0] rfl)
set_option maxHeartbeats 4000000 in
set_option maxRecDepth 100000 in
theorem w_X10_refutes_141 (C0 : CX cX10_refutes 7 (some .int) wsX10_refutes RX10 p s m args meth c D b0) {k7 : Nat → Int32 → Int32 → Int32 → Int32 → Option (Int32)} {res : Int32} (hk7 : ∀ (v0 : Nat) (v1 : Int32) (v2 : Int32) (v3 : Int32) (v4 : Int32), k7 v0 v1 v2 v3 v4 = some res → ∀ (H : Heap) (locs : List Loc) (ls : Array Slot), MM vwCl D b0 f sz s H → mS b0 s H locs → lv_has ls 7 [(0, .ref v0), (1, .int v1), (2, .int v2), (3, .int v3), (4, .int v4)] → W p l e ({ frames := 1, cells := 0, slots := 0, locals := 23 } : Room) s m args below meth c H locs 0 0 (MQ below (QW D b0 (some (.int res)) f sz) args s 0 0 (fun q => b0 ≤ q)) (F0 m 7 ls [])) : ∀ (v0 : Nat) (v1 : Int32) (v3 : Int32) (v4 : Int32) (v5 : Int32) (t0 : Int32) (t1 : Int32), f_X10_refutes_141 k7 f v0 v1 v3 v4 v5 t0 t1 = some res → ∀ (H : Heap) (locs : List Loc) (ls : Array Slot), MM vwCl D b0 f sz s H → mS b0 s H locs → lv_has ls 7 [(0, .ref v0), (1, .int v1), (3, .int v3), (4, .int v4), (5, .int v5)] → W p l e ({ frames := 1, cells := 0, slots := 0, locals := 23 } : Room) s m args below meth c H locs 0 0 (MQ below (QW D b0 (some (.int res)) f sz) args s 0 0 (fun q => b0 ≤ q)) (F0 m 141 ls [.int t1, .int t0]) := by
  obtain ⟨hx, hb, hr, hml, hown, hts, hlocks, hK⟩ := id C0
  intro v0 v1 v3 v4 v5 t0 t1 h H locs ls hM hS hl
  unfold f_X10_refutes_141 at h
  refine lv_iand hx hb dX10_refutes_141 ?_
  refine lv_istore_n (lv' := [(2, .int (t0 &&& t1)), (0, .ref v0), (1, .int v1), (3, .int v3), (4, .int v4), (5, .int v5)]) hx hb dX10_refutes_142 rfl hl (by decide) rfl (fun ls hl => ?_)
  refine lv_iload_n hx hb dX10_refutes_143 rfl (lv_at hl 3 rfl) ?_
  refine lv_iload hx hb dX10_refutes_144 (lv_at hl 5 rfl) ?_
  refine lv_aload_n hx hb dX10_refutes_146 rfl (lv_at hl 1 rfl) ?_
  replace h := o_b h; obtain ⟨x147, h147, h⟩ := h
  refine m_get (C := RX10) (T := TX10) (N := 25) (ci := 10) hx hb hts qi_X10_refutes_X10 hown hK.1 hM 18 (ldR_F h147) rfl (by decide) (hts _ q_X10_refutes_1) (fun _ h9 => h9) dX10_refutes_147 ?_
  refine lv_bipush (v := (91 : Int32)) hx hb dX10_refutes_150 (by decide) ?_
  refine lv_aload_n hx hb dX10_refutes_152 rfl (lv_at hl 1 rfl) ?_
  replace h := o_b h; obtain ⟨x153, h153, h⟩ := h
  refine m_get (C := RX10) (T := TX10) (N := 25) (ci := 10) hx hb hts qi_X10_refutes_X10 hown hK.1 hM 21 (ldR_F h153) rfl (by decide) (hts _ q_X10_refutes_2) (fun _ h9 => h9) dX10_refutes_153 ?_
  refine lv_iload_n hx hb dX10_refutes_156 rfl (lv_at hl 2 rfl) ?_
  replace h := o_b h; obtain ⟨x157, h157, h⟩ := h
  refine m_iald hx hb hK.1 hM hS rfl h157 dX10_refutes_157 ?_
  refine lv_imul hx hb dX10_refutes_158 ?_
  refine lv_iload hx hb dX10_refutes_159 (lv_at hl 4 rfl) ?_
  refine lv_iadd hx hb dX10_refutes_161 ?_
  replace h := o_b h; obtain ⟨x162, h162, h⟩ := h
  refine m_iald hx hb hK.1 hM hS rfl h162 dX10_refutes_162 ?_
  refine lv_iconst (v := (-1 : Int32)) hx hb dX10_refutes_163 (by decide) ?_
  refine lv_ixor hx hb dX10_refutes_164 ?_
  refine lv_iand hx hb dX10_refutes_165 ?_
  refine lv_if_eq (tgt := 173) hx hb dX10_refutes_166 (by decide) (fun c166 => ?_) (fun c166 => ?_)
  · replace h := o_t c166 h
    refine lv_iconst (v := (0 : Int32)) hx hb dX10_refutes_173 (by decide) ?_
    exact w_X10_refutes_174 C0 hk7 _ _ _ _ _ _ h _ _ _ hM hS (lv_sub hl [1, 2, 0, 4] rfl)
  replace h := o_f c166 h
  refine lv_iconst (v := (1 : Int32)) hx hb dX10_refutes_169 (by decide) ?_
  refine lv_goto (tgt := 174) hx hb dX10_refutes_170 (by decide) ?_
  exact w_X10_refutes_174 C0 hk7 _ _ _ _ _ _ h _ _ _ hM hS (lv_sub hl [1, 2, 0, 4] rfl)
set_option maxHeartbeats 4000000 in
set_option maxRecDepth 100000 in
theorem w_X10_refutes_136 (C0 : CX cX10_refutes 7 (some .int) wsX10_refutes RX10 p s m args meth c D b0) {k7 : Nat → Int32 → Int32 → Int32 → Int32 → Option (Int32)} {res : Int32} (hk7 : ∀ (v0 : Nat) (v1 : Int32) (v2 : Int32) (v3 : Int32) (v4 : Int32), k7 v0 v1 v2 v3 v4 = some res → ∀ (H : Heap) (locs : List Loc) (ls : Array Slot), MM vwCl D b0 f sz s H → mS b0 s H locs → lv_has ls 7 [(0, .ref v0), (1, .int v1), (2, .int v2), (3, .int v3), (4, .int v4)] → W p l e ({ frames := 1, cells := 0, slots := 0, locals := 23 } : Room) s m args below meth c H locs 0 0 (MQ below (QW D b0 (some (.int res)) f sz) args s 0 0 (fun q => b0 ≤ q)) (F0 m 7 ls [])) : ∀ (v0 : Nat) (v1 : Int32) (v3 : Int32) (v4 : Int32) (v5 : Int32) (t0 : Int32), f_X10_refutes_136 k7 f v0 v1 v3 v4 v5 t0 = some res → ∀ (H : Heap) (locs : List Loc) (ls : Array Slot), MM vwCl D b0 f sz s H → mS b0 s H locs → lv_has ls 7 [(0, .ref v0), (1, .int v1), (3, .int v3), (4, .int v4), (5, .int v5)] → W p l e ({ frames := 1, cells := 0, slots := 0, locals := 23 } : Room) s m args below meth c H locs 0 0 (MQ below (QW D b0 (some (.int res)) f sz) args s 0 0 (fun q => b0 ≤ q)) (F0 m 136 ls [.int t0]) := by
  obtain ⟨hx, hb, hr, hml, hown, hts, hlocks, hK⟩ := id C0
  intro v0 v1 v3 v4 v5 t0 h H locs ls hM hS hl
  unfold f_X10_refutes_136 at h
  refine lv_iconst (v := (1 : Int32)) hx hb dX10_refutes_136 (by decide) ?_
  refine lv_goto (tgt := 141) hx hb dX10_refutes_137 (by decide) ?_
  exact w_X10_refutes_141 C0 hk7 _ _ _ _ _ _ _ h _ _ _ hM hS (lv_sub hl [0, 1, 2, 3, 4] rfl)
set_option maxHeartbeats 4000000 in
set_option maxRecDepth 100000 in
theorem w_X10_refutes_125 (C0 : CX cX10_refutes 7 (some .int) wsX10_refutes RX10 p s m args meth c D b0) {k7 : Nat → Int32 → Int32 → Int32 → Int32 → Option (Int32)} {res : Int32} (hk7 : ∀ (v0 : Nat) (v1 : Int32) (v2 : Int32) (v3 : Int32) (v4 : Int32), k7 v0 v1 v2 v3 v4 = some res → ∀ (H : Heap) (locs : List Loc) (ls : Array Slot), MM vwCl D b0 f sz s H → mS b0 s H locs → lv_has ls 7 [(0, .ref v0), (1, .int v1), (2, .int v2), (3, .int v3), (4, .int v4)] → W p l e ({ frames := 1, cells := 0, slots := 0, locals := 23 } : Room) s m args below meth c H locs 0 0 (MQ below (QW D b0 (some (.int res)) f sz) args s 0 0 (fun q => b0 ≤ q)) (F0 m 7 ls [])) : ∀ (v0 : Nat) (v1 : Int32) (v2 : Int32) (v3 : Int32) (v4 : Int32) (v5 : Int32), f_X10_refutes_125 k7 f v0 v1 v2 v3 v4 v5 = some res → ∀ (H : Heap) (locs : List Loc) (ls : Array Slot), MM vwCl D b0 f sz s H → mS b0 s H locs → lv_has ls 7 [(0, .ref v0), (1, .int v1), (2, .int v2), (3, .int v3), (4, .int v4), (5, .int v5)] → W p l e ({ frames := 1, cells := 0, slots := 0, locals := 23 } : Room) s m args below meth c H locs 0 0 (MQ below (QW D b0 (some (.int res)) f sz) args s 0 0 (fun q => b0 ≤ q)) (F0 m 125 ls []) := by
  obtain ⟨hx, hb, hr, hml, hown, hts, hlocks, hK⟩ := id C0
  intro v0 v1 v2 v3 v4 v5 h H locs ls hM hS hl
  unfold f_X10_refutes_125 at h
  refine lv_iload_n hx hb dX10_refutes_125 rfl (lv_at hl 2 rfl) ?_
  refine lv_iload hx hb dX10_refutes_126 (lv_at hl 4 rfl) ?_
  refine lv_if_gt (tgt := 136) hx hb dX10_refutes_128 (by decide) (fun c128 => ?_) (fun c128 => ?_)
  · replace h := o_t c128 h
    exact w_X10_refutes_136 C0 hk7 _ _ _ _ _ _ h _ _ _ hM hS (lv_sub hl [0, 1, 3, 4, 5] rfl)
  replace h := o_f c128 h
  refine lv_iload hx hb dX10_refutes_131 (lv_at hl 5 rfl) ?_
  refine lv_if_ne (tgt := 140) hx hb dX10_refutes_133 (by decide) (fun c133 => ?_) (fun c133 => ?_)
  · replace h := o_f c133 h
    refine lv_iconst (v := (0 : Int32)) hx hb dX10_refutes_140 (by decide) ?_
    exact w_X10_refutes_141 C0 hk7 _ _ _ _ _ _ _ h _ _ _ hM hS (lv_sub hl [0, 1, 3, 4, 5] rfl)
  replace h := o_t c133 h
  exact w_X10_refutes_136 C0 hk7 _ _ _ _ _ _ h _ _ _ hM hS (lv_sub hl [0, 1, 3, 4, 5] rfl)
set_option maxHeartbeats 4000000 in
set_option maxRecDepth 100000 in
theorem w_X10_refutes_116 (C0 : CX cX10_refutes 7 (some .int) wsX10_refutes RX10 p s m args meth c D b0) {k7 : Nat → Int32 → Int32 → Int32 → Int32 → Option (Int32)} {k73 : Nat → Int32 → Int32 → Int32 → Int32 → Int32 → Int32 → Option (Int32)} {res : Int32} (hk7 : ∀ (v0 : Nat) (v1 : Int32) (v2 : Int32) (v3 : Int32) (v4 : Int32), k7 v0 v1 v2 v3 v4 = some res → ∀ (H : Heap) (locs : List Loc) (ls : Array Slot), MM vwCl D b0 f sz s H → mS b0 s H locs → lv_has ls 7 [(0, .ref v0), (1, .int v1), (2, .int v2), (3, .int v3), (4, .int v4)] → W p l e ({ frames := 1, cells := 0, slots := 0, locals := 23 } : Room) s m args below meth c H locs 0 0 (MQ below (QW D b0 (some (.int res)) f sz) args s 0 0 (fun q => b0 ≤ q)) (F0 m 7 ls [])) (hk73 : ∀ (v0 : Nat) (v1 : Int32) (v2 : Int32) (v3 : Int32) (v4 : Int32) (v5 : Int32) (v6 : Int32), k73 v0 v1 v2 v3 v4 v5 v6 = some res → ∀ (H : Heap) (locs : List Loc) (ls : Array Slot), MM vwCl D b0 f sz s H → mS b0 s H locs → lv_has ls 7 [(0, .ref v0), (1, .int v1), (2, .int v2), (3, .int v3), (4, .int v4), (5, .int v5), (6, .int v6)] → W p l e ({ frames := 1, cells := 0, slots := 0, locals := 23 } : Room) s m args below meth c H locs 0 0 (MQ below (QW D b0 (some (.int res)) f sz) args s 0 0 (fun q => b0 ≤ q)) (F0 m 73 ls [])) : ∀ (v0 : Nat) (v1 : Int32) (v2 : Int32) (v3 : Int32) (v4 : Int32) (v6 : Int32) (t0 : Int32) (t1 : Int32), f_X10_refutes_116 k7 k73 f v0 v1 v2 v3 v4 v6 t0 t1 = some res → ∀ (H : Heap) (locs : List Loc) (ls : Array Slot), MM vwCl D b0 f sz s H → mS b0 s H locs → lv_has ls 7 [(0, .ref v0), (1, .int v1), (2, .int v2), (3, .int v3), (4, .int v4), (6, .int v6)] → W p l e ({ frames := 1, cells := 0, slots := 0, locals := 23 } : Room) s m args below meth c H locs 0 0 (MQ below (QW D b0 (some (.int res)) f sz) args s 0 0 (fun q => b0 ≤ q)) (F0 m 116 ls [.int t1, .int t0]) := by
  obtain ⟨hx, hb, hr, hml, hown, hts, hlocks, hK⟩ := id C0
  intro v0 v1 v2 v3 v4 v6 t0 t1 h H locs ls hM hS hl
  unfold f_X10_refutes_116 at h
  refine lv_iand hx hb dX10_refutes_116 ?_
  refine lv_istore (lv' := [(5, .int (t0 &&& t1)), (0, .ref v0), (1, .int v1), (2, .int v2), (3, .int v3), (4, .int v4), (6, .int v6)]) hx hb dX10_refutes_117 hl (by decide) rfl (fun ls hl => ?_)
  refine lv_iinc (v := (v6 + (1 : Int32))) (lv' := [(6, .int (v6 + (1 : Int32))), (5, .int (t0 &&& t1)), (0, .ref v0), (1, .int v1), (2, .int v2), (3, .int v3), (4, .int v4)]) hx hb dX10_refutes_119 hl (k := 6) rfl rfl (by decide) rfl (fun ls hl => ?_)
  refine lv_goto (tgt := 73) hx hb dX10_refutes_122 (by decide) ?_
  exact hk73 _ _ _ _ _ _ _ h _ _ _ hM hS (lv_sub hl [2, 3, 4, 5, 6, 1, 0] rfl)
set_option maxHeartbeats 4000000 in
set_option maxRecDepth 100000 in
theorem w_X10_refutes_73 (C0 : CX cX10_refutes 7 (some .int) wsX10_refutes RX10 p s m args meth c D b0) {k7 : Nat → Int32 → Int32 → Int32 → Int32 → Option (Int32)} {res : Int32} (hk7 : ∀ (v0 : Nat) (v1 : Int32) (v2 : Int32) (v3 : Int32) (v4 : Int32), k7 v0 v1 v2 v3 v4 = some res → ∀ (H : Heap) (locs : List Loc) (ls : Array Slot), MM vwCl D b0 f sz s H → mS b0 s H locs → lv_has ls 7 [(0, .ref v0), (1, .int v1), (2, .int v2), (3, .int v3), (4, .int v4)] → W p l e ({ frames := 1, cells := 0, slots := 0, locals := 23 } : Room) s m args below meth c H locs 0 0 (MQ below (QW D b0 (some (.int res)) f sz) args s 0 0 (fun q => b0 ≤ q)) (F0 m 7 ls [])) : ∀ (n : Nat), ∀ (v0 : Nat) (v1 : Int32) (v2 : Int32) (v3 : Int32) (v4 : Int32) (v5 : Int32) (v6 : Int32), f_X10_refutes_73 k7 f n v0 v1 v2 v3 v4 v5 v6 = some res → ∀ (H : Heap) (locs : List Loc) (ls : Array Slot), MM vwCl D b0 f sz s H → mS b0 s H locs → lv_has ls 7 [(0, .ref v0), (1, .int v1), (2, .int v2), (3, .int v3), (4, .int v4), (5, .int v5), (6, .int v6)] → W p l e ({ frames := 1, cells := 0, slots := 0, locals := 23 } : Room) s m args below meth c H locs 0 0 (MQ below (QW D b0 (some (.int res)) f sz) args s 0 0 (fun q => b0 ≤ q)) (F0 m 73 ls []) := by
  obtain ⟨hx, hb, hr, hml, hown, hts, hlocks, hK⟩ := id C0
  intro n
  induction n with
  | zero =>
    intro v0 v1 v2 v3 v4 v5 v6 h
    have h : (none : Option (Int32)) = some res := h
    cases h
  | succ n ih =>
    intro v0 v1 v2 v3 v4 v5 v6 h H locs ls hM hS hl
    rw [f_X10_refutes_73] at h
    refine lv_iload hx hb dX10_refutes_73 (lv_at hl 6 rfl) ?_
    refine lv_aload_n hx hb dX10_refutes_75 rfl (lv_at hl 0 rfl) ?_
    replace h := o_b h; obtain ⟨x76, h76, h⟩ := h
    refine m_get (C := RX10) (T := TX10) (N := 25) (ci := 10) hx hb hts qi_X10_refutes_X10 hown hK.1 hM 19 (ldI_F h76) rfl (by decide) (hts _ q_X10_refutes_3) (fun _ h9 => h9) dX10_refutes_76 ?_
    refine lv_icmp_ge (tgt := 125) hx hb dX10_refutes_79 (by decide) (fun c79 => ?_) (fun c79 => ?_)
    · replace h := o_t c79 h
      exact w_X10_refutes_125 C0 hk7 _ _ _ _ _ _ h _ _ _ hM hS (lv_sub hl [0, 1, 2, 3, 4, 5] rfl)
    replace h := o_f c79 h
    refine lv_iload hx hb dX10_refutes_82 (lv_at hl 5 rfl) ?_
    refine lv_if_eq (tgt := 125) hx hb dX10_refutes_84 (by decide) (fun c84 => ?_) (fun c84 => ?_)
    · replace h := o_t c84 h
      exact w_X10_refutes_125 C0 hk7 _ _ _ _ _ _ h _ _ _ hM hS (lv_sub hl [0, 1, 2, 3, 4, 5] rfl)
    replace h := o_f c84 h
    refine lv_iload hx hb dX10_refutes_87 (lv_at hl 5 rfl) ?_
    refine lv_aload_n hx hb dX10_refutes_89 rfl (lv_at hl 0 rfl) ?_
    refine lv_iload_n hx hb dX10_refutes_90 rfl (lv_at hl 1 rfl) ?_
    refine lv_iload hx hb dX10_refutes_91 (lv_at hl 6 rfl) ?_
    replace h := o_b h; obtain ⟨_, k93, h⟩ := h
    replace h := o_b h; obtain ⟨q93, h93, h⟩ := h
    refine m_call (va_runV (As := [.int v1, .int v6]) (rest := [.int v5]) ⟨hx, hb, hml, hown, hts⟩ (c_X10_has l D b0 sz h93) (cwV 2 hts gX10_refutes_X10_has rfl rfl rfl (by decide +kernel) ⟨Nat.le_of_ble_eq_true rfl, Nat.le_of_ble_eq_true rfl⟩) ⟨PW.blind, m_recv (ci := 10) rfl hK hM k93, (fun U hU hW => ⟨rfl, PW.call hK hM hS hU hW⟩)⟩ rfl rfl hl.1 rfl (lv_room (Nat.le_of_ble_eq_true rfl)) dX10_refutes_93 ⟨(Nat.le_refl _), (Nat.le_refl _)⟩) hS (fun H locs hM hS => ?_)
    refine lv_if_eq (tgt := 115) hx hb dX10_refutes_96 (by decide) (fun c96 => ?_) (fun c96 => ?_)
    · replace h := o_t c96 h
      refine lv_iconst (v := (-1 : Int32)) hx hb dX10_refutes_115 (by decide) ?_
      exact w_X10_refutes_116 C0 hk7 ih _ _ _ _ _ _ _ _ h _ _ _ hM hS (lv_sub hl [0, 1, 2, 3, 4, 6] rfl)
    replace h := o_f c96 h
    refine lv_aload_n hx hb dX10_refutes_99 rfl (lv_at hl 0 rfl) ?_
    replace h := o_b h; obtain ⟨x100, h100, h⟩ := h
    refine m_get (C := RX10) (T := TX10) (N := 25) (ci := 10) hx hb hts qi_X10_refutes_X10 hown hK.1 hM 18 (ldR_F h100) rfl (by decide) (hts _ q_X10_refutes_1) (fun _ h9 => h9) dX10_refutes_100 ?_
    refine lv_bipush (v := (91 : Int32)) hx hb dX10_refutes_103 (by decide) ?_
    refine lv_iload hx hb dX10_refutes_105 (lv_at hl 6 rfl) ?_
    refine lv_imul hx hb dX10_refutes_107 ?_
    refine lv_iload hx hb dX10_refutes_108 (lv_at hl 4 rfl) ?_
    refine lv_iadd hx hb dX10_refutes_110 ?_
    replace h := o_b h; obtain ⟨x111, h111, h⟩ := h
    refine m_iald hx hb hK.1 hM hS rfl h111 dX10_refutes_111 ?_
    refine lv_goto (tgt := 116) hx hb dX10_refutes_112 (by decide) ?_
    exact w_X10_refutes_116 C0 hk7 ih _ _ _ _ _ _ _ _ h _ _ _ hM hS (lv_sub hl [0, 1, 2, 3, 4, 6] rfl)
set_option maxHeartbeats 4000000 in
set_option maxRecDepth 100000 in
theorem w_X10_refutes_68 (C0 : CX cX10_refutes 7 (some .int) wsX10_refutes RX10 p s m args meth c D b0) {k7 : Nat → Int32 → Int32 → Int32 → Int32 → Option (Int32)} {res : Int32} (hk7 : ∀ (v0 : Nat) (v1 : Int32) (v2 : Int32) (v3 : Int32) (v4 : Int32), k7 v0 v1 v2 v3 v4 = some res → ∀ (H : Heap) (locs : List Loc) (ls : Array Slot), MM vwCl D b0 f sz s H → mS b0 s H locs → lv_has ls 7 [(0, .ref v0), (1, .int v1), (2, .int v2), (3, .int v3), (4, .int v4)] → W p l e ({ frames := 1, cells := 0, slots := 0, locals := 23 } : Room) s m args below meth c H locs 0 0 (MQ below (QW D b0 (some (.int res)) f sz) args s 0 0 (fun q => b0 ≤ q)) (F0 m 7 ls [])) : ∀ (v0 : Nat) (v1 : Int32) (v2 : Int32) (v3 : Int32) (v4 : Int32) (t0 : Int32), f_X10_refutes_68 k7 f v0 v1 v2 v3 v4 t0 = some res → ∀ (H : Heap) (locs : List Loc) (ls : Array Slot), MM vwCl D b0 f sz s H → mS b0 s H locs → lv_has ls 7 [(0, .ref v0), (1, .int v1), (2, .int v2), (3, .int v3), (4, .int v4)] → W p l e ({ frames := 1, cells := 0, slots := 0, locals := 23 } : Room) s m args below meth c H locs 0 0 (MQ below (QW D b0 (some (.int res)) f sz) args s 0 0 (fun q => b0 ≤ q)) (F0 m 68 ls [.int t0]) := by
  obtain ⟨hx, hb, hr, hml, hown, hts, hlocks, hK⟩ := id C0
  intro v0 v1 v2 v3 v4 t0 h H locs ls hM hS hl
  unfold f_X10_refutes_68 at h
  refine lv_istore (lv' := [(5, .int t0), (0, .ref v0), (1, .int v1), (2, .int v2), (3, .int v3), (4, .int v4)]) hx hb dX10_refutes_68 hl (by decide) rfl (fun ls hl => ?_)
  refine lv_iconst (v := (0 : Int32)) hx hb dX10_refutes_70 (by decide) ?_
  refine lv_istore (lv' := [(6, .int (0 : Int32)), (5, .int t0), (0, .ref v0), (1, .int v1), (2, .int v2), (3, .int v3), (4, .int v4)]) hx hb dX10_refutes_71 hl (by decide) rfl (fun ls hl => ?_)
  exact w_X10_refutes_73 C0 hk7 FU _ _ _ _ _ _ _ h _ _ _ hM hS (lv_sub hl [2, 3, 4, 5, 6, 1, 0] rfl)
set_option maxHeartbeats 4000000 in
set_option maxRecDepth 100000 in
theorem w_X10_refutes_7 (C0 : CX cX10_refutes 7 (some .int) wsX10_refutes RX10 p s m args meth c D b0) {res : Int32} : ∀ (n : Nat), ∀ (v0 : Nat) (v1 : Int32) (v2 : Int32) (v3 : Int32) (v4 : Int32), f_X10_refutes_7 f n v0 v1 v2 v3 v4 = some res → ∀ (H : Heap) (locs : List Loc) (ls : Array Slot), MM vwCl D b0 f sz s H → mS b0 s H locs → lv_has ls 7 [(0, .ref v0), (1, .int v1), (2, .int v2), (3, .int v3), (4, .int v4)] → W p l e ({ frames := 1, cells := 0, slots := 0, locals := 23 } : Room) s m args below meth c H locs 0 0 (MQ below (QW D b0 (some (.int res)) f sz) args s 0 0 (fun q => b0 ≤ q)) (F0 m 7 ls []) := by
  obtain ⟨hx, hb, hr, hml, hown, hts, hlocks, hK⟩ := id C0
  intro n
  induction n with
  | zero =>
    intro v0 v1 v2 v3 v4 h
    have h : (none : Option (Int32)) = some res := h
    cases h
  | succ n ih =>
    intro v0 v1 v2 v3 v4 h H locs ls hM hS hl
    rw [f_X10_refutes_7] at h
    refine lv_iload hx hb dX10_refutes_7 (lv_at hl 4 rfl) ?_
    refine lv_bipush (v := (91 : Int32)) hx hb dX10_refutes_9 (by decide) ?_
    refine lv_icmp_ge (tgt := 182) hx hb dX10_refutes_11 (by decide) (fun c11 => ?_) (fun c11 => ?_)
    · replace h := o_t c11 h
      refine lv_iload_n hx hb dX10_refutes_182 rfl (lv_at hl 2 rfl) ?_
      refine lv_if_eq (tgt := 190) hx hb dX10_refutes_183 (by decide) (fun c183 => ?_) (fun c183 => ?_)
      · replace h := o_t c183 h
        refine lv_iload_n hx hb dX10_refutes_190 rfl (lv_at hl 3 rfl) ?_
        refine lv_if_eq (tgt := 198) hx hb dX10_refutes_191 (by decide) (fun c191 => ?_) (fun c191 => ?_)
        · replace h := o_t c191 h
          refine lv_iconst (v := (0 : Int32)) hx hb dX10_refutes_198 (by decide) ?_
          replace h := Option.some.inj h; subst h
          exact W.iret hx hb hr (fun t ht hW => ⟨rfl, by rw [ht]; exact hM.moved hW.alike, hS.F ht⟩) hS.2.2 dX10_refutes_199
        replace h := o_f c191 h
        refine lv_iconst (v := (1 : Int32)) hx hb dX10_refutes_194 (by decide) ?_
        refine lv_goto (tgt := 199) hx hb dX10_refutes_195 (by decide) ?_
        replace h := Option.some.inj h; subst h
        exact W.iret hx hb hr (fun t ht hW => ⟨rfl, by rw [ht]; exact hM.moved hW.alike, hS.F ht⟩) hS.2.2 dX10_refutes_199
      replace h := o_f c183 h
      refine lv_iconst (v := (2 : Int32)) hx hb dX10_refutes_186 (by decide) ?_
      refine lv_goto (tgt := 199) hx hb dX10_refutes_187 (by decide) ?_
      replace h := Option.some.inj h; subst h
      exact W.iret hx hb hr (fun t ht hW => ⟨rfl, by rw [ht]; exact hM.moved hW.alike, hS.F ht⟩) hS.2.2 dX10_refutes_199
    replace h := o_f c11 h
    refine lv_iload hx hb dX10_refutes_14 (lv_at hl 4 rfl) ?_
    refine lv_if_ne (tgt := 24) hx hb dX10_refutes_16 (by decide) (fun c16 => ?_) (fun c16 => ?_)
    · replace h := o_f c16 h
      refine lv_iload hx hb dX10_refutes_24 (lv_at hl 4 rfl) ?_
      refine lv_bipush (v := (7 : Int32)) hx hb dX10_refutes_26 (by decide) ?_
      refine lv_icmp_ge (tgt := 44) hx hb dX10_refutes_28 (by decide) (fun c28 => ?_) (fun c28 => ?_)
      · replace h := o_t c28 h
        refine lv_iload hx hb dX10_refutes_44 (lv_at hl 4 rfl) ?_
        refine lv_bipush (v := (31 : Int32)) hx hb dX10_refutes_46 (by decide) ?_
        refine lv_icmp_ge (tgt := 55) hx hb dX10_refutes_48 (by decide) (fun c48 => ?_) (fun c48 => ?_)
        · replace h := o_t c48 h
          refine lv_iload hx hb dX10_refutes_55 (lv_at hl 4 rfl) ?_
          refine lv_bipush (v := (31 : Int32)) hx hb dX10_refutes_57 (by decide) ?_
          refine lv_isub hx hb dX10_refutes_59 ?_
          refine lv_bipush (v := (20 : Int32)) hx hb dX10_refutes_60 (by decide) ?_
          refine lv_sipush (v := (625 : Int32)) hx hb dX10_refutes_62 (by decide) ?_
          replace h := o_b h; obtain ⟨q65, h65, h⟩ := h
          refine m_call (va_runS (As := [.int (v4 - (31 : Int32)), .int (20 : Int32), .int (625 : Int32)]) (rest := []) ⟨hx, hb, hml, hown, hts⟩ (c_X10_wordEnd l D b0 sz h65) (va_cwS 3 hts gX10_refutes_X10_wordEnd rfl rfl rfl (by decide +kernel) ⟨Nat.le_of_ble_eq_true rfl, Nat.le_of_ble_eq_true rfl⟩) ⟨PW.blind, (fun U hU hW => ⟨rfl, PW.call hK hM hS hU hW⟩)⟩ rfl rfl hl.1 rfl (lv_room (Nat.le_of_ble_eq_true rfl)) dX10_refutes_65 ⟨(Nat.le_refl _), (Nat.le_refl _)⟩) hS (fun H locs hM hS => ?_)
          exact w_X10_refutes_68 C0 ih _ _ _ _ _ _ h _ _ _ hM hS (lv_sub hl [0, 1, 2, 3, 4] rfl)
        replace h := o_f c48 h
        refine lv_iconst (v := (-1 : Int32)) hx hb dX10_refutes_51 (by decide) ?_
        refine lv_goto (tgt := 68) hx hb dX10_refutes_52 (by decide) ?_
        exact w_X10_refutes_68 C0 ih _ _ _ _ _ _ h _ _ _ hM hS (lv_sub hl [0, 1, 2, 3, 4] rfl)
      replace h := o_f c28 h
      refine lv_iload hx hb dX10_refutes_31 (lv_at hl 4 rfl) ?_
      refine lv_iconst (v := (1 : Int32)) hx hb dX10_refutes_33 (by decide) ?_
      refine lv_isub hx hb dX10_refutes_34 ?_
      refine lv_iconst (v := (3 : Int32)) hx hb dX10_refutes_35 (by decide) ?_
      refine lv_bipush (v := (81 : Int32)) hx hb dX10_refutes_36 (by decide) ?_
      replace h := o_b h; obtain ⟨q38, h38, h⟩ := h
      refine m_call (va_runS (As := [.int (v4 - (1 : Int32)), .int (3 : Int32), .int (81 : Int32)]) (rest := []) ⟨hx, hb, hml, hown, hts⟩ (c_X10_wordEnd l D b0 sz h38) (va_cwS 3 hts gX10_refutes_X10_wordEnd rfl rfl rfl (by decide +kernel) ⟨Nat.le_of_ble_eq_true rfl, Nat.le_of_ble_eq_true rfl⟩) ⟨PW.blind, (fun U hU hW => ⟨rfl, PW.call hK hM hS hU hW⟩)⟩ rfl rfl hl.1 rfl (lv_room (Nat.le_of_ble_eq_true rfl)) dX10_refutes_38 ⟨(Nat.le_refl _), (Nat.le_refl _)⟩) hS (fun H locs hM hS => ?_)
      refine lv_goto (tgt := 68) hx hb dX10_refutes_41 (by decide) ?_
      exact w_X10_refutes_68 C0 ih _ _ _ _ _ _ h _ _ _ hM hS (lv_sub hl [0, 1, 2, 3, 4] rfl)
    replace h := o_t c16 h
    refine lv_ldc (v := (65535 : Int32)) hx hb hown (hts _ q_X10_refutes_4) dX10_refutes_19 ?_
    refine lv_goto (tgt := 68) hx hb dX10_refutes_21 (by decide) ?_
    exact w_X10_refutes_68 C0 ih _ _ _ _ _ _ h _ _ _ hM hS (lv_sub hl [0, 1, 2, 3, 4] rfl)
set_option maxHeartbeats 4000000 in
set_option maxRecDepth 100000 in
theorem w_X10_refutes (C0 : CX cX10_refutes 7 (some .int) wsX10_refutes RX10 p s m args meth c D b0) {v0 : Nat} {v1 : Int32} {res : Int32} (h : f_X10_refutes v0 v1 f = some res) : ∀ (H : Heap) (locs : List Loc) (ls : Array Slot), MM vwCl D b0 f sz s H → mS b0 s H locs → lv_has ls 7 [(0, .ref v0), (1, .int v1)] → W p l e ({ frames := 1, cells := 0, slots := 0, locals := 23 } : Room) s m args below meth c H locs 0 0 (MQ below (QW D b0 (some (.int res)) f sz) args s 0 0 (fun q => b0 ≤ q)) (F0 m 0 ls []) := by
  obtain ⟨hx, hb, hr, hml, hown, hts, hlocks, hK⟩ := id C0
  intro H locs ls hM hS hl
  unfold f_X10_refutes at h
  refine lv_iconst (v := (1 : Int32)) hx hb dX10_refutes_0 (by decide) ?_
  refine lv_istore_n (lv' := [(2, .int (1 : Int32)), (0, .ref v0), (1, .int v1)]) hx hb dX10_refutes_1 rfl hl (by decide) rfl (fun ls hl => ?_)
  refine lv_iconst (v := (0 : Int32)) hx hb dX10_refutes_2 (by decide) ?_
  refine lv_istore_n (lv' := [(3, .int (0 : Int32)), (2, .int (1 : Int32)), (0, .ref v0), (1, .int v1)]) hx hb dX10_refutes_3 rfl hl (by decide) rfl (fun ls hl => ?_)
  refine lv_iconst (v := (0 : Int32)) hx hb dX10_refutes_4 (by decide) ?_
  refine lv_istore (lv' := [(4, .int (0 : Int32)), (3, .int (0 : Int32)), (2, .int (1 : Int32)), (0, .ref v0), (1, .int v1)]) hx hb dX10_refutes_5 hl (by decide) rfl (fun ls hl => ?_)
  exact w_X10_refutes_7 C0 FU _ _ _ _ _ h _ _ _ hM hS (lv_sub hl [3, 4, 2, 1, 0] rfl)
set_option maxHeartbeats 4000000 in
set_option maxRecDepth 100000 in
theorem c_X10_refutes (l : Launch) (D : mmD) (b0 sz : Nat) {v0 : Nat} {v1 : Int32} {f : mmF} {res : Int32} (h : f_X10_refutes v0 v1 f = some res) : Met l yX10_refutes wsX10_refutes ({ frames := 1, cells := 0, slots := 0, locals := 23 } : Room) (va_Pc [.ref v0, .int v1] (PW D b0 f sz)) (QW D b0 (some (.int res)) f sz) 0 0 (fun q => b0 ≤ q) := by
  refine Met.ofW (cc := cX10_refutes) (maxL := 7) (ret := (some .int)) (by decide) rfl ?_
  intro p e s m args below meth c s₁ B hml hv
  obtain ⟨rfl, hM, hK⟩ := hv
  have hl := lv_entry ([.ref v0, .int v1]) (n := 7) (Nat.le_of_ble_eq_true rfl)
  rw [lg_entry_eq]
  generalize (lg_sl ([.ref v0, .int v1]) ++ List.replicate (7 - (lg_sl ([.ref v0, .int v1])).length) Slot.unset).toArray = ls at hl ⊢
  have hl : lv_has ls 7 [(0, .ref v0), (1, .int v1)] := hl
  exact w_X10_refutes ⟨B.exec, B.bytes, B.returns, hml, findClass_of_methodNamed B.named, atoms_spec (ws := wsX10_refutes) B.pre, B.notSynchronized, hK⟩ h s.heap [] ls hM va_S.rf hl
end S_X10_refutes
